/-! IMAGE and RESTORE -/
theorem Fx.cpy {P : Nat → Nat → Prop} {u : Mm} {a sp d dp n : Nat} (h : ∀ k, dp ≤ k → k < dp + n → P d k) : Fx P u (sC u a sp d dp n) := by
  refine ⟨rfl, fun b k q => ?_⟩
  rw [gI_sC]
  split
  · rename_i c
    obtain ⟨c1, c2, c3⟩ := c
    subst c1
    exact absurd (h k c2 c3) q
  · rfl
def setX (S : St) (X : Option Bk) : St := (sD S, sB S, X, sN S, sY S, sF S)
theorem setX_ok {S : St} {B : Bk} (hS : okS S) (hB : okB B) : okS (setX S (some B)) := ⟨hS.1, hS.2.1, fun B2 e => by have e : some B = some B2 := e; cases e; exact hB, hS.2.2.2.1, hS.2.2.2.2⟩
section IMAGE
variable {G : Gx} {u : Mm}
theorem cp_ok {a b n : Nat} (la : ln G a = n) (lb : ln G b = n) (hn : n < 2 ^ 31) : cpOk G a (0 : Int32) b (0 : Int32) (nI n) := by
  unfold cpOk
  rw [nI_clamp hn, la, lb]
  have z : (0 : Int32).toNatClampNeg = 0 := rfl
  rw [z]
  exact ⟨by decide, by decide, nI_pos hn, by omega, by omega⟩
theorem c_stCopy {Q : Mm → Prop} {d s : Nat} (hd : TR G u d) (hs : TR G u s) (hds : d + 3 ≤ s ∨ s + 3 ≤ d) (hQ : ∀ u', Fx (fun a _ => d ≤ a ∧ a < d + 3) u u' → (∀ f, f < 5 → gI u' d f = gI u s f) → (∀ i, i < 12 → gI u' (d + 1) i = gI u (s + 1) i) → (∀ i, i < 12 → gI u' (d + 2) i = gI u (s + 2) i) → Q u') : V_X7_copyFrom G d s u Q := by
  obtain ⟨d0, dk, ⟨d1, d2, d3⟩, ⟨d4, d5, d6⟩⟩ := hd
  obtain ⟨s0, sk, ⟨s1, s2, s3⟩, ⟨s4, s5, s6⟩⟩ := hs
  refine ⟨sk, dk, dk, fun v1 e1 v2 e2 v3 e3 v4 e4 v5 e5 v6 e6 => ?_⟩
  have f5 : Fx (fun a j => a = d) u v5 := by
    rw [e5, e4, e3, e2, e1]
    exact ((((Fx.put (by omega)).trans (Fx.put (by omega))).trans (Fx.put (by omega))).trans (Fx.put (by omega))).trans (Fx.put (by omega))
  rw [f5.2 s 4 (by omega)] at e6
  have f6 : Fx (fun a j => a = d) u v6 := by rw [e6]; exact f5.trans (Fx.put rfl)
  have w0 : gI v6 d 0 = gI u s 0 := by
    rw [e6, gI_sI, if_neg (by omega), e5, gI_sI, if_neg (by omega), e4, gI_sI, if_neg (by omega), e3, gI_sI, if_neg (by omega), e2, gI_sI, if_neg (by omega), e1, gI_sI, if_pos ⟨rfl, rfl⟩]
  have w1 : gI v6 d 1 = gI u s 1 := by
    rw [e6, gI_sI, if_neg (by omega), e5, gI_sI, if_neg (by omega), e4, gI_sI, if_neg (by omega), e3, gI_sI, if_neg (by omega), e2, gI_sI, if_pos ⟨rfl, rfl⟩]
  have w2 : gI v6 d 2 = gI u s 2 := by
    rw [e6, gI_sI, if_neg (by omega), e5, gI_sI, if_neg (by omega), e4, gI_sI, if_neg (by omega), e3, gI_sI, if_pos ⟨rfl, rfl⟩]
  have w3 : gI v6 d 3 = gI u s 3 := by
    rw [e6, gI_sI, if_neg (by omega), e5, gI_sI, if_neg (by omega), e4, gI_sI, if_pos ⟨rfl, rfl⟩]
  have w4 : gI v6 d 4 = gI u s 4 := by
    rw [e6, gI_sI, if_pos ⟨rfl, rfl⟩]
  clear e1 e2 e3 e4 e5 e6
  rw [f6.gR, f6.gR, s3, d3]
  have c12 : cpOk G (s + 1) (0 : Int32) (d + 1) (0 : Int32) (12 : Int32) := cp_ok (n := 12) s2 d2 (by omega)
  refine ⟨by omega, by omega, s1, d1, c12, fun v7 e7 => ?_⟩
  have e7' : v7 = sC v6 (s + 1) 0 (d + 1) 0 12 := e7
  have f7 : Fx (fun a j => a = d + 1) v6 v7 := by rw [e7']; exact Fx.cpy (fun _ _ _ => rfl)
  have x7 : ∀ i, i < 12 → gI v7 (d + 1) i = gI u (s + 1) i := by
    intro i hi
    rw [e7', gI_sC, if_pos ⟨rfl, by omega, by omega⟩, Nat.sub_zero, Nat.zero_add, f6.2 _ _ (by omega)]
  clear e7 e7'
  rw [f7.gR, f7.gR, f6.gR, f6.gR, s6, d6]
  have c12 : cpOk G (s + 2) (0 : Int32) (d + 2) (0 : Int32) (12 : Int32) := cp_ok (n := 12) s5 d5 (by omega)
  refine ⟨by omega, by omega, s4, d4, c12, fun v8 e8 => ?_⟩
  have e8' : v8 = sC v7 (s + 2) 0 (d + 2) 0 12 := e8
  have f8 : Fx (fun a j => a = d + 2) v7 v8 := by rw [e8']; exact Fx.cpy (fun _ _ _ => rfl)
  have x8 : ∀ i, i < 12 → gI v8 (d + 2) i = gI u (s + 2) i := by
    intro i hi
    rw [e8', gI_sC, if_pos ⟨rfl, by omega, by omega⟩, Nat.sub_zero, Nat.zero_add, f7.2 _ _ (by omega), f6.2 _ _ (by omega)]
  clear e8 e8'
  refine hQ v8 (((f6.mono (fun a j q => by omega)).trans (f7.mono (fun a j q => by omega))).trans (f8.mono (fun a j q => by omega))) (fun f hf => ?_) (fun i hi => ?_) x8
  · rw [f8.2 _ _ (by omega), f7.2 _ _ (by omega)]
    have : f = 0 ∨ f = 1 ∨ f = 2 ∨ f = 3 ∨ f = 4 := by omega
    rcases this with rfl | rfl | rfl | rfl | rfl
    · exact w0
    · exact w1
    · exact w2
    · exact w3
    · exact w4
  · rw [f8.2 _ _ (by omega)]; exact x7 i hi
theorem c_bkCopy {Q : Mm → Prop} {d s : Nat} {B : Bk} (hd : BR G u d) (hs : BR G u s) (hB : BC u s B) (hk : okB B) (hds : d + 66 ≤ s ∨ s + 66 ≤ d) (hQ : ∀ u', Fx (fun a _ => d ≤ a ∧ a < d + 66) u u' → BC u' d B → Q u') : V_X1_copyFrom G d s u Q := by
  obtain ⟨g1, g2, g3, g4, g5⟩ := id hB
  have n20 := hk.1
  have s8 := hk.2.1
  have dk := hd.2.1
  have sk := hs.2.1
  refine ⟨sk, dk, fun v0 e0 => ⟨bkN B + 1, ?_⟩⟩
  rw [g1] at e0
  have f0 : Fx (fun a j => d ≤ a ∧ a < d + 66) u v0 := by rw [e0]; exact Fx.put ⟨by omega, by omega⟩
  have x0 : gI v0 d 1 = nI (bkN B) := by rw [e0, gI_sI, if_pos ⟨rfl, rfl⟩]
  clear e0
  suffices go : ∀ (n k : Nat) (v : Mm), k + n = bkN B → Fx (fun a _ => d ≤ a ∧ a < d + 66) u v → gI v d 1 = nI (bkN B) → (∀ t, t < k → (∀ f, f < 5 → gI v (d + 6 + 3 * t) f = gI u (s + 6 + 3 * t) f) ∧ (∀ i, i < 12 → gI v (d + 7 + 3 * t) i = gI u (s + 7 + 3 * t) i) ∧ (∀ i, i < 12 → gI v (d + 8 + 3 * t) i = gI u (s + 8 + 3 * t) i)) → V_X1_copyFrom_10 G Q (n + 1) d s (nI k) v from go (bkN B) 0 v0 (by omega) f0 x0 (fun t ht => absurd ht (by omega))
  intro n
  induction n with
  | zero =>
    intro k v hkn f x1 hst
    have hkn' : k = bkN B := by omega
    subst hkn'
    obtain ⟨d0, _, ⟨a1, a2, a3⟩, ⟨b1, b2, b3⟩, ⟨c1, c2, c3⟩, _⟩ := id hd
    obtain ⟨t0, _, ⟨p1, p2, p3⟩, ⟨q1, q2, q3⟩, ⟨r1, r2, r3⟩, _⟩ := id hs
    show V_X1_copyFrom_10_B G Q (V_X1_copyFrom_10 G Q 0) d s (nI (bkN B)) v
    unfold V_X1_copyFrom_10_B
    rw [x1]
    refine ⟨dk, fun _ => ⟨sk, fun v1 e1 => ?_⟩, fun c => absurd (nI_le (Nat.le_refl _) (by omega)) c⟩
    rw [f.2 s 4 (by omega), g2] at e1
    have f1 : Fx (fun a j => a = d ∧ j = 4) v v1 := by rw [e1]; exact Fx.put ⟨rfl, rfl⟩
    have y1 : gI v1 d 4 = nI (bkS B) := by rw [e1, gI_sI, if_pos ⟨rfl, rfl⟩]
    clear e1
    have k1 : ∀ a j, gR v1 a j = gR u a j := fun a j => by rw [f1.gR, f.gR]
    rw [k1, k1, p3, a3]
    have c8 : cpOk G (s + 1) (0 : Int32) (d + 1) (0 : Int32) (8 : Int32) := cp_ok (n := 8) p2 a2 (by omega)
    refine ⟨by omega, by omega, p1, a1, c8, fun v2 e2 => ?_⟩
    have e2' : v2 = sC v1 (s + 1) 0 (d + 1) 0 8 := e2
    have f2 : Fx (fun a j => a = d + 1) v1 v2 := by rw [e2']; exact Fx.cpy (fun _ _ _ => rfl)
    have y2 : ∀ i, i < 8 → gI v2 (d + 1) i = gI u (s + 1) i := by
      intro i hi
      rw [e2', gI_sC, if_pos ⟨rfl, by omega, by omega⟩, Nat.sub_zero, Nat.zero_add, f1.2 _ _ (by omega), f.2 _ _ (by omega)]
    clear e2 e2'
    rw [f2.gR, f2.gR, k1, k1, q3, b3]
    have c8 : cpOk G (s + 2) (0 : Int32) (d + 2) (0 : Int32) (8 : Int32) := cp_ok (n := 8) q2 b2 (by omega)
    refine ⟨by omega, by omega, q1, b1, c8, fun v3 e3 => ?_⟩
    have e3' : v3 = sC v2 (s + 2) 0 (d + 2) 0 8 := e3
    have f3 : Fx (fun a j => a = d + 2) v2 v3 := by rw [e3']; exact Fx.cpy (fun _ _ _ => rfl)
    have y3 : ∀ i, i < 8 → gI v3 (d + 2) i = gI u (s + 2) i := by
      intro i hi
      rw [e3', gI_sC, if_pos ⟨rfl, by omega, by omega⟩, Nat.sub_zero, Nat.zero_add, f2.2 _ _ (by omega), f1.2 _ _ (by omega), f.2 _ _ (by omega)]
    clear e3 e3'
    rw [f3.gR, f3.gR, f2.gR, f2.gR, k1, k1, r3, c3]
    have c4 : cpOk G (s + 3) (0 : Int32) (d + 3) (0 : Int32) (4 : Int32) := cp_ok (n := 4) r2 c2 (by omega)
    refine ⟨by omega, by omega, r1, c1, c4, fun v4 e4 => ?_⟩
    have e4' : v4 = sC v3 (s + 3) 0 (d + 3) 0 4 := e4
    have f4 : Fx (fun a j => a = d + 3) v3 v4 := by rw [e4']; exact Fx.cpy (fun _ _ _ => rfl)
    have y4 : ∀ i, i < 4 → gI v4 (d + 3) i = gI u (s + 3) i := by
      intro i hi
      rw [e4', gI_sC, if_pos ⟨rfl, by omega, by omega⟩, Nat.sub_zero, Nat.zero_add, f3.2 _ _ (by omega), f2.2 _ _ (by omega), f1.2 _ _ (by omega), f.2 _ _ (by omega)]
    clear e4 e4'
    have F : Fx (fun a j => (a = d ∧ j = 4) ∨ (d + 1 ≤ a ∧ a ≤ d + 3)) v v4 := (((f1.mono (fun a j q => by omega)).trans (f2.mono (fun a j q => by omega))).trans (f3.mono (fun a j q => by omega))).trans (f4.mono (fun a j q => by omega))
    refine hQ v4 (f.trans (F.mono (fun a j q => by omega))) ⟨?_, ?_, fun t ht => ?_, fun i hi => ⟨?_, ?_⟩, fun i hi => ?_⟩
    · rw [F.2 _ _ (by omega)]; exact x1
    · rw [f4.2 _ _ (by omega), f3.2 _ _ (by omega), f2.2 _ _ (by omega)]; exact y1
    · obtain ⟨z1, z2, z3⟩ := hst t ht
      have tl := (hk.2.2.1 t ht).2.2.2
      obtain ⟨m1, m2, m3, m4⟩ := g3 t ht
      refine ⟨fun i hi => ?_, ?_, fun i hi => ?_, fun i hi => ?_⟩
      · rw [F.2 _ _ (by omega), z1 i (by omega)]; exact m1 i hi
      · rw [F.2 _ _ (by omega), z1 4 (by omega)]; exact m2
      · rw [F.2 _ _ (by omega), z2 i (by omega)]; exact m3 i hi
      · rw [F.2 _ _ (by omega), Nat.zero_add, z3 i (by omega)]
        have := m4 i hi
        rw [Nat.zero_add] at this
        exact this
    · rw [f4.2 _ _ (by omega), f3.2 _ _ (by omega), y2 i (by omega)]; exact (g4 i hi).1
    · rw [f4.2 _ _ (by omega), y3 i (by omega)]; exact (g4 i hi).2
    · rw [y4 i hi]; exact g5 i hi
  | succ n ih =>
    intro k v hkn f x1 hst
    have hdv := hd.keep (v := v) (fun a j _ _ _ => f.gR a j)
    have hsv := hs.keep (v := v) (fun a j _ _ _ => f.gR a j)
    obtain ⟨d0, _, _, _, _, ⟨a5, a6, a7⟩, _, a11⟩ := id hdv
    obtain ⟨t0, _, _, _, _, ⟨b5, b6, b7⟩, _, b11⟩ := id hsv
    obtain ⟨q1, q2⟩ := a11 k (by omega)
    obtain ⟨r1, r2⟩ := b11 k (by omega)
    show V_X1_copyFrom_10_B G Q (V_X1_copyFrom_10 G Q (n + 1)) d s (nI k) v
    unfold V_X1_copyFrom_10_B
    rw [x1, a7, a5, a6, b7, b5, b6, nI_clamp (by omega), q1, r1]
    have hv : vp_in (nI k) 20 := vp_in_nI (by omega) (by omega)
    refine ⟨dk, fun c => absurd ((nI_leI (by omega) (by omega)).mp c) (by omega), fun _ => ⟨by omega, rfl, hv, by omega, sk, by omega, rfl, hv, by omega, q2.2.1, c_stCopy q2 r2 (by omega) (fun v2 f2 y1 y2 y3 w hw => ?_)⟩⟩
    rw [hw, nI_1]
    refine ih (k + 1) v2 (by omega) (f.trans (f2.mono (fun a j q => by omega))) (by rw [f2.2 _ _ (by omega)]; exact x1) (fun t ht => ?_)
    by_cases q : t = k
    · subst q
      refine ⟨fun i hi => ?_, fun i hi => ?_, fun i hi => ?_⟩
      · rw [y1 i hi, f.2 _ _ (by omega)]
      · rw [show d + 7 + 3 * t = d + 6 + 3 * t + 1 by omega, y2 i hi, f.2 _ _ (by omega), show s + 6 + 3 * t + 1 = s + 7 + 3 * t by omega]
      · rw [show d + 8 + 3 * t = d + 6 + 3 * t + 2 by omega, y3 i hi, f.2 _ _ (by omega), show s + 6 + 3 * t + 2 = s + 8 + 3 * t by omega]
    · obtain ⟨z1, z2, z3⟩ := hst t (by omega)
      refine ⟨fun i hi => ?_, fun i hi => ?_, fun i hi => ?_⟩
      · rw [f2.2 _ _ (by omega)]; exact z1 i hi
      · rw [f2.2 _ _ (by omega)]; exact z2 i hi
      · rw [f2.2 _ _ (by omega)]; exact z3 i hi
theorem c_image {Q : Mm → Prop} {z : Nat} {o : Nat → Nat} {S : St} (hR : RC G u z o S) (hS : okS S) (h : ∀ u', RC G u' z o (setX S (some (sB S))) → Fx (fun a _ => a < z + 476) u u' → Q u') : V_X11_image G z u Q := by
  obtain ⟨h1, ⟨i1, i2, i3, i4⟩, h3, h4, h5, h6, h7, h8⟩ := id hR
  unfold V_X11_image
  rw [h1.kp.1, h1.bk.1]
  refine ⟨h1.k, by omega, by omega, h1.kp.2.2.1, c_bkCopy h1.kp.2 h1.bk.2 h4 hS.2.1 (by omega) (fun v f hB w hw => ?_)⟩
  have f2 : Fx (fun a j => a = z ∧ j = 4) v w := by rw [hw]; exact Fx.put ⟨rfl, rfl⟩
  have y2 : gI w z 4 = 1 := by rw [hw, gI_sI, if_pos ⟨rfl, rfl⟩]
  clear hw
  have F : Fx (fun a j => (a = z ∧ j = 4) ∨ (z + 238 ≤ a ∧ a < z + 304)) u w := (f.mono (fun a j q => by omega)).trans (f2.mono (fun a j q => by omega))
  refine h w ⟨h1.fx F, ⟨fun k hk => ?_, ?_, i3, i4⟩, fun l hl => ?_, ?_, ⟨y2, ?_⟩, ?_, fun i hi => ?_, ?_⟩ (F.mono (fun a j q => by omega))
  · rw [F.gR]; exact i1 k hk
  · rw [F.gR]; exact i2
  · have q := lnd_bd (z := z) (i3 l (by omega))
    exact (h3 l hl).same (hS.1 l hl) (fun b j q1 q2 => F.2 b j (by omega))
  · exact h4.keep hS.2.1 (fun a j q1 q2 _ => F.2 a j (by omega))
  · exact hB.keep hS.2.1 (fun a j q1 q2 _ => f2.2 a j (by omega))
  · rw [F.2 _ _ (by omega)]; exact h6
  · rw [F.2 _ _ (by omega)]; exact h7 i hi
  · rw [F.2 _ _ (by omega)]; exact h8
theorem c_restore {Q : Int32 → Mm → Prop} {z : Nat} {o : Nat → Nat} {S : St} (hR : RC G u z o S) (hS : okS S) (h0 : sX S = none → Q 0 u) (h : ∀ B, sX S = some B → ∀ u', RC G u' z o (setB S B) → Fx (fun a _ => a < z + 476) u u' → Q 1 u') : V_X11_restore G z u Q := by
  obtain ⟨h1, _, _, h4, h5, _⟩ := id hR
  unfold V_X11_restore
  rw [h1.kp.1, h1.bk.1]
  cases hx : sX S with
  | none =>
    rw [hx] at h5
    have h5 : gI u z 4 = 0 := h5
    rw [h5]
    exact ⟨h1.k, fun _ => ⟨Or.inl rfl, h0 hx⟩, fun c => absurd rfl c⟩
  | some B =>
    rw [hx] at h5
    obtain ⟨h5, h6⟩ := h5
    rw [h5]
    refine ⟨h1.k, fun c => absurd c (by decide), fun _ => ⟨by omega, by omega, h1.bk.2.2.1, c_bkCopy h1.bk.2 h1.kp.2 h6 (hS.2.2.1 B hx) (by omega) (fun v f hB => ?_)⟩⟩
    rw [f.2 z 4 (by omega), h5]
    exact ⟨Or.inr rfl, h B hx v (hR.toB hS (f.mono (fun a j q => by omega)) hB) (f.mono (fun a j q => by omega))⟩
/-! the model -/
theorem m_be {Q : Mm → Prop} {a b n : Nat} (ha : kd G a = 13) (hb : kd G b = 13) (la : ln G a = n) (lb : ln G b = n) (hn : n < 2 ^ 31) (hab : a ≠ b) (hQ : ∀ u', Fx (fun c _ => c = a) u u' → (∀ i, i < n → gI u' a i = gI u b i) → Q u') : V_X12_be G a b u Q := by
  suffices go : ∀ (k i : Nat) (v : Mm), i + k = n → Fx (fun c _ => c = a) u v → (∀ j, j < i → gI v a j = gI u b j) → V_X12_be_2 G Q (k + 1) a b (nI i) v from ⟨n + 1, go n 0 u (by omega) Fx.rfl' (fun j hj => absurd hj (by omega))⟩
  intro k
  induction k with
  | zero =>
    intro i v hi f hh
    show V_X12_be_2_B G Q (V_X12_be_2 G Q 0) a b (nI i) v
    unfold V_X12_be_2_B
    rw [la]
    have : i = n := by omega
    subst this
    exact ⟨ha, fun _ => hQ v f hh, fun c => absurd (nI_le (Nat.le_refl _) hn) c⟩
  | succ k ih =>
    intro i v hi f hh
    show V_X12_be_2_B G Q (V_X12_be_2 G Q (k + 1)) a b (nI i) v
    unfold V_X12_be_2_B
    rw [la, lb, nI_clamp (by omega)]
    refine ⟨ha, fun c => absurd ((nI_leI hn (by omega)).mp c) (by omega), fun _ => ⟨hb, vp_in_nI (by omega) hn, vp_in_nI (by omega) hn, fun w hw y hy => ?_⟩⟩
    rw [hy, nI_1, hw]
    refine ih (i + 1) _ (by omega) (f.trans (Fx.put rfl)) (fun j hj => ?_)
    rw [gI_sI]
    by_cases e : j = i
    · rw [if_pos ⟨rfl, e⟩, e, f.2 _ _ (fun c => hab c.symm)]
    · rw [if_neg (by omega)]
      exact hh j (by omega)
/-- rows of a model's book, copied from others -/
theorem BM.copy {v : Mm} {m r q a b r2 q2 a2 b2 : Nat} {B : Bk} (h : BM u m r q a b B) (hk : okB B) (ea : gI v m a2 = gI u m a) (eb : gI v m b2 = gI u m b) (e5 : ∀ f, f < 5 → ∀ i, i < 20 → gI v (m + r2 + f) i = gI u (m + r + f) i) (e6 : ∀ i, i < 240 → gI v (m + r2 + 5) i = gI u (m + r + 5) i) (e7 : ∀ i, i < 240 → gI v (m + r2 + 6) i = gI u (m + r + 6) i) (e8 : ∀ i, i < 8 → gI v (m + r2 + 7) i = gI u (m + r + 7) i) (e9 : ∀ i, i < 8 → gI v (m + r2 + 8) i = gI u (m + r + 8) i) (eq : ∀ i, i < 4 → gI v (m + q2) i = gI u (m + q) i) : BM v m r2 q2 a2 b2 B := by
  obtain ⟨g1, g2, g3, g4, g5⟩ := h
  have n20 := hk.1
  have s8 := hk.2.1
  refine ⟨ea.trans g1, eb.trans g2, fun s hs => ?_, fun i hi => ⟨?_, ?_⟩, fun k hk => (eq k hk).trans (g5 k hk)⟩
  · have tl := (hk.2.2.1 s hs).2.2.2
    obtain ⟨m1, m2, m3, m4⟩ := g3 s hs
    refine ⟨fun f hf => ?_, ?_, fun i hi => ?_, fun i hi => ?_⟩
    · rw [e5 f (by omega) s (by omega)]; exact m1 f hf
    · rw [e5 4 (by omega) s (by omega)]; exact m2
    · rw [e6 _ (by omega)]; exact m3 i hi
    · rw [e7 _ (by omega)]; exact m4 i hi
  · rw [e8 i (by omega)]; exact (g4 i hi).1
  · rw [e9 i (by omega)]; exact (g4 i hi).2
/-- rows copied one behind another -/
def beC (G : Gx) (m : Nat) (jt jf : Nat → Nat) (Q : Mm → Prop) : Nat → Mm → Prop
  | 0, v => Q v
  | n + 1, v => (gR v m (jt n)) ≠ 0 ∧ (gR v m (jf n)) ≠ 0 ∧ V_X12_be G (gR v m (jt n)) (gR v m (jf n)) v (fun v' => beC G m jt jf Q n v')
theorem beC_go {Q : Mm → Prop} {v0 : Mm} {m : Nat} {jt ot jf oo nn : Nat → Nat} (m0 : 0 < m) (hA : ∀ k, k < 10 → AR G v0 m (jt k) (ot k) (nn k)) (hB : ∀ k, k < 10 → AR G v0 m (jf k) (oo k) (nn k)) (hn : ∀ k, k < 10 → nn k < 2 ^ 31) (hd : ∀ i k, i < 10 → k < 10 → ot i ≠ oo k) (hdd : ∀ i k, i < 10 → k < 10 → ot i = ot k → i = k) (hQ : ∀ u', Fx (fun c _ => ∃ k, k < 10 ∧ c = m + ot k) v0 u' → (∀ k, k < 10 → ∀ i, i < nn k → gI u' (m + ot k) i = gI v0 (m + oo k) i) → Q u') : ∀ (n : Nat) (v : Mm), n ≤ 10 → Fx (fun c _ => ∃ k, k < 10 ∧ n ≤ k ∧ c = m + ot k) v0 v → (∀ k, k < 10 → n ≤ k → ∀ i, i < nn k → gI v (m + ot k) i = gI v0 (m + oo k) i) → beC G m jt jf Q n v
  | 0, v, hn0, f, hh => hQ v (f.mono (fun a j q => by obtain ⟨k, h1, h2, h3⟩ := q; exact ⟨k, h1, h3⟩)) (fun k hk => hh k hk (Nat.zero_le _))
  | n + 1, v, hn0, f, hh => by
    obtain ⟨a1, a2, a3⟩ := hA n (by omega)
    obtain ⟨b1, b2, b3⟩ := hB n (by omega)
    show (gR v m (jt n)) ≠ 0 ∧ (gR v m (jf n)) ≠ 0 ∧ V_X12_be G (gR v m (jt n)) (gR v m (jf n)) v (fun v' => beC G m jt jf Q n v')
    rw [f.gR, f.gR, a3, b3]
    have hne := hd n n (by omega) (by omega)
    refine ⟨by omega, by omega, m_be a1 b1 a2 b2 (hn n (by omega)) (by omega) (fun v' f' z' => beC_go m0 hA hB hn hd hdd hQ n v' (by omega) ?_ (fun k hk hnk i hi => ?_))⟩
    · exact (f.mono (fun a j q => by obtain ⟨k, h1, h2, h3⟩ := q; exact ⟨k, h1, by omega, h3⟩)).trans (f'.mono (fun a j q => ⟨n, by omega, by omega, q⟩))
    · by_cases q : k = n
      · subst q
        rw [z' i hi]
        refine f.2 _ _ (fun c => ?_)
        obtain ⟨k2, h1, h2, h3⟩ := c
        exact hd k2 k h1 hk (by omega)
      · have hq : ot k ≠ ot n := fun c => q (hdd k n hk (by omega) c)
        rw [f'.2 _ _ (by omega)]
        exact hh k hk (by omega) i hi
def ieT (k : Nat) : Nat := 39 - k
def ieF (k : Nat) : Nat := if k = 0 then 10 else 25 - k
def ieN (k : Nat) : Nat := if k = 0 then 4 else if k < 3 then 8 else if k < 5 then 240 else 20
theorem ie_then {u : Mm} {m : Nat} (hH : HM G u m) : ∀ k, k < 10 → AR G u m (57 - k) (ieT k) (ieN k) := by
  intro k hk
  obtain ⟨_, _, _, ⟨_, _, _, _, _, r5, n1, o1, p1, q1, s1, _⟩⟩ := hH
  have : k = 0 ∨ k = 1 ∨ k = 2 ∨ k = 3 ∨ k = 4 ∨ k = 5 ∨ k = 6 ∨ k = 7 ∨ k = 8 ∨ k = 9 := by omega
  rcases this with rfl | rfl | rfl | rfl | rfl | rfl | rfl | rfl | rfl | rfl
  · exact s1
  · exact q1
  · exact p1
  · exact o1
  · exact n1
  · exact r5 4 (by omega)
  · exact r5 3 (by omega)
  · exact r5 2 (by omega)
  · exact r5 1 (by omega)
  · exact r5 0 (by omega)
theorem ie_now {u : Mm} {m : Nat} (hH : HM G u m) : ∀ k, k < 10 → AR G u m (if k = 0 then 10 else 38 - k) (ieF k) (ieN k) := by
  intro k hk
  obtain ⟨_, _, ⟨t1, _, a1, b1, c1, d1, e1, g1, i1, j1, k1⟩, _⟩ := hH
  have : k = 0 ∨ k = 1 ∨ k = 2 ∨ k = 3 ∨ k = 4 ∨ k = 5 ∨ k = 6 ∨ k = 7 ∨ k = 8 ∨ k = 9 := by omega
  rcases this with rfl | rfl | rfl | rfl | rfl | rfl | rfl | rfl | rfl | rfl
  · exact t1
  · exact k1
  · exact j1
  · exact i1
  · exact g1
  · exact e1
  · exact d1
  · exact c1
  · exact b1
  · exact a1
theorem ieN_lt (k : Nat) : ieN k < 2 ^ 31 := by unfold ieN; split <;> (try split) <;> (try split) <;> omega
theorem ie_d {i k : Nat} (hi : i < 10) (hk : k < 10) : ieT i ≠ ieF k := by unfold ieT ieF; split <;> omega
theorem ieF_in {k : Nat} (hk : k < 10) : ieF k = 10 ∨ (16 ≤ ieF k ∧ ieF k ≤ 24) := by unfold ieF; split <;> omega
theorem ieF_inj {i k : Nat} (hi : i < 10) (hk : k < 10) (h : ieF i = ieF k) : i = k := by unfold ieF at h; split at h <;> split at h <;> omega
theorem ieT_in {k : Nat} (hk : k < 10) : 30 ≤ ieT k ∧ ieT k < 40 := by unfold ieT; omega
theorem ieT_inj {i k : Nat} (hi : i < 10) (hk : k < 10) (h : ieT i = ieT k) : i = k := by unfold ieT at h; omega
theorem m_image {Q : Mm → Prop} {m : Nat} {S : St} (hR : RM G u m S) (hS : okS S) (h : ∀ u', RM G u' m (setX S (some (sB S))) → Fx (fun a _ => m ≤ a ∧ a < m + 40) u u' → Q u') : V_X12_image G m u Q := by
  have mk : kd G m = 12 := hR.1.1.2.1
  have m0 : 0 < m := hR.1.1.1
  refine ⟨mk, fun v1 e1 v2 e2 v3 e3 v4 e4 => ?_⟩
  have e3 : v3 = sI v2 m 46 (gI u m 27) := by
    rw [e3, show gI v2 m 27 = gI u m 27 by rw [e2, gI_sI, if_neg (by omega), e1, gI_sI, if_neg (by omega)]]
  have e4 : v4 = sI v3 m 47 (gI u m 28) := by
    rw [e4, show gI v3 m 28 = gI u m 28 by rw [e3, gI_sI, if_neg (by omega), e2, gI_sI, if_neg (by omega), e1, gI_sI, if_neg (by omega)]]
  have f4 : Fx (fun a j => a = m ∧ (j = 1 ∨ j = 45 ∨ j = 46 ∨ j = 47)) u v4 := by
    rw [e4, e3, e2, e1]
    exact (((Fx.put (by omega)).trans (Fx.put (by omega))).trans (Fx.put (by omega))).trans (Fx.put (by omega))
  have y45 : gI v4 m 45 = 1 := by rw [e4, gI_sI, if_neg (by omega), e3, gI_sI, if_neg (by omega), e2, gI_sI, if_pos ⟨rfl, rfl⟩]
  have y46 : gI v4 m 46 = gI u m 27 := by rw [e4, gI_sI, if_neg (by omega), e3, gI_sI, if_pos ⟨rfl, rfl⟩]
  have y47 : gI v4 m 47 = gI u m 28 := by rw [e4, gI_sI, if_pos ⟨rfl, rfl⟩]
  clear e1 e2 e3 e4
  have hH4 : HM G v4 m := hR.1.keep (fun a j _ _ => f4.gR a j)
  show beC G m (fun k => 57 - k) (fun k => if k = 0 then 10 else 38 - k) Q 10 v4
  refine beC_go m0 (ie_then hH4) (ie_now hH4) (fun k _ => ieN_lt k) (fun i k hi hk => ie_d hi hk) (fun i k hi hk => ieT_inj hi hk) (fun x10 K z => ?_) 10 v4 (by omega) Fx.rfl' (fun k h1 h2 => absurd h2 (by omega))
  have K : Fx (fun a j => m + 30 ≤ a ∧ a < m + 40) v4 x10 := K.mono (fun a j q => by obtain ⟨k, h1, h2⟩ := q; have := ieT_in h1; omega)
  have F : Fx (fun a j => (a = m ∧ (j = 1 ∨ j = 45 ∨ j = 46 ∨ j = 47)) ∨ (m + 30 ≤ a ∧ a < m + 40)) u x10 := (f4.mono (fun a j q => Or.inl q)).trans (K.mono (fun a j q => Or.inr q))
  have zz : ∀ k, k < 10 → ∀ i, i < ieN k → gI x10 (m + ieT k) i = gI u (m + ieF k) i := by
    intro k hk i hi
    rw [z k hk i hi]
    have := ieF_in hk
    exact f4.2 _ _ (by omega)
  clear z
  obtain ⟨hH, hD, hB, hX, hn, hy, hf⟩ := id hR
  refine h x10 ⟨hH.keep (fun a j _ _ => F.gR a j), fun l hl => (hD l hl).same (fun b j q1 q2 => F.2 b j (by omega)), ?_, ⟨by rw [K.2 _ _ (by omega)]; exact y45, hB.copy hS.2.1 ?_ ?_ (fun f hf i hi => ?_) (zz 4 (by omega)) (zz 3 (by omega)) (zz 2 (by omega)) (zz 1 (by omega)) (zz 0 (by omega))⟩, ?_, fun i hi => ?_, ?_⟩ (F.mono (fun a j q => by omega))
  · exact hB.keep (F.2 _ _ (by omega)) (F.2 _ _ (by omega)) (fun j => F.2 _ _ (by omega)) (fun c j q1 q2 => F.2 _ _ (by omega))
  · rw [K.2 _ _ (by omega)]; exact y46
  · rw [K.2 _ _ (by omega)]; exact y47
  · have : f = 0 ∨ f = 1 ∨ f = 2 ∨ f = 3 ∨ f = 4 := by omega
    rcases this with rfl | rfl | rfl | rfl | rfl
    · exact zz 9 (by omega) i hi
    · exact zz 8 (by omega) i hi
    · exact zz 7 (by omega) i hi
    · exact zz 6 (by omega) i hi
    · exact zz 5 (by omega) i hi
  · rw [F.2 _ _ (by omega)]; exact hn
  · rw [F.2 _ _ (by omega)]; exact hy i hi
  · rw [F.2 _ _ (by omega)]; exact hf
theorem m_restore {Q : Int32 → Mm → Prop} {m : Nat} {S : St} (hR : RM G u m S) (hS : okS S) (h0 : sX S = none → ∀ u', RM G u' m S → Fx (mbk m) u u' → Q 0 u') (h : ∀ B, sX S = some B → ∀ u', RM G u' m (setB S B) → Fx (mbk m) u u' → Q 1 u') : V_X12_restore G m u Q := by
  have mk : kd G m = 12 := hR.1.1.2.1
  have m0 : 0 < m := hR.1.1.1
  refine ⟨mk, fun v1 e1 => ?_⟩
  subst e1
  have hR0 := hR.put (c := 0)
  have F0 : Fx (mbk m) u (sI u m 1 0) := Fx.put (by unfold mbk msc; omega)
  obtain ⟨hH, hD, hB, hX, hn, hy, hf⟩ := id hR0
  cases hx : sX S with
  | none =>
    rw [hx] at hX
    have hX : gI (sI u m 1 0) m 45 = 0 := hX
    rw [hX]
    exact ⟨fun _ => h0 hx _ hR0 F0, fun c => absurd rfl c⟩
  | some B =>
    rw [hx] at hX
    obtain ⟨hX, hB2⟩ := hX
    rw [hX]
    refine ⟨fun c => absurd c (by decide), fun _ v3 e3 v4 e4 => ?_⟩
    have e4 : v4 = sI v3 m 28 (gI (sI u m 1 0) m 47) := by
      rw [e4, show gI v3 m 47 = gI (sI u m 1 0) m 47 by rw [e3, gI_sI, if_neg (by omega)]]
    have f4 : Fx (fun a j => a = m ∧ (j = 27 ∨ j = 28)) (sI u m 1 0) v4 := by
      rw [e4, e3]
      exact (Fx.put (by omega)).trans (Fx.put (by omega))
    have y46 : gI v4 m 27 = gI (sI u m 1 0) m 46 := by rw [e4, gI_sI, if_neg (by omega), e3, gI_sI, if_pos ⟨rfl, rfl⟩]
    have y47 : gI v4 m 28 = gI (sI u m 1 0) m 47 := by rw [e4, gI_sI, if_pos ⟨rfl, rfl⟩]
    clear e3 e4
    have hH4 : HM G v4 m := hH.keep (fun a j _ _ => f4.gR a j)
    show beC G m (fun k => if k = 0 then 10 else 38 - k) (fun k => 57 - k) (fun v => Q 1 v) 10 v4
    refine beC_go m0 (ie_now hH4) (ie_then hH4) (fun k _ => ieN_lt k) (fun i k hi hk c => ie_d hk hi c.symm) (fun i k hi hk => ieF_inj hi hk) (fun x10 K z => ?_) 10 v4 (by omega) Fx.rfl' (fun k h1 h2 => absurd h2 (by omega))
    have K : Fx (fun a j => (m + 16 ≤ a ∧ a ≤ m + 24) ∨ a = m + 10) v4 x10 := K.mono (fun a j q => by obtain ⟨k, h1, h2⟩ := q; have := ieF_in h1; omega)
    have F : Fx (mbk m) (sI u m 1 0) x10 := (f4.mono (fun a j q => by unfold mbk; omega)).trans (K.mono (fun a j q => by unfold mbk; omega))
    have zz : ∀ k, k < 10 → ∀ i, i < ieN k → gI x10 (m + ieF k) i = gI (sI u m 1 0) (m + ieT k) i := by
      intro k hk i hi
      rw [z k hk i hi]
      have := ieT_in hk
      exact f4.2 _ _ (by omega)
    clear z
    refine h B hx x10 (hR0.toB F (hB2.copy (hS.2.2.1 B hx) ?_ ?_ (fun f hf i hi => ?_) (zz 4 (by omega)) (zz 3 (by omega)) (zz 2 (by omega)) (zz 1 (by omega)) (zz 0 (by omega)))) (F0.trans F)
    · rw [K.2 _ _ (by omega)]; exact y46
    · rw [K.2 _ _ (by omega)]; exact y47
    · have : f = 0 ∨ f = 1 ∨ f = 2 ∨ f = 3 ∨ f = 4 := by omega
      rcases this with rfl | rfl | rfl | rfl | rfl
      · exact zz 9 (by omega) i hi
      · exact zz 8 (by omega) i hi
      · exact zz 7 (by omega) i hi
      · exact zz 6 (by omega) i hi
      · exact zz 5 (by omega) i hi
end IMAGE
