/-! HOW THE OBJECTS ARE MADE -/
def Rg (lo hi : Nat) (u v : Mm) : Prop := ∀ b j, (b < lo ∨ hi ≤ b) → gI v b j = gI u b j ∧ gR v b j = gR u b j ∧ gL v b j = gL u b j
theorem Rg.rfl' {lo hi : Nat} {u : Mm} : Rg lo hi u u := fun _ _ _ => ⟨rfl, rfl, rfl⟩
theorem Rg.trans {lo hi : Nat} {u v w : Mm} (h : Rg lo hi u v) (k : Rg lo hi v w) : Rg lo hi u w := fun b j q => ⟨(k b j q).1.trans (h b j q).1, (k b j q).2.1.trans (h b j q).2.1, (k b j q).2.2.trans (h b j q).2.2⟩
theorem Rg.mono {lo hi lo2 hi2 : Nat} {u v : Mm} (h : Rg lo hi u v) (h1 : lo2 ≤ lo) (h2 : hi ≤ hi2) : Rg lo2 hi2 u v := fun b j q => h b j (by omega)
theorem Rg.sR {lo hi a j x : Nat} {u : Mm} (h1 : lo ≤ a) (h2 : a < hi) : Rg lo hi u (sR u a j x) := fun b k q => ⟨rfl, by rw [gR_sR, if_neg (by omega)], rfl⟩
theorem Rg.sI {lo hi a j : Nat} {x : Int32} {u : Mm} (h1 : lo ≤ a) (h2 : a < hi) : Rg lo hi u (sI u a j x) := fun b k q => ⟨by rw [gI_sI, if_neg (by omega)], rfl, rfl⟩
theorem Rg.blk {lo hi a : Nat} {u v : Mm} (h : Rg lo hi u v) (q : a < lo ∨ hi ≤ a) (k : blk u a) : blk v a := fun j => ⟨(h a j q).1.trans (k j).1, (h a j q).2.1.trans (k j).2.1, (h a j q).2.2.trans (k j).2.2⟩
theorem Rg.fx {P : Nat → Nat → Prop} {lo hi : Nat} {u v : Mm} (h : Fx P u v) (hp : ∀ b j, P b j → lo ≤ b ∧ b < hi) : Rg lo hi u v := fun b j q => ⟨h.2 b j (fun c => by have := hp b j c; omega), h.gR b j, by show v.2.2 b j = u.2.2 b j; rw [h.1]⟩
section MAKE
variable {G : Gx} {u : Mm}
theorem n_scene {Q : Mm → Prop} {p n0 : Nat} (hp : gz G + n0 = p + 1) (p0 : 0 < p) (hk : kd G p = 6) (h1 : kd G (p + 1) = 13 ∧ ln G (p + 1) = 6) (h2 : kd G (p + 2) = 13 ∧ ln G (p + 2) = 6) (h3 : kd G (p + 3) = 13 ∧ ln G (p + 3) = 6) (h4 : kd G (p + 4) = 13 ∧ ln G (p + 4) = 6) (h5 : kd G (p + 5) = 13 ∧ ln G (p + 5) = 6) (h6 : kd G (p + 6) = 13 ∧ ln G (p + 6) = 6) (hb : ∀ i, 1 ≤ i → i ≤ 6 → blk u (p + i)) (hQ : ∀ v, Rg p (p + 1) u v → v.1 = u.1 → gR v p 3 = p + 1 → gR v p 4 = p + 2 → gR v p 5 = p + 3 → gR v p 6 = p + 4 → gR v p 7 = p + 5 → gR v p 8 = p + 6 → Q v) : V_X6_init G p n0 u Q := by
  unfold V_X6_init
  rw [show gz G + (n0 + 0) = p + 1 by omega, show gz G + (n0 + 1) = p + 2 by omega, show gz G + (n0 + 2) = p + 3 by omega, show gz G + (n0 + 3) = p + 4 by omega, show gz G + (n0 + 4) = p + 5 by omega, show gz G + (n0 + 5) = p + 6 by omega]
  refine ⟨h1.1, h1.2, hb 1 (by omega) (by omega), by omega, by omega, kd_of (by omega) hk, by omega, fun u1 e1 => ?_⟩
  have r1 : Rg p (p + 1) u u1 := by rw [e1]; exact Rg.sR (by omega) (by omega)
  refine ⟨h2.1, h2.2, r1.blk (Or.inr (by omega)) (hb 2 (by omega) (by omega)), by omega, by omega, kd_of (by omega) hk, by omega, fun u2 e2 => ?_⟩
  have r2 : Rg p (p + 1) u u2 := by rw [e2]; exact r1.trans (Rg.sR (by omega) (by omega))
  refine ⟨h3.1, h3.2, r2.blk (Or.inr (by omega)) (hb 3 (by omega) (by omega)), by omega, by omega, kd_of (by omega) hk, by omega, fun u3 e3 => ?_⟩
  have r3 : Rg p (p + 1) u u3 := by rw [e3]; exact r2.trans (Rg.sR (by omega) (by omega))
  refine ⟨h4.1, h4.2, r3.blk (Or.inr (by omega)) (hb 4 (by omega) (by omega)), by omega, by omega, kd_of (by omega) hk, by omega, fun u4 e4 => ?_⟩
  have r4 : Rg p (p + 1) u u4 := by rw [e4]; exact r3.trans (Rg.sR (by omega) (by omega))
  refine ⟨h5.1, h5.2, r4.blk (Or.inr (by omega)) (hb 5 (by omega) (by omega)), by omega, by omega, kd_of (by omega) hk, by omega, fun u5 e5 => ?_⟩
  have r5 : Rg p (p + 1) u u5 := by rw [e5]; exact r4.trans (Rg.sR (by omega) (by omega))
  refine ⟨h6.1, h6.2, r5.blk (Or.inr (by omega)) (hb 6 (by omega) (by omega)), by omega, by omega, kd_of (by omega) hk, by omega, fun u6 e6 => ?_⟩
  have r6 : Rg p (p + 1) u u6 := by rw [e6]; exact r5.trans (Rg.sR (by omega) (by omega))
  refine ⟨rfl, by omega, hQ u6 r6 (by rw [e6, e5, e4, e3, e2, e1]; rfl) ?_ ?_ ?_ ?_ ?_ ?_⟩
  · rw [e6, gR_sR, if_neg (by omega), e5, gR_sR, if_neg (by omega), e4, gR_sR, if_neg (by omega), e3, gR_sR, if_neg (by omega), e2, gR_sR, if_neg (by omega), e1, gR_sR, if_pos ⟨rfl, rfl⟩]
  · rw [e6, gR_sR, if_neg (by omega), e5, gR_sR, if_neg (by omega), e4, gR_sR, if_neg (by omega), e3, gR_sR, if_neg (by omega), e2, gR_sR, if_pos ⟨rfl, rfl⟩]
  · rw [e6, gR_sR, if_neg (by omega), e5, gR_sR, if_neg (by omega), e4, gR_sR, if_neg (by omega), e3, gR_sR, if_pos ⟨rfl, rfl⟩]
  · rw [e6, gR_sR, if_neg (by omega), e5, gR_sR, if_neg (by omega), e4, gR_sR, if_pos ⟨rfl, rfl⟩]
  · rw [e6, gR_sR, if_neg (by omega), e5, gR_sR, if_pos ⟨rfl, rfl⟩]
  · rw [e6, gR_sR, if_pos ⟨rfl, rfl⟩]
theorem n_echoes {Q : Mm → Prop} {p n0 : Nat} (hp : gz G + n0 = p + 1) (p0 : 0 < p) (hk : kd G p = 3) (h1 : kd G (p + 1) = 13 ∧ ln G (p + 1) = 16) (h2 : kd G (p + 2) = 13 ∧ ln G (p + 2) = 16) (h3 : kd G (p + 3) = 13 ∧ ln G (p + 3) = 16) (h4 : kd G (p + 4) = 13 ∧ ln G (p + 4) = 4) (h5 : kd G (p + 5) = 13 ∧ ln G (p + 5) = 16) (hb : ∀ i, 1 ≤ i → i ≤ 5 → blk u (p + i)) (hQ : ∀ v, Rg p (p + 1) u v → v.1 = u.1 → gR v p 1 = p + 1 → gR v p 2 = p + 2 → gR v p 3 = p + 3 → gR v p 4 = p + 4 → gR v p 6 = p + 5 → Q v) : V_X3_init G p n0 u Q := by
  unfold V_X3_init
  rw [show gz G + (n0 + 0) = p + 1 by omega, show gz G + (n0 + 1) = p + 2 by omega, show gz G + (n0 + 2) = p + 3 by omega, show gz G + (n0 + 3) = p + 4 by omega, show gz G + (n0 + 4) = p + 5 by omega]
  refine ⟨h1.1, h1.2, hb 1 (by omega) (by omega), by omega, by omega, kd_of (by omega) hk, by omega, fun u1 e1 => ?_⟩
  have r1 : Rg p (p + 1) u u1 := by rw [e1]; exact Rg.sR (by omega) (by omega)
  refine ⟨h2.1, h2.2, r1.blk (Or.inr (by omega)) (hb 2 (by omega) (by omega)), by omega, by omega, kd_of (by omega) hk, by omega, fun u2 e2 => ?_⟩
  have r2 : Rg p (p + 1) u u2 := by rw [e2]; exact r1.trans (Rg.sR (by omega) (by omega))
  refine ⟨h3.1, h3.2, r2.blk (Or.inr (by omega)) (hb 3 (by omega) (by omega)), by omega, by omega, kd_of (by omega) hk, by omega, fun u3 e3 => ?_⟩
  have r3 : Rg p (p + 1) u u3 := by rw [e3]; exact r2.trans (Rg.sR (by omega) (by omega))
  refine ⟨h4.1, h4.2, r3.blk (Or.inr (by omega)) (hb 4 (by omega) (by omega)), by omega, by omega, kd_of (by omega) hk, by omega, fun u4 e4 => ?_⟩
  have r4 : Rg p (p + 1) u u4 := by rw [e4]; exact r3.trans (Rg.sR (by omega) (by omega))
  refine ⟨h5.1, h5.2, r4.blk (Or.inr (by omega)) (hb 5 (by omega) (by omega)), by omega, by omega, kd_of (by omega) hk, by omega, fun u5 e5 => ?_⟩
  have r5 : Rg p (p + 1) u u5 := by rw [e5]; exact r4.trans (Rg.sR (by omega) (by omega))
  refine ⟨rfl, by omega, hQ u5 r5 (by rw [e5, e4, e3, e2, e1]; rfl) ?_ ?_ ?_ ?_ ?_⟩
  · rw [e5, gR_sR, if_neg (by omega), e4, gR_sR, if_neg (by omega), e3, gR_sR, if_neg (by omega), e2, gR_sR, if_neg (by omega), e1, gR_sR, if_pos ⟨rfl, rfl⟩]
  · rw [e5, gR_sR, if_neg (by omega), e4, gR_sR, if_neg (by omega), e3, gR_sR, if_neg (by omega), e2, gR_sR, if_pos ⟨rfl, rfl⟩]
  · rw [e5, gR_sR, if_neg (by omega), e4, gR_sR, if_neg (by omega), e3, gR_sR, if_pos ⟨rfl, rfl⟩]
  · rw [e5, gR_sR, if_neg (by omega), e4, gR_sR, if_pos ⟨rfl, rfl⟩]
  · rw [e5, gR_sR, if_pos ⟨rfl, rfl⟩]
theorem n_planner {Q : Mm → Prop} {p n0 : Nat} (hp : gz G + n0 = p + 1) (p0 : 0 < p) (hk : kd G p = 5) (h1 : kd G (p + 1) = 13 ∧ ln G (p + 1) = 82) (h2 : kd G (p + 2) = 13 ∧ ln G (p + 2) = 3) (h3 : kd G (p + 3) = 13 ∧ ln G (p + 3) = 3) (hb : ∀ i, 1 ≤ i → i ≤ 3 → blk u (p + i)) (hQ : ∀ v, Rg p (p + 1) u v → v.1 = u.1 → gR v p 1 = p + 1 → gR v p 3 = p + 2 → gR v p 4 = p + 3 → Q v) : V_X5_init G p n0 u Q := by
  unfold V_X5_init
  rw [show gz G + (n0 + 0) = p + 1 by omega, show gz G + (n0 + 1) = p + 2 by omega, show gz G + (n0 + 2) = p + 3 by omega]
  refine ⟨h1.1, h1.2, hb 1 (by omega) (by omega), by omega, by omega, kd_of (by omega) hk, by omega, fun u1 e1 => ?_⟩
  have r1 : Rg p (p + 1) u u1 := by rw [e1]; exact Rg.sR (by omega) (by omega)
  refine ⟨h2.1, h2.2, r1.blk (Or.inr (by omega)) (hb 2 (by omega) (by omega)), by omega, by omega, kd_of (by omega) hk, by omega, fun u2 e2 => ?_⟩
  have r2 : Rg p (p + 1) u u2 := by rw [e2]; exact r1.trans (Rg.sR (by omega) (by omega))
  refine ⟨h3.1, h3.2, r2.blk (Or.inr (by omega)) (hb 3 (by omega) (by omega)), by omega, by omega, kd_of (by omega) hk, by omega, fun u3 e3 => ?_⟩
  have r3 : Rg p (p + 1) u u3 := by rw [e3]; exact r2.trans (Rg.sR (by omega) (by omega))
  refine ⟨rfl, by omega, hQ u3 r3 (by rw [e3, e2, e1]; rfl) ?_ ?_ ?_⟩
  · rw [e3, gR_sR, if_neg (by omega), e2, gR_sR, if_neg (by omega), e1, gR_sR, if_pos ⟨rfl, rfl⟩]
  · rw [e3, gR_sR, if_neg (by omega), e2, gR_sR, if_pos ⟨rfl, rfl⟩]
  · rw [e3, gR_sR, if_pos ⟨rfl, rfl⟩]
theorem n_station {Q : Mm → Prop} {p n0 : Nat} (hp : gz G + n0 = p + 1) (p0 : 0 < p) (hk : kd G p = 7) (h1 : kd G (p + 1) = 13 ∧ ln G (p + 1) = 12) (h2 : kd G (p + 2) = 13 ∧ ln G (p + 2) = 12) (hb : ∀ i, 1 ≤ i → i ≤ 2 → blk u (p + i)) (hQ : ∀ v, Rg p (p + 1) u v → v.1 = u.1 → gR v p 5 = p + 1 → gR v p 6 = p + 2 → Q v) : V_X7_init G p n0 u Q := by
  unfold V_X7_init
  rw [show gz G + (n0 + 0) = p + 1 by omega, show gz G + (n0 + 1) = p + 2 by omega]
  refine ⟨h1.1, h1.2, hb 1 (by omega) (by omega), by omega, by omega, kd_of (by omega) hk, by omega, fun u1 e1 => ?_⟩
  have r1 : Rg p (p + 1) u u1 := by rw [e1]; exact Rg.sR (by omega) (by omega)
  refine ⟨h2.1, h2.2, r1.blk (Or.inr (by omega)) (hb 2 (by omega) (by omega)), by omega, by omega, kd_of (by omega) hk, by omega, fun u2 e2 => ?_⟩
  have r2 : Rg p (p + 1) u u2 := by rw [e2]; exact r1.trans (Rg.sR (by omega) (by omega))
  refine ⟨rfl, by omega, hQ u2 r2 (by rw [e2, e1]; rfl) ?_ ?_⟩
  · rw [e2, gR_sR, if_neg (by omega), e1, gR_sR, if_pos ⟨rfl, rfl⟩]
  · rw [e2, gR_sR, if_pos ⟨rfl, rfl⟩]
theorem n_wood {Q : Mm → Prop} {p n0 : Nat} (hp : gz G + n0 = p + 1) (p0 : 0 < p) (hk : kd G p = 10) (h1 : kd G (p + 1) = 13 ∧ ln G (p + 1) = 3) (hb : ∀ i, 1 ≤ i → i ≤ 1 → blk u (p + i)) (hQ : ∀ v, Rg p (p + 1) u v → v.1 = u.1 → gR v p 4 = p + 1 → Q v) : V_X10_init G p n0 u Q := by
  unfold V_X10_init
  rw [show gz G + (n0 + 0) = p + 1 by omega]
  refine ⟨h1.1, h1.2, hb 1 (by omega) (by omega), by omega, by omega, kd_of (by omega) hk, by omega, fun u1 e1 => ?_⟩
  have r1 : Rg p (p + 1) u u1 := by rw [e1]; exact Rg.sR (by omega) (by omega)
  refine ⟨rfl, by omega, hQ u1 r1 (by rw [e1]; rfl) ?_⟩
  · rw [e1, gR_sR, if_pos ⟨rfl, rfl⟩]
/-- what kinds a land's cells are of -/
def LK0 (G : Gx) (a : Nat) : Prop := 0 < a ∧ kd G a = 4 ∧ kd G (a + 1) = 17 ∧ ln G (a + 1) = 6 ∧ kd G (a + 8) = 18 ∧ ln G (a + 8) = 6 ∧ kd G (a + 15) = 19 ∧ ln G (a + 15) = 4
  ∧ (∀ k, k < 6 → kd G (a + 2 + k) = 9 ∧ kd G (a + 9 + k) = 0) ∧ (∀ k, k < 4 → kd G (a + 16 + 2 * k) = 10 ∧ kd G (a + 17 + 2 * k) = 13 ∧ ln G (a + 17 + 2 * k) = 3)
theorem n_land {Q : Mm → Prop} {a n0 : Nat} (hp : gz G + n0 = a + 1) (hL : LK0 G a) (hb : ∀ i, 1 ≤ i → i < 24 → blk u (a + i)) (hQ : ∀ v, Rg a (a + 24) u v → LR G v a → CL v a D0 → Q v) : V_X4_init G a n0 u Q := by
  obtain ⟨a0, ka, k1, l1, k8, l8, k15, l15, kw, ko⟩ := id hL
  unfold V_X4_init
  rw [show gz G + (n0 + 0) = a + 1 by omega]
  refine ⟨k1, l1, hb 1 (by omega) (by omega), by omega, by omega, kd_of (by omega) ka, by omega, fun u1 e1 => ?_⟩
  have r1 : Rg a (a + 2) u u1 := by rw [e1]; exact Rg.sR (by omega) (by omega)
  have g1 : gR u1 a 0 = a + 1 := by rw [e1, gR_sR, if_pos ⟨rfl, rfl⟩]
  clear e1
  -- woods
  have woods : ∀ (f i : Nat) (w : Mm), i + f = 4 → Rg a (a + 16 + 2 * i) u w → gR w a 0 = a + 1 → gR w a 1 = a + 8 → gR w a 2 = a + 15 → (∀ k, k < 6 → gR w (a + 1) k = a + 2 + k) → (∀ k, k < 6 → gR w (a + 8) k = a + 9 + k) → (∀ k, k < i → gR w (a + 15) k = a + 16 + 2 * k ∧ gR w (a + 16 + 2 * k) 4 = a + 17 + 2 * k) → V_X4_init_86 G Q n0 (f + 1) a (nI i) (15 + 2 * i) (76 + 8 * i) w := by
    intro f
    induction f with
    | zero =>
      intro i w hi r q0 q1 q2 hw hB ho
      have hi : i = 4 := by omega
      subst hi
      show V_X4_init_86_B G Q n0 (V_X4_init_86 G Q n0 0) a (nI 4) (15 + 2 * 4) (76 + 8 * 4) w
      unfold V_X4_init_86_B
      refine ⟨fun _ => ⟨kd_of (by omega) ka, by omega, by omega, c_empty (z := 0) (kd_of (by omega) ka) (fun v fv Lv => ⟨by omega, by omega, ?_⟩)⟩, fun c => absurd (nI_le (a := 4) (b := 4) (by omega) (by omega)) c⟩
      refine hQ v ((r.mono (by omega) (by omega)).trans (Rg.fx fv (fun b j q => q))) ⟨a0, ka, k1, l1, ?_, k8, l8, ?_, k15, l15, ?_, fun k hk => ⟨(kw k hk).1, ?_, (kw k hk).2, ?_⟩, fun k hk => ⟨(ko k hk).1, ?_, ?_, (ko k hk).2⟩⟩ Lv
      · rw [fv.gR]; exact q0
      · rw [fv.gR]; exact q1
      · rw [fv.gR]; exact q2
      · rw [fv.gR]; exact hw k hk
      · rw [fv.gR]; exact hB k hk
      · rw [fv.gR]; exact (ho k hk).1
      · rw [fv.gR]; exact (ho k hk).2
    | succ f ih =>
      intro i w hi r q0 q1 q2 hw hB ho
      show V_X4_init_86_B G Q n0 (V_X4_init_86 G Q n0 (f + 1)) a (nI i) (15 + 2 * i) (76 + 8 * i) w
      unfold V_X4_init_86_B
      refine ⟨fun c => absurd ((nI_leI (a := 4) (by omega) (by omega)).mp c) (by omega), fun _ => ?_⟩
      rw [q2, show gz G + (n0 + (15 + 2 * i)) = a + 16 + 2 * i by omega, nI_clamp (by omega)]
      refine ⟨kd_of (by omega) ka, by omega, (ko i (by omega)).1, r.blk (Or.inr (by omega)) (by have := hb (16 + 2 * i) (by omega) (by omega); rwa [← Nat.add_assoc] at this), by omega, by omega, by omega, by omega, ?_⟩
      refine n_wood (by omega) (by omega) (ko i (by omega)).1 (by rw [show a + 16 + 2 * i + 1 = a + 17 + 2 * i by omega]; exact (ko i (by omega)).2) (fun j j1 j2 => r.blk (Or.inr (by omega)) (by have := hb (16 + 2 * i + j) (by omega) (by omega); rwa [show a + (16 + 2 * i + j) = a + 16 + 2 * i + j by omega] at this)) (fun v rv _ gv => ?_)
      refine ⟨kd_of (by omega) k15, by rw [ln_cut (by omega), l15]; exact vp_in_nI (by omega) (by omega), kd_of (by omega) (ko i (by omega)).1, fun w2 e2 y hy => ?_⟩
      rw [hy, nI_1, show 15 + 2 * i + 1 + 1 = 15 + 2 * (i + 1) by omega, show 76 + 8 * i + 5 + 3 = 76 + 8 * (i + 1) by omega]
      have s2 : ∀ b j, (b < a + 15 ∨ (a + 15 < b ∧ b < a + 16 + 2 * i)) → gR w2 b j = gR w b j := fun b j q => by rw [e2, gR_sR, if_neg (by omega), (rv b j (by omega)).2.1]
      refine ih (i + 1) w2 (by omega) ?_ ?_ ?_ ?_ (fun k hk => ?_) (fun k hk => ?_) (fun k hk => ?_)
      · rw [e2]
        exact ((r.mono (by omega) (by omega)).trans (rv.mono (by omega) (by omega))).trans (Rg.sR (by omega) (by omega))
      · rw [s2 _ _ (by omega)]; exact q0
      · rw [s2 _ _ (by omega)]; exact q1
      · rw [s2 _ _ (by omega)]; exact q2
      · rw [s2 _ _ (by omega)]; exact hw k hk
      · rw [s2 _ _ (by omega)]; exact hB k hk
      · by_cases e : k = i
        · subst e
          refine ⟨by rw [e2, gR_sR, if_pos ⟨rfl, rfl⟩], ?_⟩
          rw [e2, gR_sR, if_neg (by omega), gv]
          omega
        · refine ⟨?_, ?_⟩
          · rw [e2, gR_sR, if_neg (by omega), (rv _ _ (by omega)).2.1]; exact (ho k (by omega)).1
          · rw [s2 _ _ (by omega)]; exact (ho k (by omega)).2
  -- barns
  have barns : ∀ (f i : Nat) (w : Mm), i + f = 6 → Rg a (a + 9 + i) u w → gR w a 0 = a + 1 → gR w a 1 = a + 8 → (∀ k, k < 6 → gR w (a + 1) k = a + 2 + k) → (∀ k, k < i → gR w (a + 8) k = a + 9 + k) → V_X4_init_51 G Q n0 (f + 1) a (nI i) (8 + i) (42 + 5 * i) w := by
    intro f
    induction f with
    | zero =>
      intro i w hi r q0 q1 hw hB
      have hi : i = 6 := by omega
      subst hi
      show V_X4_init_51_B G Q n0 (V_X4_init_51 G Q n0 0) a (nI 6) (8 + 6) (42 + 5 * 6) w
      unfold V_X4_init_51_B
      refine ⟨fun _ => ?_, fun c => absurd (nI_le (a := 6) (b := 6) (by omega) (by omega)) c⟩
      rw [show gz G + (n0 + (8 + 6)) = a + 15 by omega]
      refine ⟨k15, l15, r.blk (Or.inr (by omega)) (hb 15 (by omega) (by omega)), by omega, by omega, kd_of (by omega) ka, by omega, fun w2 e2 => ⟨5, woods 4 0 w2 rfl ?_ ?_ ?_ ?_ (fun k hk => ?_) (fun k hk => ?_) (fun k hk => absurd hk (by omega))⟩⟩
      · rw [e2]; exact (r.mono (by omega) (by omega)).trans (Rg.sR (by omega) (by omega))
      · rw [e2, gR_sR, if_neg (by omega)]; exact q0
      · rw [e2, gR_sR, if_neg (by omega)]; exact q1
      · rw [e2, gR_sR, if_pos ⟨rfl, rfl⟩]
      · rw [e2, gR_sR, if_neg (by omega)]; exact hw k hk
      · rw [e2, gR_sR, if_neg (by omega)]; exact hB k hk
    | succ f ih =>
      intro i w hi r q0 q1 hw hB
      show V_X4_init_51_B G Q n0 (V_X4_init_51 G Q n0 (f + 1)) a (nI i) (8 + i) (42 + 5 * i) w
      unfold V_X4_init_51_B V_X0_init
      refine ⟨fun c => absurd ((nI_leI (a := 6) (by omega) (by omega)).mp c) (by omega), fun _ => ?_⟩
      rw [q1, show gz G + (n0 + (8 + i)) = a + 9 + i by omega, nI_clamp (by omega)]
      refine ⟨kd_of (by omega) ka, by omega, (kw i (by omega)).2, r.blk (Or.inr (by omega)) (by have := hb (9 + i) (by omega) (by omega); rwa [← Nat.add_assoc] at this), by omega, by omega, by omega, by omega, rfl, by omega, kd_of (by omega) k8, by rw [ln_cut (by omega), l8]; exact vp_in_nI (by omega) (by omega), kd_of (by omega) (kw i (by omega)).2, fun w2 e2 y hy => ?_⟩
      rw [hy, nI_1, show 8 + i + 1 + 0 = 8 + (i + 1) by omega, show 42 + 5 * i + 5 + 0 = 42 + 5 * (i + 1) by omega]
      refine ih (i + 1) w2 (by omega) ?_ ?_ ?_ (fun k hk => ?_) (fun k hk => ?_)
      · rw [e2]; exact (r.mono (by omega) (by omega)).trans (Rg.sR (by omega) (by omega))
      · rw [e2, gR_sR, if_neg (by omega)]; exact q0
      · rw [e2, gR_sR, if_neg (by omega)]; exact q1
      · rw [e2, gR_sR, if_neg (by omega)]; exact hw k hk
      · by_cases e : k = i
        · rw [e2, gR_sR, if_pos ⟨rfl, e⟩, e]
        · rw [e2, gR_sR, if_neg (by omega)]; exact hB k (by omega)
  -- walls
  have walls : ∀ (f i : Nat) (w : Mm), i + f = 6 → Rg a (a + 2 + i) u w → gR w a 0 = a + 1 → (∀ k, k < i → gR w (a + 1) k = a + 2 + k) → V_X4_init_15 G Q n0 (f + 1) a (nI i) (1 + i) (6 + 5 * i) w := by
    intro f
    induction f with
    | zero =>
      intro i w hi r q0 hw
      have hi : i = 6 := by omega
      subst hi
      show V_X4_init_15_B G Q n0 (V_X4_init_15 G Q n0 0) a (nI 6) (1 + 6) (6 + 5 * 6) w
      unfold V_X4_init_15_B
      refine ⟨fun _ => ?_, fun c => absurd (nI_le (a := 6) (b := 6) (by omega) (by omega)) c⟩
      rw [show gz G + (n0 + (1 + 6)) = a + 8 by omega]
      refine ⟨k8, l8, r.blk (Or.inr (by omega)) (hb 8 (by omega) (by omega)), by omega, by omega, kd_of (by omega) ka, by omega, fun w2 e2 => ⟨7, barns 6 0 w2 rfl ?_ ?_ ?_ (fun k hk => ?_) (fun k hk => absurd hk (by omega))⟩⟩
      · rw [e2]; exact (r.mono (by omega) (by omega)).trans (Rg.sR (by omega) (by omega))
      · rw [e2, gR_sR, if_neg (by omega)]; exact q0
      · rw [e2, gR_sR, if_pos ⟨rfl, rfl⟩]
      · rw [e2, gR_sR, if_neg (by omega)]; exact hw k hk
    | succ f ih =>
      intro i w hi r q0 hw
      show V_X4_init_15_B G Q n0 (V_X4_init_15 G Q n0 (f + 1)) a (nI i) (1 + i) (6 + 5 * i) w
      unfold V_X4_init_15_B V_X9_init
      refine ⟨fun c => absurd ((nI_leI (a := 6) (by omega) (by omega)).mp c) (by omega), fun _ => ?_⟩
      rw [q0, show gz G + (n0 + (1 + i)) = a + 2 + i by omega, nI_clamp (by omega)]
      refine ⟨kd_of (by omega) ka, by omega, (kw i (by omega)).1, r.blk (Or.inr (by omega)) (by have := hb (2 + i) (by omega) (by omega); rwa [← Nat.add_assoc] at this), by omega, by omega, by omega, by omega, rfl, by omega, kd_of (by omega) k1, by rw [ln_cut (by omega), l1]; exact vp_in_nI (by omega) (by omega), kd_of (by omega) (kw i (by omega)).1, fun w2 e2 y hy => ?_⟩
      rw [hy, nI_1, show 1 + i + 1 + 0 = 1 + (i + 1) by omega, show 6 + 5 * i + 5 + 0 = 6 + 5 * (i + 1) by omega]
      refine ih (i + 1) w2 (by omega) ?_ ?_ (fun k hk => ?_)
      · rw [e2]; exact (r.mono (by omega) (by omega)).trans (Rg.sR (by omega) (by omega))
      · rw [e2, gR_sR, if_neg (by omega)]; exact q0
      · by_cases e : k = i
        · rw [e2, gR_sR, if_pos ⟨rfl, e⟩, e]
        · rw [e2, gR_sR, if_neg (by omega)]; exact hw k (by omega)
  exact ⟨7, walls 6 0 u1 rfl r1 g1 (fun k hk => absurd hk (by omega))⟩
end MAKE
