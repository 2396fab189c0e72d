/-! HOW THE CLASS IS MADE -/
def B0 : Bk := (0, fun _ _ => 0, fun _ => [], 0, fun _ _ => 0, fun _ => 0)
def S0 : St := (fun _ => D0, B0, none, 0, fun _ => 0, -1)
theorem B0_ok : okB B0 := ⟨Nat.zero_le _, Nat.zero_le _, fun s hs => absurd hs (Nat.not_lt_zero _), fun i hi => absurd hi (Nat.not_lt_zero _)⟩
theorem S0_x : ∀ B : Bk, sX S0 = some B → okB B := by
  intro B e
  have e : (none : Option Bk) = some B := e
  cases e
theorem S0_ok : okS S0 := ⟨fun _ _ => D0_ok, B0_ok, S0_x, Nat.zero_le _, fun i hi => absurd hi (Nat.not_lt_zero _)⟩
def LY (G : Gx) (z : Nat) : Prop := ∀ k, k < 517 → kd G (z + k) = (layL.getD k (99, 0)).1 ∧ ln G (z + k) = (layL.getD k (99, 0)).2
def KL (G : Gx) (a x y : Nat) : Prop := kd G a = x ∧ ln G a = y
theorem LY.at {G : Gx} {z a k x y : Nat} (h : LY G z) (e : a = z + k) (hk : k < 517) (q : layL.getD k (99, 0) = (x, y)) : KL G a x y := by
  have := h k hk
  rw [q] at this
  rw [e]
  exact this
theorem lay_land : ∀ k, k < 6 → ∀ i, i < 24 → layL.getD (28 + 24 * k + i) (99, 0) = layL.getD (3 + i) (99, 0) := by decide +kernel
theorem lay_book : ∀ i, i < 66 → layL.getD (238 + i) (99, 0) = layL.getD (172 + i) (99, 0) := by decide +kernel
theorem lay_scene : ∀ s, s < 20 → ∀ i, i < 7 → layL.getD (312 + 7 * s + i) (99, 0) = layL.getD (304 + i) (99, 0) := by decide +kernel
theorem lay_l6 : ∀ k, k < 6 → layL.getD (3 + (2 + k)) (99, 0) = (9, 5) ∧ layL.getD (3 + (9 + k)) (99, 0) = (0, 5) := by decide +kernel
theorem lay_l4 : ∀ k, k < 4 → layL.getD (3 + (16 + 2 * k)) (99, 0) = (10, 5) ∧ layL.getD (3 + (17 + 2 * k)) (99, 0) = (13, 3) := by decide +kernel
theorem lay_b20 : ∀ s, s < 20 → layL.getD (172 + (6 + 3 * s)) (99, 0) = (7, 7) ∧ layL.getD (172 + (7 + 3 * s)) (99, 0) = (13, 12) ∧ layL.getD (172 + (8 + 3 * s)) (99, 0) = (13, 12) := by decide +kernel
theorem lay_c6 : ∀ i, i < 6 → layL.getD (464 + i) (99, 0) = (13, 16) := by decide +kernel
theorem LY.land {G : Gx} {z b : Nat} (h : LY G z) (hz : 0 < z) (hb : b + 24 ≤ 517) (e : ∀ i, i < 24 → layL.getD (b + i) (99, 0) = layL.getD (3 + i) (99, 0)) : LK0 G (z + b) := by
  have at' : ∀ i x y, i < 24 → layL.getD (3 + i) (99, 0) = (x, y) → KL G (z + b + i) x y := fun i x y hi q => h.at (k := b + i) (by omega) (by omega) ((e i hi).trans q)
  refine ⟨by omega, (at' 0 4 8 (by omega) (by decide)).1, (at' 1 17 6 (by omega) (by decide)).1, (at' 1 17 6 (by omega) (by decide)).2, (at' 8 18 6 (by omega) (by decide)).1, (at' 8 18 6 (by omega) (by decide)).2, (at' 15 19 4 (by omega) (by decide)).1, (at' 15 19 4 (by omega) (by decide)).2, fun k hk => ⟨?_, ?_⟩, fun k hk => ⟨?_, ?_⟩⟩
  · have := (at' (2 + k) 9 5 (by omega) (lay_l6 k hk).1).1
    rwa [← Nat.add_assoc] at this
  · have := (at' (9 + k) 0 5 (by omega) (lay_l6 k hk).2).1
    rwa [← Nat.add_assoc] at this
  · have := (at' (16 + 2 * k) 10 5 (by omega) (lay_l4 k hk).1).1
    rwa [← Nat.add_assoc] at this
  · have := at' (17 + 2 * k) 13 3 (by omega) (lay_l4 k hk).2
    rw [← Nat.add_assoc] at this
    exact this
theorem LY.book {G : Gx} {z b : Nat} (h : LY G z) (hz : 0 < z) (hb : b + 66 ≤ 517) (e : ∀ i, i < 66 → layL.getD (b + i) (99, 0) = layL.getD (172 + i) (99, 0)) : BK0 G (z + b) := by
  have at' : ∀ i x y, i < 66 → layL.getD (172 + i) (99, 0) = (x, y) → KL G (z + b + i) x y := fun i x y hi q => h.at (k := b + i) (by omega) (by omega) ((e i hi).trans q)
  refine ⟨by omega, (at' 0 1 8 (by omega) (by decide)).1, at' 1 13 8 (by omega) (by decide), at' 2 13 8 (by omega) (by decide), at' 3 13 4 (by omega) (by decide), at' 4 21 20 (by omega) (by decide), at' 5 21 20 (by omega) (by decide), fun s hs => ⟨?_, ?_, ?_⟩⟩
  · have := (at' (6 + 3 * s) 7 7 (by omega) (lay_b20 s hs).1).1
    rwa [← Nat.add_assoc] at this
  · have := at' (7 + 3 * s) 13 12 (by omega) (lay_b20 s hs).2.1
    rw [← Nat.add_assoc] at this
    exact this
  · have := at' (8 + 3 * s) 13 12 (by omega) (lay_b20 s hs).2.2
    rw [← Nat.add_assoc] at this
    exact this
/-- the tape and the first i lands are made -/
def PL (G : Gx) (w : Mm) (z i : Nat) : Prop := (gR w (z + 1) 0 = z + 2 ∧ gR w (z + 1) 3 = z + 3 ∧ gI w (z + 1) 11 = -1 ∧ gI w (z + 1) 1 = 0) ∧ LR G w (z + 3) ∧ ∀ k, k < i → gR w (z + 27) k = z + 28 + 24 * k ∧ LR G w (z + 28 + 24 * k) ∧ CL w (z + 28 + 24 * k) D0
theorem PL.keep {G : Gx} {w v : Mm} {z i : Nat} (h : PL G w z i) (e : ∀ b j, z < b → b < z + 28 + 24 * i → gI v b j = gI w b j) (e2 : ∀ b j, z < b → b < z + 28 + 24 * i → ¬ (b = z + 27 ∧ i ≤ j) → gR v b j = gR w b j) : PL G v z i := by
  obtain ⟨⟨h1, h2, h3, h4⟩, h5, h6⟩ := h
  refine ⟨⟨?_, ?_, ?_, ?_⟩, h5.keep (fun b j q1 q2 => e2 b j (by omega) (by omega) (by omega)), fun k hk => ⟨?_, (h6 k hk).2.1.keep (fun b j q1 q2 => e2 b j (by omega) (by omega) (by omega)), (h6 k hk).2.2.same D0_ok (fun b j q1 q2 => e b j (by omega) (by omega))⟩⟩
  · rw [e2 _ _ (by omega) (by omega) (by omega)]; exact h1
  · rw [e2 _ _ (by omega) (by omega) (by omega)]; exact h2
  · rw [e _ _ (by omega) (by omega)]; exact h3
  · rw [e _ _ (by omega) (by omega)]; exact h4
  · rw [e2 _ _ (by omega) (by omega) (by omega)]; exact (h6 k hk).1
/-- all before the scenes of the stations is made -/
def PB (G : Gx) (w : Mm) (z : Nat) : Prop := gR w z 0 = z + 1 ∧ gR w z 1 = z + 27 ∧ PL G w z 6 ∧ (gR w z 2 = z + 172 ∧ BR G w (z + 172)) ∧ (gR w z 3 = z + 238 ∧ BR G w (z + 238)) ∧ (gR w z 5 = z + 304 ∧ SR G w (z + 304)) ∧ gR w z 6 = z + 311 ∧ gI w z 4 = 0 ∧ ∀ b j, z + 172 ≤ b → b < z + 476 → gI w b j = 0
theorem PB.keep {G : Gx} {w v : Mm} {z : Nat} (h : PB G w z) (e : ∀ b j, z ≤ b → b < z + 476 → gI v b j = gI w b j) (e2 : ∀ b j, z < b → b < z + 311 → gR v b j = gR w b j) (e3 : ∀ j, j < 7 → gR v z j = gR w z j) : PB G v z := by
  obtain ⟨h0, h1, h2, ⟨h3, h4⟩, ⟨h5, h6⟩, ⟨h7, h8⟩, h9, h10, h11⟩ := h
  refine ⟨(e3 0 (by omega)).trans h0, (e3 1 (by omega)).trans h1, h2.keep (fun b j q1 q2 => e b j (by omega) (by omega)) (fun b j q1 q2 _ => e2 b j q1 (by omega)), ⟨(e3 2 (by omega)).trans h3, h4.keep (fun a j q1 q2 _ => e2 a j (by omega) (by omega))⟩, ⟨(e3 3 (by omega)).trans h5, h6.keep (fun a j q1 q2 _ => e2 a j (by omega) (by omega))⟩, ⟨(e3 5 (by omega)).trans h7, h8.keep (fun j => e2 _ j (by omega) (by omega))⟩, (e3 6 (by omega)).trans h9, (e z 4 (by omega) (by omega)).trans h10, fun b j q1 q2 => (e b j (by omega) q2).trans (h11 b j q1 q2)⟩
section CMAKE
variable {G : Gx} {u : Mm}
theorem n_sc {Q : Mm → Prop} {z p k n0 : Nat} (hl : LY G z) (hz : 0 < z) (ep : p = z + k) (hk : k + 7 ≤ 517) (hs : ∀ i, i < 7 → layL.getD (k + i) (99, 0) = layL.getD (304 + i) (99, 0)) (hp : gz G + n0 = p + 1) (hb : ∀ i, 1 ≤ i → i ≤ 6 → blk u (p + i)) (hQ : ∀ v, Rg p (p + 1) u v → v.1 = u.1 → SR G v p → Q v) : V_X6_init G p n0 u Q := by
  have at' : ∀ i x y, i < 7 → layL.getD (304 + i) (99, 0) = (x, y) → KL G (p + i) x y := fun i x y hi q => hl.at (k := k + i) (by omega) (by omega) ((hs i hi).trans q)
  have a0 := at' 0 6 9 (by omega) (by decide)
  have a1 := at' 1 13 6 (by omega) (by decide)
  have a2 := at' 2 13 6 (by omega) (by decide)
  have a3 := at' 3 13 6 (by omega) (by decide)
  have a4 := at' 4 13 6 (by omega) (by decide)
  have a5 := at' 5 13 6 (by omega) (by decide)
  have a6 := at' 6 13 6 (by omega) (by decide)
  exact n_scene hp (by omega) a0.1 a1 a2 a3 a4 a5 a6 hb (fun v rv iv g1 g2 g3 g4 g5 g6 => hQ v rv iv ⟨by omega, a0.1, ⟨a1.1, a1.2, g1⟩, ⟨a2.1, a2.2, g2⟩, ⟨a3.1, a3.2, g3⟩, ⟨a4.1, a4.2, g4⟩, ⟨a5.1, a5.2, g5⟩, ⟨a6.1, a6.2, g6⟩⟩)
theorem n_fin {z : Nat} {w u8 : Mm} (hl : LY G z) (hz : 0 < z) (B : PB G w z) (Ss : ∀ s, s < 20 → gR w (z + 311) s = z + 312 + 7 * s ∧ SR G w (z + 312 + 7 * s)) (i8 : ∀ b j, gI u8 b j = gI w b j) (g0 : ∀ b j, z < b → b < z + 452 → gR u8 b j = gR w b j) (h6 : ∀ j, j < 7 → gR u8 z j = gR w z j) (h7 : gR u8 z 7 = z + 452 ∧ ER G u8 (z + 452)) (h8 : gR u8 z 8 = z + 458 ∧ PR G u8 (z + 458)) (h9 : gR u8 z 9 = z + 462 ∧ KR G u8 (z + 462)) (h10 : gR u8 z 10 = z + 474) (h11 : gR u8 z 11 = z + 475) : RC G u8 z (fun i => i) S0 := by
  have at' : ∀ k x y, k < 517 → layL.getD k (99, 0) = (x, y) → KL G (z + k) x y := fun k x y hk q => hl.at rfl hk q
  have c0 : KL G z 11 12 := at' 0 11 12 (by omega) (by decide)
  have c1 := at' 1 8 12 (by omega) (by decide)
  have c2 := at' 2 14 700 (by omega) (by decide)
  have c27 := at' 27 16 6 (by omega) (by decide)
  have c311 := at' 311 20 20 (by omega) (by decide +kernel)
  have t1 := at' 474 13 16 (by omega) (by decide +kernel)
  have t2 := at' 475 13 16 (by omega) (by decide +kernel)
  obtain ⟨q0, q1, ⟨⟨f1, f2, f3, f4⟩, f5, f6⟩, q3, q4, q5, q6, q7, q8⟩ := B.keep (v := u8) (fun b j _ _ => i8 b j) (fun b j s1 s2 => g0 b j s1 (by omega)) h6
  refine ⟨⟨⟨hz, c0.1⟩, ⟨q0, c1.1, f1, c2.1, c2.2⟩, ⟨q1, c27.1, c27.2⟩, q3, q4, q5, ⟨q6, c311.1, c311.2, fun s hs => ⟨?_, (Ss s hs).2.keep (fun j => g0 _ _ (by omega) (by omega))⟩⟩, h7, h8, h9, ⟨t1.1, t1.2, h10⟩, ⟨t2.1, t2.2, h11⟩, fun j hj => ?_⟩, ⟨fun k hk => ?_, ?_, fun k hk => hk, fun i j _ _ e => e⟩, fun l hl' => ?_, ?_, q7, f4, fun i hi => absurd hi (Nat.not_lt_zero _), f3⟩
  · rw [g0 _ _ (by omega) (by omega)]; exact (Ss s hs).1
  · unfold lnd
    split
    · exact f5
    · exact (f6 j (by omega)).2.1
  · show gR u8 (z + 27) k = lnd z k
    unfold lnd
    rw [if_neg (by omega)]
    exact (f6 k hk).1
  · exact f2
  · show CL u8 (lnd z l) D0
    unfold lnd
    rw [if_neg (by omega)]
    exact (f6 l hl').2.2
  · exact ⟨q8 _ _ (by omega) (by omega), q8 _ _ (by omega) (by omega), fun s hs => absurd hs (Nat.not_lt_zero _), fun i hi => absurd hi (Nat.not_lt_zero _), fun k hk => q8 _ _ (by omega) (by omega)⟩
theorem n_end {Q : Mm → Prop} {z cn sl : Nat} {w : Mm} {kk : Nat → Int32 → Nat → Nat → Mm → Prop} (hl : LY G z) (hz : 0 < z) (ez : gz G = z) (hb : ∀ a, z ≤ a → a < z + 476 → blk u a) (hQ : ∀ v, Rg z (z + 476) u v → RC G v z (fun i => i) S0 → Q v) (hcn : cn = 451) (hsl : sl = 3871) (r : Rg z (z + 452) u w) (B : PB G w z) (Ss : ∀ s, s < 20 → gR w (z + 311) s = z + 312 + 7 * s ∧ SR G w (z + 312 + 7 * s)) : V_X11_init_100_B G Q 1 kk z (nI 20) cn sl w := by
  have at' : ∀ k x y, k < 517 → layL.getD k (99, 0) = (x, y) → KL G (z + k) x y := fun k x y hk q => hl.at rfl hk q
  have c0 : KL G z 11 12 := at' 0 11 12 (by omega) (by decide)
  have bl : ∀ (v : Mm) (hi : Nat), Rg z (z + hi) u v → ∀ a, hi ≤ a → a < 476 → blk v (z + a) := fun v hi rv a q1 q2 => rv.blk (Or.inr (by omega)) (hb _ (by omega) (by omega))
  have e0 := at' 452 3 7 (by omega) (by decide +kernel)
  have e1 := at' 453 13 16 (by omega) (by decide +kernel)
  have e2 := at' 454 13 16 (by omega) (by decide +kernel)
  have e3 := at' 455 13 16 (by omega) (by decide +kernel)
  have e4 := at' 456 13 4 (by omega) (by decide +kernel)
  have e5 := at' 457 13 16 (by omega) (by decide +kernel)
  have p0 := at' 458 5 8 (by omega) (by decide +kernel)
  have p1 := at' 459 13 82 (by omega) (by decide +kernel)
  have p2 := at' 460 13 3 (by omega) (by decide +kernel)
  have p3 := at' 461 13 3 (by omega) (by decide +kernel)
  have k0 := at' 462 2 5 (by omega) (by decide +kernel)
  have k1 := at' 463 22 6 (by omega) (by decide +kernel)
  have k2 : ∀ i, i < 6 → kd G (z + 464 + i) = 13 ∧ ln G (z + 464 + i) = 16 := fun i hi => hl.at (k := 464 + i) (by omega) (by omega) (lay_c6 i hi)
  have k8 := at' 470 13 6 (by omega) (by decide +kernel)
  have k9 := at' 471 13 48 (by omega) (by decide +kernel)
  have k10 := at' 472 13 64 (by omega) (by decide +kernel)
  have k11 := at' 473 13 64 (by omega) (by decide +kernel)
  have t1 := at' 474 13 16 (by omega) (by decide +kernel)
  have t2 := at' 475 13 16 (by omega) (by decide +kernel)
  unfold V_X11_init_100_B
  refine ⟨fun _ => ?_, fun c => absurd (nI_le (a := 20) (b := 20) (by omega) (by omega)) c⟩
  rw [show gz G + (1 + cn) = z + 452 by omega, show gz G + (1 + (cn + 1 + 5)) = z + 458 by omega, show gz G + (1 + (cn + 1 + 5 + 1 + 3)) = z + 462 by omega, show gz G + (1 + (cn + 1 + 5 + 1 + 3 + 1 + 11)) = z + 474 by omega, show gz G + (1 + (cn + 1 + 5 + 1 + 3 + 1 + 11 + 1)) = z + 475 by omega]
  refine ⟨e0.1, bl w 452 (r.mono (by omega) (by omega)) 452 (by omega) (by omega), by omega, by omega, by omega, by omega, n_echoes (by omega) (by omega) e0.1 e1 e2 e3 e4 e5 (fun i i1 i2 => by rw [Nat.add_assoc]; exact bl w 452 (r.mono (by omega) (by omega)) _ (by omega) (by omega)) (fun v1 R1 I1 x1 x2 x3 x4 x5 => ⟨kd_of (by omega) c0.1, by omega, fun u2 E2 => ?_⟩)⟩
  have R2 : Rg z (z + 458) u u2 := by rw [E2]; exact ((r.mono (by omega) (by omega)).trans (R1.mono (by omega) (by omega))).trans (Rg.sR (by omega) (by omega))
  refine ⟨p0.1, bl u2 458 R2 458 (by omega) (by omega), by omega, by omega, by omega, by omega, n_planner (by omega) (by omega) p0.1 p1 p2 p3 (fun i i1 i2 => by rw [Nat.add_assoc]; exact bl u2 458 R2 _ (by omega) (by omega)) (fun v3 R3 I3 y1 y2 y3 => ⟨kd_of (by omega) c0.1, by omega, fun u4 E4 => ?_⟩)⟩
  have R4 : Rg z (z + 462) u u4 := by rw [E4]; exact ((R2.mono (by omega) (by omega)).trans (R3.mono (by omega) (by omega))).trans (Rg.sR (by omega) (by omega))
  refine ⟨k0.1, bl u4 462 R4 462 (by omega) (by omega), by omega, by omega, by omega, by omega, n_chooser (by omega) (by omega) k0.1 k1 k2 k8 k9 k10 k11 (fun i i1 i2 => by rw [Nat.add_assoc]; exact bl u4 462 R4 _ (by omega) (by omega)) (fun v5 R5 I5 K5 => ⟨kd_of (by omega) c0.1, by omega, fun u6 E6 => ?_⟩)⟩
  have R6 : Rg z (z + 474) u u6 := by rw [E6]; exact ((R4.mono (by omega) (by omega)).trans (R5.mono (by omega) (by omega))).trans (Rg.sR (by omega) (by omega))
  refine ⟨t1.1, t1.2, bl u6 474 R6 474 (by omega) (by omega), by omega, by omega, kd_of (by omega) c0.1, by omega, fun u7 E7 => ?_⟩
  have R7 : Rg z (z + 474) u u7 := by rw [E7]; exact R6.trans (Rg.sR (by omega) (by omega))
  refine ⟨t2.1, t2.2, bl u7 475 (R7.mono (by omega) (by omega)) 475 (by omega) (by omega), by omega, by omega, kd_of (by omega) c0.1, by omega, fun u8 E8 => ⟨by omega, by omega, ?_⟩⟩
  have R8 : Rg z (z + 476) u u8 := by rw [E8]; exact (R7.mono (by omega) (by omega)).trans (Rg.sR (by omega) (by omega))
  have I8 : u8.1 = w.1 := by rw [E8, E7, E6]; show v5.1 = w.1; rw [I5, E4]; show v3.1 = w.1; rw [I3, E2]; show v1.1 = w.1; exact I1
  -- references that are not the class's own
  have g8 : ∀ b j, z < b → gR u8 b j = gR v5 b j := fun b j q => by rw [E8, gR_sR, if_neg (by omega), E7, gR_sR, if_neg (by omega), E6, gR_sR, if_neg (by omega)]
  have g4 : ∀ b j, z < b → b < z + 462 → gR u8 b j = gR v3 b j := fun b j q q2 => by rw [g8 b j q, (R5 b j (Or.inl q2)).2.1, E4, gR_sR, if_neg (by omega)]
  have g2 : ∀ b j, z < b → b < z + 458 → gR u8 b j = gR v1 b j := fun b j q q2 => by rw [g4 b j q (by omega), (R3 b j (Or.inl q2)).2.1, E2, gR_sR, if_neg (by omega)]
  have g0 : ∀ b j, z < b → b < z + 452 → gR u8 b j = gR w b j := fun b j q q2 => by rw [g2 b j q (by omega), (R1 b j (Or.inl q2)).2.1]
  -- its own
  have h11 : gR u8 z 11 = z + 475 := by rw [E8, gR_sR, if_pos ⟨rfl, rfl⟩]
  have h10 : gR u8 z 10 = z + 474 := by rw [E8, gR_sR, if_neg (by omega), E7, gR_sR, if_pos ⟨rfl, rfl⟩]
  have h9 : gR u8 z 9 = z + 462 := by rw [E8, gR_sR, if_neg (by omega), E7, gR_sR, if_neg (by omega), E6, gR_sR, if_pos ⟨rfl, rfl⟩]
  have h8 : gR u8 z 8 = z + 458 := by rw [E8, gR_sR, if_neg (by omega), E7, gR_sR, if_neg (by omega), E6, gR_sR, if_neg (by omega), (R5 _ _ (Or.inl (by omega))).2.1, E4, gR_sR, if_pos ⟨rfl, rfl⟩]
  have h7 : gR u8 z 7 = z + 452 := by rw [E8, gR_sR, if_neg (by omega), E7, gR_sR, if_neg (by omega), E6, gR_sR, if_neg (by omega), (R5 _ _ (Or.inl (by omega))).2.1, E4, gR_sR, if_neg (by omega), (R3 _ _ (Or.inl (by omega))).2.1, E2, gR_sR, if_pos ⟨rfl, rfl⟩]
  have h6 : ∀ j, j < 7 → gR u8 z j = gR w z j := fun j hj => by rw [E8, gR_sR, if_neg (by omega), E7, gR_sR, if_neg (by omega), E6, gR_sR, if_neg (by omega), (R5 _ _ (Or.inl (by omega))).2.1, E4, gR_sR, if_neg (by omega), (R3 _ _ (Or.inl (by omega))).2.1, E2, gR_sR, if_neg (by omega), (R1 _ _ (Or.inl (by omega))).2.1]
  have i8 : ∀ b j, gI u8 b j = gI w b j := fun b j => by show u8.1 b j = w.1 b j; rw [I8]
  refine hQ u8 R8 (n_fin hl hz B Ss i8 g0 h6 ⟨h7, by omega, e0.1, ⟨e1.1, e1.2, ?_⟩, ⟨e2.1, e2.2, ?_⟩, ⟨e3.1, e3.2, ?_⟩, ⟨e4.1, e4.2, ?_⟩, ⟨e5.1, e5.2, ?_⟩⟩ ⟨h8, by omega, p0.1, ⟨p1.1, p1.2, ?_⟩, ⟨p2.1, p2.2, ?_⟩, ⟨p3.1, p3.2, ?_⟩⟩ ⟨h9, K5.keep (fun a j s1 s2 => g8 _ _ (by omega))⟩ h10 h11)
  · rw [g2 _ _ (by omega) (by omega)]; exact x1
  · rw [g2 _ _ (by omega) (by omega)]; exact x2
  · rw [g2 _ _ (by omega) (by omega)]; exact x3
  · rw [g2 _ _ (by omega) (by omega)]; exact x4
  · rw [g2 _ _ (by omega) (by omega)]; exact x5
  · rw [g4 _ _ (by omega) (by omega)]; exact y1
  · rw [g4 _ _ (by omega) (by omega)]; exact y2
  · rw [g4 _ _ (by omega) (by omega)]; exact y3
theorem n_scenes {Q : Mm → Prop} {z : Nat} (hl : LY G z) (hz : 0 < z) (ez : gz G = z) (hb : ∀ a, z ≤ a → a < z + 476 → blk u a) (hQ : ∀ v, Rg z (z + 476) u v → RC G v z (fun i => i) S0 → Q v) : ∀ (f i cn sl : Nat) (w : Mm), i + f = 20 → cn = 311 + 7 * i → sl = 2971 + 45 * i → Rg z (z + 312 + 7 * i) u w → PB G w z → (∀ s, s < i → gR w (z + 311) s = z + 312 + 7 * s ∧ SR G w (z + 312 + 7 * s)) → V_X11_init_100 G Q 1 (f + 1) z (nI i) cn sl w := by
  have at' : ∀ k x y, k < 517 → layL.getD k (99, 0) = (x, y) → KL G (z + k) x y := fun k x y hk q => hl.at rfl hk q
  have c0 : KL G z 11 12 := at' 0 11 12 (by omega) (by decide)
  have c311 := at' 311 20 20 (by omega) (by decide +kernel)
  intro f
  induction f with
  | zero =>
    intro i cn sl w hi hcn hsl r B Ss
    have hi : i = 20 := by omega
    subst hi
    show V_X11_init_100_B G Q 1 (V_X11_init_100 G Q 1 0) z (nI 20) cn sl w
    exact n_end hl hz ez hb hQ (by omega) (by omega) (r.mono (by omega) (by omega)) B Ss
  | succ f ih =>
    intro i cn sl w hi hcn hsl r B Ss
    show V_X11_init_100_B G Q 1 (V_X11_init_100 G Q 1 (f + 1)) z (nI i) cn sl w
    unfold V_X11_init_100_B
    refine ⟨fun c => absurd ((nI_leI (a := 20) (by omega) (by omega)).mp c) (by omega), fun _ => ?_⟩
    have w6 := B.2.2.2.2.2.2.1
    have kS : kd G (z + 312 + 7 * i) = 6 := (hl.at (k := 312 + 7 * i) (x := 6) (y := 9) (by omega) (by omega) ((lay_scene i (by omega) 0 (by omega)).trans (by decide +kernel))).1
    rw [w6, show gz G + (1 + cn) = z + 312 + 7 * i by omega, nI_clamp (by omega)]
    refine ⟨kd_of (by omega) c0.1, by omega, kS, r.blk (Or.inr (by omega)) (hb _ (by omega) (by omega)), by omega, by omega, by omega, by omega, n_sc hl hz (k := 312 + 7 * i) (by omega) (by omega) (lay_scene i (by omega)) (by omega) (fun j j1 j2 => r.blk (Or.inr (by omega)) (hb _ (by omega) (by omega))) (fun v rv iv Sv => ⟨kd_of (by omega) c311.1, by rw [ln_cut (by omega), c311.2]; exact vp_in_nI (by omega) (by omega), kd_of (by omega) kS, fun w2 e2 y hy => ?_⟩)⟩
    rw [hy, nI_1]
    have gr : ∀ b j, b ≠ z + 311 → gR w2 b j = gR v b j := fun b j q => by rw [e2, gR_sR, if_neg (by omega)]
    refine ih (i + 1) _ _ w2 (by omega) (by omega) (by omega) ?_ ?_ (fun s hs => ?_)
    · rw [e2]; exact ((r.mono (by omega) (by omega)).trans (rv.mono (by omega) (by omega))).trans (Rg.sR (by omega) (by omega))
    · refine B.keep (fun b j _ _ => ?_) (fun b j s1 s2 => ?_) (fun j hj => ?_)
      · rw [e2]; show v.1 b j = w.1 b j; rw [iv]
      · rw [gr _ _ (by omega), (rv _ _ (Or.inl (by omega))).2.1]
      · rw [gr _ _ (by omega), (rv _ _ (Or.inl (by omega))).2.1]
    · by_cases e : s = i
      · subst e
        exact ⟨by rw [e2, gR_sR, if_pos ⟨rfl, rfl⟩], Sv.keep (fun j => gr _ _ (by omega))⟩
      · refine ⟨?_, (Ss s (by omega)).2.keep (fun j => ?_)⟩
        · rw [e2, gR_sR, if_neg (by omega), (rv _ _ (Or.inl (by omega))).2.1]; exact (Ss s (by omega)).1
        · rw [gr _ _ (by omega), (rv _ _ (Or.inl (by omega))).2.1]
theorem n_mid {Q : Mm → Prop} {z cn sl : Nat} {w : Mm} {kk : Nat → Int32 → Nat → Nat → Mm → Prop} (hl : LY G z) (hz : 0 < z) (ez : gz G = z) (hb : ∀ a, z ≤ a → a < z + 476 → blk u a) (hQ : ∀ v, Rg z (z + 476) u v → RC G v z (fun i => i) S0 → Q v) (hcn : cn = 171) (hsl : sl = 1530) (r : Rg z (z + 172) u w) (q0 : gR w z 0 = z + 1) (q1 : gR w z 1 = z + 27) (P : PL G w z 6) : V_X11_init_26_B G Q 1 kk z (nI 6) cn sl w := by
  have at' : ∀ k x y, k < 517 → layL.getD k (99, 0) = (x, y) → KL G (z + k) x y := fun k x y hk q => hl.at rfl hk q
  have c0 : KL G z 11 12 := at' 0 11 12 (by omega) (by decide)
  have bl : ∀ (v : Mm) (hi : Nat), Rg z (z + hi) u v → ∀ a, hi ≤ a → a < 476 → blk v (z + a) := fun v hi rv a q1 q2 => rv.blk (Or.inr (by omega)) (hb _ (by omega) (by omega))
  have c311 := at' 311 20 20 (by omega) (by decide +kernel)
  have b172 : BK0 G (z + 172) := hl.book hz (by omega) (fun i _ => rfl)
  have b238 : BK0 G (z + 238) := hl.book hz (by omega) lay_book
  unfold V_X11_init_26_B
  refine ⟨fun _ => ?_, fun c => absurd (nI_le (a := 6) (b := 6) (by omega) (by omega)) c⟩
  rw [show gz G + (1 + cn) = z + 172 by omega, show gz G + (1 + (cn + 1 + 65)) = z + 238 by omega, show gz G + (1 + (cn + 1 + 65 + 1 + 65)) = z + 304 by omega, show gz G + (1 + (cn + 1 + 65 + 1 + 65 + 1 + 6)) = z + 311 by omega]
  refine ⟨b172.2.1, bl w 172 (r.mono (by omega) (by omega)) 172 (by omega) (by omega), by omega, by omega, by omega, by omega, n_book (by omega) b172 (fun i i1 i2 => by rw [Nat.add_assoc]; exact bl w 172 (r.mono (by omega) (by omega)) _ (by omega) (by omega)) (fun v1 R1 I1 B1 => ⟨kd_of (by omega) c0.1, by omega, fun u2 E2 => ?_⟩)⟩
  have R2 : Rg z (z + 238) u u2 := by rw [E2]; exact ((r.mono (by omega) (by omega)).trans (R1.mono (by omega) (by omega))).trans (Rg.sR (by omega) (by omega))
  refine ⟨b238.2.1, bl u2 238 R2 238 (by omega) (by omega), by omega, by omega, by omega, by omega, n_book (by omega) b238 (fun i i1 i2 => by rw [Nat.add_assoc]; exact bl u2 238 R2 _ (by omega) (by omega)) (fun v3 R3 I3 B3 => ⟨kd_of (by omega) c0.1, by omega, fun u4 E4 u5 E5 => ?_⟩)⟩
  have R5 : Rg z (z + 304) u u5 := by rw [E5, E4]; exact (((R2.mono (by omega) (by omega)).trans (R3.mono (by omega) (by omega))).trans (Rg.sR (by omega) (by omega))).trans (Rg.sI (by omega) (by omega))
  have kS : kd G (z + 304) = 6 := (at' 304 6 9 (by omega) (by decide +kernel)).1
  refine ⟨kS, bl u5 304 R5 304 (by omega) (by omega), by omega, by omega, by omega, by omega, n_sc hl hz (k := 304) rfl (by omega) (fun i _ => rfl) (by omega) (fun j j1 j2 => by rw [Nat.add_assoc]; exact bl u5 304 R5 _ (by omega) (by omega)) (fun v6 R6 I6 S6 => ⟨kd_of (by omega) c0.1, by omega, fun u7 E7 => ?_⟩)⟩
  have R7 : Rg z (z + 311) u u7 := by rw [E7]; exact ((R5.mono (by omega) (by omega)).trans (R6.mono (by omega) (by omega))).trans (Rg.sR (by omega) (by omega))
  refine ⟨c311.1, c311.2, bl u7 311 R7 311 (by omega) (by omega), by omega, by omega, kd_of (by omega) c0.1, by omega, fun u8 E8 => ⟨21, n_scenes hl hz ez hb hQ 20 0 _ _ u8 rfl (by omega) (by omega) ?_ ?_ (fun s hs => absurd hs (by omega))⟩⟩
  · rw [E8]; exact (R7.mono (by omega) (by omega)).trans (Rg.sR (by omega) (by omega))
  · have g6 : ∀ b j, z < b → gR u8 b j = gR v6 b j := fun b j q => by rw [E8, gR_sR, if_neg (by omega), E7, gR_sR, if_neg (by omega)]
    have g4 : ∀ b j, z < b → b < z + 304 → gR u8 b j = gR v3 b j := fun b j q q2 => by rw [g6 b j q, (R6 b j (Or.inl q2)).2.1, E5, E4]; show gR (sR v3 z 3 (z + 238)) b j = _; rw [gR_sR, if_neg (by omega)]
    have g2 : ∀ b j, z < b → b < z + 238 → gR u8 b j = gR v1 b j := fun b j q q2 => by rw [g4 b j q (by omega), (R3 b j (Or.inl q2)).2.1, E2, gR_sR, if_neg (by omega)]
    have g0 : ∀ b j, z < b → b < z + 172 → gR u8 b j = gR w b j := fun b j q q2 => by rw [g2 b j q (by omega), (R1 b j (Or.inl q2)).2.1]
    have i8 : ∀ b j, ¬ (b = z ∧ j = 4) → gI u8 b j = gI w b j := fun b j q => by
      rw [E8, E7]
      show v6.1 b j = w.1 b j
      rw [I6, E5]
      show gI (sI u4 z 4 0) b j = w.1 b j
      rw [gI_sI, if_neg q, E4]
      show v3.1 b j = w.1 b j
      rw [I3, E2]
      show v1.1 b j = w.1 b j
      rw [I1]
    refine ⟨?_, ?_, P.keep (fun b j s1 s2 => i8 b j (by omega)) (fun b j s1 s2 _ => g0 b j s1 (by omega)), ⟨?_, B1.keep (fun a j s1 s2 _ => g2 a j (by omega) (by omega))⟩, ⟨?_, B3.keep (fun a j s1 s2 _ => g4 a j (by omega) (by omega))⟩, ⟨?_, S6.keep (fun j => g6 _ _ (by omega))⟩, ?_, ?_, fun b j s1 s2 => ?_⟩
    · rw [E8, gR_sR, if_neg (by omega), E7, gR_sR, if_neg (by omega), (R6 _ _ (Or.inl (by omega))).2.1, E5, E4]
      show gR (sR v3 z 3 (z + 238)) z 0 = z + 1
      rw [gR_sR, if_neg (by omega), (R3 _ _ (Or.inl (by omega))).2.1, E2, gR_sR, if_neg (by omega), (R1 _ _ (Or.inl (by omega))).2.1]; exact q0
    · rw [E8, gR_sR, if_neg (by omega), E7, gR_sR, if_neg (by omega), (R6 _ _ (Or.inl (by omega))).2.1, E5, E4]
      show gR (sR v3 z 3 (z + 238)) z 1 = z + 27
      rw [gR_sR, if_neg (by omega), (R3 _ _ (Or.inl (by omega))).2.1, E2, gR_sR, if_neg (by omega), (R1 _ _ (Or.inl (by omega))).2.1]; exact q1
    · rw [E8, gR_sR, if_neg (by omega), E7, gR_sR, if_neg (by omega), (R6 _ _ (Or.inl (by omega))).2.1, E5, E4]
      show gR (sR v3 z 3 (z + 238)) z 2 = z + 172
      rw [gR_sR, if_neg (by omega), (R3 _ _ (Or.inl (by omega))).2.1, E2, gR_sR, if_pos ⟨rfl, rfl⟩]
    · rw [E8, gR_sR, if_neg (by omega), E7, gR_sR, if_neg (by omega), (R6 _ _ (Or.inl (by omega))).2.1, E5, E4]
      show gR (sR v3 z 3 (z + 238)) z 3 = z + 238
      rw [gR_sR, if_pos ⟨rfl, rfl⟩]
    · rw [E8, gR_sR, if_neg (by omega), E7, gR_sR, if_pos ⟨rfl, rfl⟩]
    · rw [E8, gR_sR, if_pos ⟨rfl, rfl⟩]
    · rw [E8, E7]
      show v6.1 z 4 = 0
      rw [I6, E5]
      show gI (sI u4 z 4 0) z 4 = 0
      rw [gI_sI, if_pos ⟨rfl, rfl⟩]
    · rw [i8 b j (by omega), (r b j (Or.inr (by omega))).1]
      exact (hb b (by omega) (by omega) j).1
theorem n_lands {Q : Mm → Prop} {z : Nat} (hl : LY G z) (hz : 0 < z) (ez : gz G = z) (hb : ∀ a, z ≤ a → a < z + 476 → blk u a) (hQ : ∀ v, Rg z (z + 476) u v → RC G v z (fun i => i) S0 → Q v) : ∀ (f i cn sl : Nat) (w : Mm), i + f = 6 → cn = 27 + 24 * i → sl = 834 + 116 * i → Rg z (z + 28 + 24 * i) u w → gR w z 0 = z + 1 → gR w z 1 = z + 27 → PL G w z i → V_X11_init_26 G Q 1 (f + 1) z (nI i) cn sl w := by
  have at' : ∀ k x y, k < 517 → layL.getD k (99, 0) = (x, y) → KL G (z + k) x y := fun k x y hk q => hl.at rfl hk q
  have c0 : KL G z 11 12 := at' 0 11 12 (by omega) (by decide)
  have c27 := at' 27 16 6 (by omega) (by decide)
  have Lk : ∀ k, k < 6 → LK0 G (z + 28 + 24 * k) := fun k hk => by
    have := hl.land hz (b := 28 + 24 * k) (by omega) (lay_land k hk)
    rwa [← Nat.add_assoc] at this
  intro f
  induction f with
  | zero =>
    intro i cn sl w hi hcn hsl r q0 q1 P
    have hi : i = 6 := by omega
    subst hi
    show V_X11_init_26_B G Q 1 (V_X11_init_26 G Q 1 0) z (nI 6) cn sl w
    exact n_mid hl hz ez hb hQ (by omega) (by omega) (r.mono (by omega) (by omega)) q0 q1 P
  | succ f ih =>
    intro i cn sl w hi hcn hsl r q0 q1 P
    show V_X11_init_26_B G Q 1 (V_X11_init_26 G Q 1 (f + 1)) z (nI i) cn sl w
    unfold V_X11_init_26_B
    refine ⟨fun c => absurd ((nI_leI (a := 6) (by omega) (by omega)).mp c) (by omega), fun _ => ?_⟩
    have Li := Lk i (by omega)
    rw [q1, show gz G + (1 + cn) = z + 28 + 24 * i by omega, nI_clamp (by omega)]
    refine ⟨kd_of (by omega) c0.1, by omega, Li.2.1, r.blk (Or.inr (by omega)) (hb _ (by omega) (by omega)), by omega, by omega, by omega, by omega, n_land (by omega) Li (fun j j1 j2 => r.blk (Or.inr (by omega)) (hb _ (by omega) (by omega))) (fun v rv Lv Cv => ⟨kd_of (by omega) c27.1, by rw [ln_cut (by omega), c27.2]; exact vp_in_nI (by omega) (by omega), kd_of (by omega) Li.2.1, fun w2 e2 y hy => ?_⟩)⟩
    rw [hy, nI_1]
    have gr : ∀ b j, ¬ (b = z + 27 ∧ j = i) → gR w2 b j = gR v b j := fun b j q => by rw [e2, gR_sR, if_neg q]
    have gi : ∀ b j, gI w2 b j = gI v b j := fun b j => by rw [e2]; rfl
    refine ih (i + 1) _ _ w2 (by omega) (by omega) (by omega) ?_ ?_ ?_ ?_
    · rw [e2]; exact ((r.mono (by omega) (by omega)).trans (rv.mono (by omega) (by omega))).trans (Rg.sR (by omega) (by omega))
    · rw [gr _ _ (by omega), (rv _ _ (Or.inl (by omega))).2.1]; exact q0
    · rw [gr _ _ (by omega), (rv _ _ (Or.inl (by omega))).2.1]; exact q1
    · have P2 : PL G w2 z i := P.keep (fun b j s1 s2 => by rw [gi, (rv _ _ (Or.inl (by omega))).1]) (fun b j s1 s2 s3 => by rw [gr _ _ (by omega), (rv _ _ (Or.inl (by omega))).2.1])
      refine ⟨P2.1, P2.2.1, fun k hk => ?_⟩
      by_cases e : k = i
      · subst e
        exact ⟨by rw [e2, gR_sR, if_pos ⟨rfl, rfl⟩], Lv.keep (fun b j s1 s2 => gr _ _ (by omega)), Cv.same D0_ok (fun b j s1 s2 => gi b j)⟩
      · exact P2.2.2 k (by omega)
theorem n_class {Q : Mm → Prop} {z : Nat} (hl : LY G z) (hz : 0 < z) (ez : gz G = z) (hb : ∀ a, z ≤ a → a < z + 476 → blk u a) (hQ : ∀ v, Rg z (z + 476) u v → RC G v z (fun i => i) S0 → Q v) : V_X11_init G z 1 u Q := by
  have at' : ∀ k x y, k < 517 → layL.getD k (99, 0) = (x, y) → KL G (z + k) x y := fun k x y hk q => hl.at rfl hk q
  have c0 : KL G z 11 12 := at' 0 11 12 (by omega) (by decide)
  have c1 := at' 1 8 12 (by omega) (by decide)
  have c2 := at' 2 14 700 (by omega) (by decide)
  have c27 := at' 27 16 6 (by omega) (by decide)
  have L3 : LK0 G (z + 3) := hl.land hz (by omega) (fun i _ => rfl)
  unfold V_X11_init
  rw [show gz G + (1 + 0) = z + 1 by omega, show gz G + (1 + 26) = z + 27 by omega]
  refine ⟨c1.1, hb _ (by omega) (by omega), by omega, by omega, by omega, by omega, n_tape (by omega) (by omega) c1.1 c2 L3 (fun i i1 i2 => hb _ (by omega) (by omega)) (fun v1 R1 a1 a2 a3 a4 a5 a6 => ⟨kd_of (by omega) c0.1, by omega, fun u2 E2 => ?_⟩)⟩
  have R2 : Rg z (z + 27) u u2 := by rw [E2]; exact (R1.mono (by omega) (by omega)).trans (Rg.sR (by omega) (by omega))
  refine ⟨c27.1, c27.2, R2.blk (Or.inr (by omega)) (hb _ (by omega) (by omega)), by omega, by omega, kd_of (by omega) c0.1, by omega, fun u3 E3 => ⟨7, n_lands hl hz ez hb hQ 6 0 _ _ u3 rfl rfl rfl ?_ ?_ ?_ ?_⟩⟩
  · rw [E3]; exact (R2.mono (by omega) (by omega)).trans (Rg.sR (by omega) (by omega))
  · rw [E3, gR_sR, if_neg (by omega), E2, gR_sR, if_pos ⟨rfl, rfl⟩]
  · rw [E3, gR_sR, if_pos ⟨rfl, rfl⟩]
  · have gr : ∀ b j, z < b → gR u3 b j = gR v1 b j := fun b j q => by rw [E3, gR_sR, if_neg (by omega), E2, gR_sR, if_neg (by omega)]
    have gi : ∀ b j, gI u3 b j = gI v1 b j := fun b j => by rw [E3, E2]; rfl
    refine ⟨⟨?_, ?_, ?_, ?_⟩, a3.keep (fun b j s1 s2 => gr b j (by omega)), fun k hk => absurd hk (by omega)⟩
    · rw [gr _ _ (by omega)]; exact a1
    · rw [gr _ _ (by omega)]; exact a2
    · rw [gi]; exact a5
    · rw [gi, a6]; exact (hb _ (by omega) (by omega) 1).1
end CMAKE
