/-! HOW THE TAPE, A BOOK AND THE CHOOSER ARE MADE -/
section MAKE2
variable {G : Gx} {u : Mm}
theorem n_tape {Q : Mm → Prop} {p n0 : Nat} (hp : gz G + n0 = p + 1) (p0 : 0 < p) (hk : kd G p = 8) (h1 : kd G (p + 1) = 14 ∧ ln G (p + 1) = 700) (hL : LK0 G (p + 2)) (hb : ∀ i, 1 ≤ i → i < 26 → blk u (p + i)) (hQ : ∀ v, Rg p (p + 26) u v → gR v p 0 = p + 1 → gR v p 3 = p + 2 → LR G v (p + 2) → CL v (p + 2) D0 → gI v p 11 = -1 → gI v p 1 = gI u p 1 → Q v) : V_X8_init G p n0 u Q := by
  unfold V_X8_init
  rw [show gz G + (n0 + 0) = p + 1 by omega, show gz G + (n0 + 1) = p + 2 by omega]
  refine ⟨h1.1, h1.2, hb 1 (by omega) (by omega), by omega, by omega, kd_of (by omega) hk, by omega, fun u1 e1 => ?_⟩
  have r1 : Rg p (p + 1) u u1 := by rw [e1]; exact Rg.sR (by omega) (by omega)
  refine ⟨hL.2.1, r1.blk (Or.inr (by omega)) (hb 2 (by omega) (by omega)), by omega, by omega, by omega, by omega, ?_⟩
  refine n_land (by omega) hL (fun i i1 i2 => r1.blk (Or.inr (by omega)) (by have := hb (2 + i) (by omega) (by omega); rwa [← Nat.add_assoc] at this)) (fun v rv Lv Cv => ⟨kd_of (by omega) hk, by omega, fun u2 e2 u3 e3 => ⟨rfl, by omega, ?_⟩⟩)
  have gi : ∀ b j, ¬ (b = p ∧ j = 11) → gI u3 b j = gI v b j := fun b j q => by rw [e3, gI_sI, if_neg q, e2]; rfl
  have gr : ∀ b j, ¬ (b = p ∧ j = 3) → gR u3 b j = gR v b j := fun b j q => by rw [e3, e2]; show gR (sR v p 3 (p + 2)) b j = _; rw [gR_sR, if_neg q]
  refine hQ u3 ?_ ?_ ?_ (Lv.keep (fun b j q1 q2 => gr b j (by omega))) (Cv.same D0_ok (fun b j q1 q2 => gi b j (by omega))) ?_ ?_
  · rw [e3, e2]
    exact (((r1.mono (by omega) (by omega)).trans (rv.mono (by omega) (by omega))).trans (Rg.sR (by omega) (by omega))).trans (Rg.sI (by omega) (by omega))
  · rw [gr _ _ (by omega), (rv _ _ (Or.inl (by omega))).2.1, e1, gR_sR, if_pos ⟨rfl, rfl⟩]
  · rw [e3, e2]
    show gR (sR v p 3 (p + 2)) p 3 = p + 2
    rw [gR_sR, if_pos ⟨rfl, rfl⟩]
  · rw [e3, gI_sI, if_pos ⟨rfl, rfl⟩]
  · rw [gi _ _ (by omega), (rv _ _ (Or.inl (by omega))).1, e1]; rfl
/-- what kinds a book's cells are of -/
def BK0 (G : Gx) (p : Nat) : Prop := 0 < p ∧ kd G p = 1 ∧ (kd G (p + 1) = 13 ∧ ln G (p + 1) = 8) ∧ (kd G (p + 2) = 13 ∧ ln G (p + 2) = 8) ∧ (kd G (p + 3) = 13 ∧ ln G (p + 3) = 4) ∧ (kd G (p + 4) = 21 ∧ ln G (p + 4) = 20) ∧ (kd G (p + 5) = 21 ∧ ln G (p + 5) = 20)
  ∧ ∀ s, s < 20 → kd G (p + 6 + 3 * s) = 7 ∧ (kd G (p + 7 + 3 * s) = 13 ∧ ln G (p + 7 + 3 * s) = 12) ∧ kd G (p + 8 + 3 * s) = 13 ∧ ln G (p + 8 + 3 * s) = 12
theorem n_book {Q : Mm → Prop} {p n0 : Nat} (hp : gz G + n0 = p + 1) (hB : BK0 G p) (hb : ∀ i, 1 ≤ i → i < 66 → blk u (p + i)) (hQ : ∀ v, Rg p (p + 66) u v → v.1 = u.1 → BR G v p → Q v) : V_X1_init G p n0 u Q := by
  obtain ⟨p0, hk, h1, h2, h3, h4, h5, hs⟩ := id hB
  unfold V_X1_init
  rw [show gz G + (n0 + 0) = p + 1 by omega, show gz G + (n0 + 1) = p + 2 by omega, show gz G + (n0 + 2) = p + 3 by omega, show gz G + (n0 + 3) = p + 4 by omega, show gz G + (n0 + 4) = p + 5 by omega]
  refine ⟨h1.1, h1.2, hb 1 (by omega) (by omega), by omega, by omega, kd_of (by omega) hk, by omega, fun u1 e1 => ?_⟩
  have r1 : Rg p (p + 1) u u1 := by rw [e1]; exact Rg.sR (by omega) (by omega)
  refine ⟨h2.1, h2.2, r1.blk (Or.inr (by omega)) (hb 2 (by omega) (by omega)), by omega, by omega, kd_of (by omega) hk, by omega, fun u2 e2 => ?_⟩
  have r2 : Rg p (p + 1) u u2 := by rw [e2]; exact r1.trans (Rg.sR (by omega) (by omega))
  refine ⟨h3.1, h3.2, r2.blk (Or.inr (by omega)) (hb 3 (by omega) (by omega)), by omega, by omega, kd_of (by omega) hk, by omega, fun u3 e3 => ?_⟩
  have r3 : Rg p (p + 1) u u3 := by rw [e3]; exact r2.trans (Rg.sR (by omega) (by omega))
  refine ⟨h4.1, h4.2, r3.blk (Or.inr (by omega)) (hb 4 (by omega) (by omega)), by omega, by omega, kd_of (by omega) hk, by omega, fun u4 e4 => ?_⟩
  have r4 : Rg p (p + 1) u u4 := by rw [e4]; exact r3.trans (Rg.sR (by omega) (by omega))
  refine ⟨h5.1, h5.2, r4.blk (Or.inr (by omega)) (hb 5 (by omega) (by omega)), by omega, by omega, kd_of (by omega) hk, by omega, fun u5 e5 => ?_⟩
  have r5 : Rg p (p + 1) u u5 := by rw [e5]; exact r4.trans (Rg.sR (by omega) (by omega))
  have i5 : u5.1 = u.1 := by rw [e5, e4, e3, e2, e1]; rfl
  have g2 : gR u5 p 2 = p + 1 := by rw [e5, gR_sR, if_neg (by omega), e4, gR_sR, if_neg (by omega), e3, gR_sR, if_neg (by omega), e2, gR_sR, if_neg (by omega), e1, gR_sR, if_pos ⟨rfl, rfl⟩]
  have g3 : gR u5 p 3 = p + 2 := by rw [e5, gR_sR, if_neg (by omega), e4, gR_sR, if_neg (by omega), e3, gR_sR, if_neg (by omega), e2, gR_sR, if_pos ⟨rfl, rfl⟩]
  have g5 : gR u5 p 5 = p + 3 := by rw [e5, gR_sR, if_neg (by omega), e4, gR_sR, if_neg (by omega), e3, gR_sR, if_pos ⟨rfl, rfl⟩]
  have g0 : gR u5 p 0 = p + 4 := by rw [e5, gR_sR, if_neg (by omega), e4, gR_sR, if_pos ⟨rfl, rfl⟩]
  have g6 : gR u5 p 6 = p + 5 := by rw [e5, gR_sR, if_pos ⟨rfl, rfl⟩]
  clear e1 e2 e3 e4 e5 r1 r2 r3 r4
  suffices go : ∀ (f i : Nat) (w : Mm), i + f = 20 → Rg p (p + 6 + 3 * i) u w → w.1 = u.1 → (∀ j, gR w p j = gR u5 p j) → (∀ s, s < i → gR w (p + 4) s = p + 6 + 3 * s ∧ TR G w (p + 6 + 3 * s)) → V_X1_init_47 G Q n0 (f + 1) p (nI i) (5 + 3 * i) (60 + 31 * i) w from ⟨21, go 20 0 u5 rfl (r5.mono (by omega) (by omega)) i5 (fun _ => rfl) (fun s hs => absurd hs (by omega))⟩
  intro f
  induction f with
  | zero =>
    intro i w hi r ei gp hh
    have hi : i = 20 := by omega
    subst hi
    show V_X1_init_47_B G Q n0 (V_X1_init_47 G Q n0 0) p (nI 20) (5 + 3 * 20) (60 + 31 * 20) w
    unfold V_X1_init_47_B
    refine ⟨fun _ => ⟨by omega, by omega, hQ w (r.mono (by omega) (by omega)) ei ⟨p0, hk, ⟨h1.1, h1.2, (gp _).trans g2⟩, ⟨h2.1, h2.2, (gp _).trans g3⟩, ⟨h3.1, h3.2, (gp _).trans g5⟩, ⟨h4.1, h4.2, (gp _).trans g0⟩, ⟨h5.1, h5.2, (gp _).trans g6⟩, hh⟩⟩, fun c => absurd (nI_le (a := 20) (b := 20) (by omega) (by omega)) c⟩
  | succ f ih =>
    intro i w hi r ei gp hh
    show V_X1_init_47_B G Q n0 (V_X1_init_47 G Q n0 (f + 1)) p (nI i) (5 + 3 * i) (60 + 31 * i) w
    unfold V_X1_init_47_B
    obtain ⟨s1, s2, s3⟩ := hs i (by omega)
    refine ⟨fun c => absurd ((nI_leI (a := 20) (by omega) (by omega)).mp c) (by omega), fun _ => ?_⟩
    have w0 : gR w p 0 = p + 4 := (gp _).trans g0
    rw [w0, show gz G + (n0 + (5 + 3 * i)) = p + 6 + 3 * i by omega, nI_clamp (by omega)]
    have vi : vp_in (nI i) 20 := vp_in_nI (by omega) (by omega)
    refine ⟨kd_of (by omega) hk, by omega, s1, r.blk (Or.inr (by omega)) (by have := hb (6 + 3 * i) (by omega) (by omega); rwa [← Nat.add_assoc] at this), by omega, by omega, by omega, by omega, ?_⟩
    refine n_station (by omega) (by omega) s1 (by rw [show p + 6 + 3 * i + 1 = p + 7 + 3 * i by omega]; exact s2) (by rw [show p + 6 + 3 * i + 2 = p + 8 + 3 * i by omega]; exact s3) (fun j j1 j2 => r.blk (Or.inr (by omega)) (by have := hb (6 + 3 * i + j) (by omega) (by omega); rwa [show p + (6 + 3 * i + j) = p + 6 + 3 * i + j by omega] at this)) (fun v rv iv v5 v6 => ?_)
    refine ⟨kd_of (by omega) h4.1, by rw [ln_cut (by omega), h4.2]; exact vi, kd_of (by omega) s1, fun w2 e2 => ?_⟩
    have b0 : gR w2 p 0 = p + 4 := by rw [e2, gR_sR, if_neg (by omega), (rv _ _ (Or.inl (by omega))).2.1]; exact w0
    have b6 : gR w2 p 6 = p + 5 := by rw [e2, gR_sR, if_neg (by omega), (rv _ _ (Or.inl (by omega))).2.1]; exact (gp _).trans g6
    have b4 : gR w2 (p + 4) i = p + 6 + 3 * i := by rw [e2, gR_sR, if_pos ⟨rfl, rfl⟩]
    rw [b0, b6, b4]
    refine ⟨kd_of (by omega) hk, by omega, by omega, kd_of (by omega) h4.1, by rw [ln_cut (by omega), h4.2]; exact vi, by omega, kd_of (by omega) h5.1, by rw [ln_cut (by omega), h5.2]; exact vi, kd_of (by omega) s1, fun w3 e3 y hy => ?_⟩
    rw [hy, nI_1, show 5 + 3 * i + 1 + 2 = 5 + 3 * (i + 1) by omega, show 60 + 31 * i + 7 + 24 = 60 + 31 * (i + 1) by omega]
    have gr : ∀ b j, ¬ (b = p + 4 ∧ j = i) → b ≠ p + 5 → gR w3 b j = gR v b j := fun b j q1 q2 => by rw [e3, gR_sR, if_neg (by omega), e2, gR_sR, if_neg q1]
    refine ih (i + 1) w3 (by omega) ?_ ?_ (fun j => ?_) (fun s hs' => ?_)
    · rw [e3, e2]
      exact (((r.mono (by omega) (by omega)).trans (rv.mono (by omega) (by omega))).trans (Rg.sR (by omega) (by omega))).trans (Rg.sR (by omega) (by omega))
    · rw [e3, e2]
      show v.1 = u.1
      rw [iv, ei]
    · rw [gr _ _ (by omega) (by omega), (rv _ _ (Or.inl (by omega))).2.1]; exact gp j
    · by_cases e : s = i
      · subst e
        refine ⟨?_, by omega, s1, ⟨?_, ?_, ?_⟩, ⟨?_, ?_, ?_⟩⟩
        · rw [e3, gR_sR, if_neg (by omega)]; exact b4
        · rw [show p + 6 + 3 * s + 1 = p + 7 + 3 * s by omega]; exact s2.1
        · rw [show p + 6 + 3 * s + 1 = p + 7 + 3 * s by omega]; exact s2.2
        · rw [gr _ _ (by omega) (by omega)]; exact v5
        · rw [show p + 6 + 3 * s + 2 = p + 8 + 3 * s by omega]; exact s3.1
        · rw [show p + 6 + 3 * s + 2 = p + 8 + 3 * s by omega]; exact s3.2
        · rw [gr _ _ (by omega) (by omega)]; exact v6
      · obtain ⟨q1, q2⟩ := hh s (by omega)
        refine ⟨?_, q2.keep (fun j => ?_)⟩
        · rw [gr _ _ (by omega) (by omega), (rv _ _ (Or.inl (by omega))).2.1]; exact q1
        · rw [gr _ _ (by omega) (by omega), (rv _ _ (Or.inl (by omega))).2.1]
theorem n_chooser {Q : Mm → Prop} {p n0 : Nat} (hp : gz G + n0 = p + 1) (p0 : 0 < p) (hk : kd G p = 2) (h1 : kd G (p + 1) = 22 ∧ ln G (p + 1) = 6) (hr : ∀ i, i < 6 → kd G (p + 2 + i) = 13 ∧ ln G (p + 2 + i) = 16) (h8 : kd G (p + 8) = 13 ∧ ln G (p + 8) = 6) (h9 : kd G (p + 9) = 13 ∧ ln G (p + 9) = 48) (h10 : kd G (p + 10) = 13 ∧ ln G (p + 10) = 64) (h11 : kd G (p + 11) = 13 ∧ ln G (p + 11) = 64) (hb : ∀ i, 1 ≤ i → i < 12 → blk u (p + i)) (hQ : ∀ v, Rg p (p + 12) u v → v.1 = u.1 → KR G v p → Q v) : V_X2_init G p n0 u Q := by
  unfold V_X2_init
  rw [show gz G + (n0 + 0) = p + 1 by omega, show gz G + (n0 + 7) = p + 8 by omega, show gz G + (n0 + 8) = p + 9 by omega, show gz G + (n0 + 9) = p + 10 by omega, show gz G + (n0 + 10) = p + 11 by omega]
  refine ⟨h1.1, h1.2, fun i hi => by rw [show gz G + (n0 + 0 + 1 + i) = p + 2 + i by omega]; exact hr i hi, fun i hi => by rw [show gz G + (n0 + 0 + i) = p + (1 + i) by omega]; exact hb _ (by omega) (by omega), by omega, by omega, fun u1 e1 => ⟨kd_of (by omega) hk, by omega, fun u2 e2 => ?_⟩⟩
  have gm : ∀ b j, gR u1 b j = if b = p + 1 ∧ j < 6 then p + 1 + 1 + j else gR u b j := fun b j => by rw [e1]; rfl
  have r1 : Rg p (p + 2) u u1 := fun b j q => ⟨by rw [e1]; rfl, by rw [gm, if_neg (by omega)], by rw [e1]; rfl⟩
  have r2 : Rg p (p + 2) u u2 := by rw [e2]; exact r1.trans (Rg.sR (by omega) (by omega))
  refine ⟨h8.1, h8.2, r2.blk (Or.inr (by omega)) (hb 8 (by omega) (by omega)), by omega, by omega, kd_of (by omega) hk, by omega, fun u3 e3 => ?_⟩
  have r3 : Rg p (p + 2) u u3 := by rw [e3]; exact r2.trans (Rg.sR (by omega) (by omega))
  refine ⟨h9.1, h9.2, r3.blk (Or.inr (by omega)) (hb 9 (by omega) (by omega)), by omega, by omega, kd_of (by omega) hk, by omega, fun u4 e4 => ?_⟩
  have r4 : Rg p (p + 2) u u4 := by rw [e4]; exact r3.trans (Rg.sR (by omega) (by omega))
  refine ⟨h10.1, h10.2, r4.blk (Or.inr (by omega)) (hb 10 (by omega) (by omega)), by omega, by omega, kd_of (by omega) hk, by omega, fun u5 e5 => ?_⟩
  have r5 : Rg p (p + 2) u u5 := by rw [e5]; exact r4.trans (Rg.sR (by omega) (by omega))
  refine ⟨h11.1, h11.2, r5.blk (Or.inr (by omega)) (hb 11 (by omega) (by omega)), by omega, by omega, kd_of (by omega) hk, by omega, fun u6 e6 => ⟨rfl, by omega, ?_⟩⟩
  have r6 : Rg p (p + 2) u u6 := by rw [e6]; exact r5.trans (Rg.sR (by omega) (by omega))
  refine hQ u6 (r6.mono (by omega) (by omega)) (by rw [e6, e5, e4, e3, e2, e1]; rfl) ⟨p0, hk, ⟨h1.1, h1.2, ?_⟩, fun i hi => ⟨?_, hr i hi⟩, ⟨h8.1, h8.2, ?_⟩, ⟨h9.1, h9.2, ?_⟩, ⟨h10.1, h10.2, ?_⟩, ⟨h11.1, h11.2, ?_⟩⟩
  · rw [e6, gR_sR, if_neg (by omega), e5, gR_sR, if_neg (by omega), e4, gR_sR, if_neg (by omega), e3, gR_sR, if_neg (by omega), e2, gR_sR, if_pos ⟨rfl, rfl⟩]
  · rw [e6, gR_sR, if_neg (by omega), e5, gR_sR, if_neg (by omega), e4, gR_sR, if_neg (by omega), e3, gR_sR, if_neg (by omega), e2, gR_sR, if_neg (by omega), gm, if_pos ⟨rfl, hi⟩]
  · rw [e6, gR_sR, if_neg (by omega), e5, gR_sR, if_neg (by omega), e4, gR_sR, if_neg (by omega), e3, gR_sR, if_pos ⟨rfl, rfl⟩]
  · rw [e6, gR_sR, if_neg (by omega), e5, gR_sR, if_neg (by omega), e4, gR_sR, if_pos ⟨rfl, rfl⟩]
  · rw [e6, gR_sR, if_neg (by omega), e5, gR_sR, if_pos ⟨rfl, rfl⟩]
  · rw [e6, gR_sR, if_pos ⟨rfl, rfl⟩]
end MAKE2
