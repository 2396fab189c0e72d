/-! HOW THE MODEL IS MADE -/
def fO (k : Nat) : Nat := ([0, 2, 3, 4, 5, 6, 7, 8, 9, 10, 11, 22, 23, 24, 25, 29, 30, 31, 32, 33, 34, 35, 36, 37, 38, 39, 40, 43, 44, 48, 49, 50, 51, 52, 53, 54, 55, 56, 57] : List Nat).getD k 0
def mLn (k : Nat) : Nat := ([6, 7, 7, 7, 7, 7, 280, 280, 196, 4, 700, 80, 80, 80, 80, 20, 20, 20, 20, 20, 240, 240, 8, 8, 1640, 20, 100000, 48, 64, 20, 20, 20, 20, 20, 240, 240, 8, 8, 4] : List Nat).getD k 0
theorem fO_inj : ∀ i, i < 39 → ∀ k, k < 39 → fO i = fO k → i = k := by decide +kernel
theorem lay_m : ∀ i, i < 38 → layL.getD (478 + i) (99, 0) = (13, mLn (i + 1)) := by decide +kernel
def MF (u w : Mm) (m i : Nat) (c : Int32) : Prop := Rg m (m + 2) u w ∧ (∀ k, k < i → gR w m (fO k) = m + 1 + k) ∧ (∀ k, k < 6 → gR w (m + 1) k = 29 + k) ∧ (∀ b j, ¬ (b = m ∧ j = 21) → gI w b j = gI u b j) ∧ gI w m 21 = c
theorem MF.go {u w v : Mm} {m i : Nat} {c : Int32} (h : MF u w m i c) (hi : i < 39) (e : v = sR w m (fO i) (m + 1 + i)) : MF u v m (i + 1) c := by
  obtain ⟨h1, h2, h3, h4, h5⟩ := h
  refine ⟨by rw [e]; exact h1.trans (Rg.sR (by omega) (by omega)), fun k hk => ?_, fun k hk => ?_, fun b j q => by rw [e]; exact h4 b j q, by rw [e]; exact h5⟩
  · by_cases q : k = i
    · rw [e, gR_sR, if_pos ⟨rfl, by rw [q]⟩, q]
    · rw [e, gR_sR, if_neg (fun r => q (fO_inj k (by omega) i hi r.2))]; exact h2 k (by omega)
  · rw [e, gR_sR, if_neg (by omega)]; exact h3 k hk
theorem MF.blk {u w : Mm} {m i a : Nat} {c : Int32} (h : MF u w m i c) (ha : m + 2 ≤ a) (k : blk u a) : blk w a := h.1.blk (Or.inr ha) k
theorem MF.hm {G : Gx} {u w v : Mm} {m : Nat} {c : Int32} (h : MF u w m 39 c) (m0 : 0 < m) (mk : kd G m = 12) (k1 : kd G (m + 1) = 23 ∧ ln G (m + 1) = 6) (kr : ∀ i, i < 38 → kd G (m + 2 + i) = 13 ∧ ln G (m + 2 + i) = mLn (i + 1)) (e : ∀ b j, gR v b j = gR w b j) : HM G v m := by
  have g : ∀ k, k < 39 → gR v m (fO k) = m + 1 + k := fun k hk => (e _ _).trans (h.2.1 k hk)
  have A : ∀ k j o n, k < 38 → fO (k + 1) = j → o = k + 2 → mLn (k + 1) = n → AR G v m j o n := by
    intro k j o n hk ej eo en
    have a1 := kr k hk
    have a2 := g (k + 1) (by omega)
    rw [ej] at a2
    rw [en, show m + 2 + k = m + o by omega] at a1
    exact ⟨a1.1, a1.2, by omega⟩
  refine ⟨⟨m0, mk, A 0 2 2 7 (by omega) rfl rfl rfl, A 1 3 3 7 (by omega) rfl rfl rfl, A 2 4 4 7 (by omega) rfl rfl rfl, A 3 5 5 7 (by omega) rfl rfl rfl, A 4 6 6 7 (by omega) rfl rfl rfl, A 5 7 7 280 (by omega) rfl rfl rfl, A 6 8 8 280 (by omega) rfl rfl rfl, A 7 9 9 196 (by omega) rfl rfl rfl⟩, ⟨A 10 22 12 80 (by omega) rfl rfl rfl, A 11 23 13 80 (by omega) rfl rfl rfl, A 12 24 14 80 (by omega) rfl rfl rfl, A 13 25 15 80 (by omega) rfl rfl rfl⟩, ⟨A 8 10 10 4 (by omega) rfl rfl rfl, A 9 11 11 700 (by omega) rfl rfl rfl, A 14 29 16 20 (by omega) rfl rfl rfl, A 15 30 17 20 (by omega) rfl rfl rfl, A 16 31 18 20 (by omega) rfl rfl rfl, A 17 32 19 20 (by omega) rfl rfl rfl, A 18 33 20 20 (by omega) rfl rfl rfl, A 19 34 21 240 (by omega) rfl rfl rfl, A 20 35 22 240 (by omega) rfl rfl rfl, A 21 36 23 8 (by omega) rfl rfl rfl, A 22 37 24 8 (by omega) rfl rfl rfl⟩, ⟨A 23 38 25 1640 (by omega) rfl rfl rfl, A 24 39 26 20 (by omega) rfl rfl rfl, A 25 40 27 100000 (by omega) rfl rfl rfl, A 26 43 28 48 (by omega) rfl rfl rfl, A 27 44 29 64 (by omega) rfl rfl rfl, fun i hi => ?_, A 33 53 35 240 (by omega) rfl rfl rfl, A 34 54 36 240 (by omega) rfl rfl rfl, A 35 55 37 8 (by omega) rfl rfl rfl, A 36 56 38 8 (by omega) rfl rfl rfl, A 37 57 39 4 (by omega) rfl rfl rfl, ⟨k1.1, k1.2, g 0 (by omega)⟩, fun i hi => (e _ _).trans (h.2.2.1 i hi)⟩⟩
  have : i = 0 ∨ i = 1 ∨ i = 2 ∨ i = 3 ∨ i = 4 := by omega
  rcases this with q | q | q | q | q
  · rw [q]; exact A 28 48 30 20 (by omega) rfl rfl rfl
  · rw [q]; exact A 29 49 31 20 (by omega) rfl rfl rfl
  · rw [q]; exact A 30 50 32 20 (by omega) rfl rfl rfl
  · rw [q]; exact A 31 51 33 20 (by omega) rfl rfl rfl
  · rw [q]; exact A 32 52 34 20 (by omega) rfl rfl rfl
section MMAKE
variable {G : Gx} {u : Mm}
theorem m_atF {Q : Mm → Prop} {m k : Nat} (hk : k < 6) (hM : MR G u m) (hQ : ∀ v, Fx (fun b j => m + 2 ≤ b ∧ b ≤ m + 6 ∧ j = k) u v → ML v m k D0 → Q v) : V_X12_atFirst G m (nI k) u Q := by
  obtain ⟨m0, mk, ⟨k2, n2, r2⟩, ⟨k3, n3, r3⟩, ⟨k4, n4, r4⟩, ⟨k5, n5, r5⟩, ⟨k6, n6, r6⟩, _⟩ := id hM
  have vk : vp_in (nI k) 7 := vp_in_nI (by omega) (by omega)
  unfold V_X12_atFirst
  rw [r2, nI_clamp (by omega)]
  refine ⟨mk, by omega, k2, by rw [n2]; exact vk, fun u1 e1 => ?_⟩
  have f1 : Fx (fun b j => m + 2 ≤ b ∧ b ≤ m + 6 ∧ j = k) u u1 := by rw [e1]; exact Fx.put (by omega)
  rw [f1.gR, r3]
  refine ⟨by omega, k3, by rw [n3]; exact vk, fun u2 e2 => ?_⟩
  have f2 : Fx (fun b j => m + 2 ≤ b ∧ b ≤ m + 6 ∧ j = k) u u2 := by rw [e2]; exact f1.trans (Fx.put (by omega))
  rw [f2.gR, r4]
  refine ⟨by omega, k4, by rw [n4]; exact vk, fun u3 e3 => ?_⟩
  have f3 : Fx (fun b j => m + 2 ≤ b ∧ b ≤ m + 6 ∧ j = k) u u3 := by rw [e3]; exact f2.trans (Fx.put (by omega))
  rw [f3.gR, r5]
  refine ⟨by omega, k5, by rw [n5]; exact vk, fun u4 e4 => ?_⟩
  have f4 : Fx (fun b j => m + 2 ≤ b ∧ b ≤ m + 6 ∧ j = k) u u4 := by rw [e4]; exact f3.trans (Fx.put (by omega))
  rw [f4.gR, r6]
  refine ⟨by omega, k6, by rw [n6]; exact vk, fun u5 e5 => ?_⟩
  have f5 : Fx (fun b j => m + 2 ≤ b ∧ b ≤ m + 6 ∧ j = k) u u5 := by rw [e5]; exact f4.trans (Fx.put (by omega))
  refine hQ u5 f5 ⟨?_, ?_, ?_, ?_, ?_, fun k hk => absurd hk (Nat.not_lt_zero _), fun k hk => absurd hk (Nat.not_lt_zero _), fun k hk => absurd hk (Nat.not_lt_zero _)⟩
  · rw [e5, gI_sI, if_neg (by omega), e4, gI_sI, if_neg (by omega), e3, gI_sI, if_neg (by omega), e2, gI_sI, if_neg (by omega), e1, gI_sI, if_pos ⟨rfl, rfl⟩]; rfl
  · rw [e5, gI_sI, if_neg (by omega), e4, gI_sI, if_neg (by omega), e3, gI_sI, if_neg (by omega), e2, gI_sI, if_pos ⟨rfl, rfl⟩]; rfl
  · rw [e5, gI_sI, if_neg (by omega), e4, gI_sI, if_neg (by omega), e3, gI_sI, if_pos ⟨rfl, rfl⟩]; rfl
  · rw [e5, gI_sI, if_neg (by omega), e4, gI_sI, if_pos ⟨rfl, rfl⟩]; rfl
  · rw [e5, gI_sI, if_pos ⟨rfl, rfl⟩]; rfl
theorem MR.ofCut {m n : Nat} (h : MR G u m) (hn : m + 10 ≤ gz G + n) : MR (cut G n) u m := by
  obtain ⟨m0, mk, h2, h3, h4, h5, h6, h7, h8, h9⟩ := h
  have A : ∀ o l, (o ≤ 9) → kd G (m + o) = 13 ∧ ln G (m + o) = l ∧ gR u m o = m + o → kd (cut G n) (m + o) = 13 ∧ ln (cut G n) (m + o) = l ∧ gR u m o = m + o := fun o l ho q => ⟨kd_of (by omega) q.1, (ln_cut (by omega)).trans q.2.1, q.2.2⟩
  exact ⟨m0, kd_of (by omega) mk, A 2 7 (by omega) h2, A 3 7 (by omega) h3, A 4 7 (by omega) h4, A 5 7 (by omega) h5, A 6 7 (by omega) h6, A 7 280 (by omega) h7, A 8 280 (by omega) h8, A 9 196 (by omega) h9⟩
theorem n_mlands {Q : Mm → Prop} {m : Nat} (eg : gz G + 477 = m + 1) (hb : ∀ b j, m ≤ b → b < m + 40 → gI u b j = 0 ∨ (b = m ∧ j = 21)) (h21 : gI u m 21 = -1) (hH : HM G u m) (hQ : ∀ v, Rg m (m + 40) u v → RM G v m S0 → Q v) : ∃ n, V_X12_init_361 G Q 477 n m 0 39 104789 u := by
  suffices go : ∀ (f i : Nat) (w : Mm), i + f = 6 → Fx (fun b j => m + 2 ≤ b ∧ b ≤ m + 6) u w → (∀ k, k < i → ML w m k D0) → V_X12_init_361 G Q 477 (f + 1) m (nI i) 39 104789 w from ⟨7, go 6 0 u rfl Fx.rfl' (fun k hk => absurd hk (by omega))⟩
  intro f
  induction f with
  | zero =>
    intro i w hi F L
    have hi : i = 6 := by omega
    subst hi
    show V_X12_init_361_B G Q 477 (V_X12_init_361 G Q 477 0) m (nI 6) 39 104789 w
    unfold V_X12_init_361_B
    refine ⟨fun _ => ⟨rfl, by omega, hQ w (Rg.fx F (fun b j q => by omega)) ?_⟩, fun c => absurd (nI_le (a := 6) (b := 6) (by omega) (by omega)) c⟩
    have z0 : ∀ b j, m ≤ b → b < m + 40 → ¬ (m + 2 ≤ b ∧ b ≤ m + 6) → ¬ (b = m ∧ j = 21) → gI w b j = 0 := fun b j q1 q2 q3 q4 => by
      rw [F.2 _ _ q3]
      exact (hb b j q1 q2).resolve_right q4
    refine ⟨hH.keep (fun a j _ _ => F.gR a j), L, ⟨z0 _ _ (by omega) (by omega) (by omega) (by omega), z0 _ _ (by omega) (by omega) (by omega) (by omega), fun s hs => absurd hs (Nat.not_lt_zero _), fun i hi => absurd hi (Nat.not_lt_zero _), fun k hk => z0 _ _ (by omega) (by omega) (by omega) (by omega)⟩, z0 _ _ (by omega) (by omega) (by omega) (by omega), z0 _ _ (by omega) (by omega) (by omega) (by omega), fun i hi => absurd hi (Nat.not_lt_zero _), ?_⟩
    rw [F.2 _ _ (by omega)]
    exact h21
  | succ f ih =>
    intro i w hi F L
    show V_X12_init_361_B G Q 477 (V_X12_init_361 G Q 477 (f + 1)) m (nI i) 39 104789 w
    unfold V_X12_init_361_B
    refine ⟨fun c => absurd ((nI_leI (a := 6) (by omega) (by omega)).mp c) (by omega), fun _ => ⟨kd_of (by omega) hH.1.2.1, by omega, by omega, m_atF (by omega) ((F.kMR hH.1).ofCut (by omega)) (fun v fv Lv y hy => ?_)⟩⟩
    rw [hy, nI_1]
    refine ih (i + 1) v (by omega) (F.trans (fv.mono (fun b j q => ⟨q.1, q.2.1⟩))) (fun k hk => ?_)
    by_cases e : k = i
    · rw [e]; exact Lv
    · exact (L k (by omega)).at D0_ok (fun b j q => fv.2 _ _ (by omega))
theorem n_model {Q : Mm → Prop} {z m : Nat} (hl : LY G z) (hz : 0 < z) (ez : gz G = z) (em : m = z + 476) (hb : ∀ a, m ≤ a → a < m + 40 → blk u a) (hQ : ∀ v, Rg m (m + 40) u v → RM G v m S0 → Q v) : V_X12_init G m 477 u Q := by
  have mk : KL G m 12 58 := hl.at (k := 476) em (by omega) (by decide +kernel)
  have k1 : KL G (m + 1) 23 6 := hl.at (k := 477) (by omega) (by omega) (by decide +kernel)
  have kr : ∀ i, i < 38 → KL G (m + 2 + i) 13 (mLn (i + 1)) := fun i hi => hl.at (k := 478 + i) (by omega) (by omega) (lay_m i hi)
  have cm : ∀ n, 1 ≤ n → kd (cut G (477 + n)) m = 12 := fun n hn => kd_of (by omega) mk.1
  have cr : kd (cut G (477 + 1)) (m + 1) = 23 := kd_of (by omega) k1.1
  have cl : ln (cut G (477 + 1)) (m + 1) = 6 := (ln_cut (by omega)).trans k1.2
  have v6 : ∀ i, i < 6 → vp_in (nI i) 6 := fun i hi => vp_in_nI (by omega) (by omega)
  have bl : ∀ i, i < 38 → blk u (m + 2 + i) := fun i hi => hb _ (by omega) (by omega)
  unfold V_X12_init
  rw [show gz G + (477 + 0) = m + 1 by omega, show gz G + (477 + 1) = m + 2 by omega, show gz G + (477 + 2) = m + 3 by omega, show gz G + (477 + 3) = m + 4 by omega, show gz G + (477 + 4) = m + 5 by omega, show gz G + (477 + 5) = m + 6 by omega, show gz G + (477 + 6) = m + 7 by omega, show gz G + (477 + 7) = m + 8 by omega, show gz G + (477 + 8) = m + 9 by omega, show gz G + (477 + 9) = m + 10 by omega, show gz G + (477 + 10) = m + 11 by omega, show gz G + (477 + 11) = m + 12 by omega, show gz G + (477 + 12) = m + 13 by omega, show gz G + (477 + 13) = m + 14 by omega, show gz G + (477 + 14) = m + 15 by omega, show gz G + (477 + 15) = m + 16 by omega, show gz G + (477 + 16) = m + 17 by omega, show gz G + (477 + 17) = m + 18 by omega, show gz G + (477 + 18) = m + 19 by omega, show gz G + (477 + 19) = m + 20 by omega, show gz G + (477 + 20) = m + 21 by omega, show gz G + (477 + 21) = m + 22 by omega, show gz G + (477 + 22) = m + 23 by omega, show gz G + (477 + 23) = m + 24 by omega, show gz G + (477 + 24) = m + 25 by omega, show gz G + (477 + 25) = m + 26 by omega, show gz G + (477 + 26) = m + 27 by omega, show gz G + (477 + 27) = m + 28 by omega, show gz G + (477 + 28) = m + 29 by omega, show gz G + (477 + 29) = m + 30 by omega, show gz G + (477 + 30) = m + 31 by omega, show gz G + (477 + 31) = m + 32 by omega, show gz G + (477 + 32) = m + 33 by omega, show gz G + (477 + 33) = m + 34 by omega, show gz G + (477 + 34) = m + 35 by omega, show gz G + (477 + 35) = m + 36 by omega, show gz G + (477 + 36) = m + 37 by omega, show gz G + (477 + 37) = m + 38 by omega, show gz G + (477 + 38) = m + 39 by omega, cl]
  refine ⟨k1.1, k1.2, hb _ (by omega) (by omega), by omega, by omega, cr, v6 0 (by omega), fun a1 E1 => ⟨v6 1 (by omega), fun a2 E2 => ⟨v6 2 (by omega), fun a3 E3 => ⟨v6 3 (by omega), fun a4 E4 => ⟨v6 4 (by omega), fun a5 E5 => ⟨v6 5 (by omega), fun a6 E6 => ⟨cm 1 (by omega), by omega, fun w0 e0 => ?_⟩⟩⟩⟩⟩⟩⟩
  have M0 : MF u w0 m 1 0 := by
    have st : ∀ (v w : Mm) (i x : Nat), v = sR w (m + 1) i x → Rg (m + 1) (m + 2) w v := fun v w i x e => by rw [e]; exact Rg.sR (by omega) (by omega)
    have r6 : Rg (m + 1) (m + 2) u a6 := ((((((st _ _ 0 29 E1).trans (st _ _ 1 30 E2)).trans (st _ _ 2 31 E3)).trans (st _ _ 3 32 E4)).trans (st _ _ 4 33 E5)).trans (st _ _ 5 34 E6))
    refine ⟨by rw [e0]; exact (r6.mono (by omega) (by omega)).trans (Rg.sR (by omega) (by omega)), fun k hk => ?_, fun k hk => ?_, fun b j _ => by rw [e0, E6, E5, E4, E3, E2, E1]; rfl, ?_⟩
    · rw [show k = 0 by omega, e0, gR_sR, if_pos ⟨rfl, rfl⟩]
    · have F1 : a1 = sR u (m + 1) 0 29 := E1
      have F2 : a2 = sR a1 (m + 1) 1 30 := E2
      have F3 : a3 = sR a2 (m + 1) 2 31 := E3
      have F4 : a4 = sR a3 (m + 1) 3 32 := E4
      have F5 : a5 = sR a4 (m + 1) 4 33 := E5
      have F6 : a6 = sR a5 (m + 1) 5 34 := E6
      have : k = 0 ∨ k = 1 ∨ k = 2 ∨ k = 3 ∨ k = 4 ∨ k = 5 := by omega
      rw [e0, gR_sR, if_neg (by omega)]
      rcases this with q | q | q | q | q | q
      · rw [q, F6, gR_sR, if_neg (by omega), F5, gR_sR, if_neg (by omega), F4, gR_sR, if_neg (by omega), F3, gR_sR, if_neg (by omega), F2, gR_sR, if_neg (by omega), F1, gR_sR, if_pos ⟨rfl, rfl⟩]
      · rw [q, F6, gR_sR, if_neg (by omega), F5, gR_sR, if_neg (by omega), F4, gR_sR, if_neg (by omega), F3, gR_sR, if_neg (by omega), F2, gR_sR, if_pos ⟨rfl, rfl⟩]
      · rw [q, F6, gR_sR, if_neg (by omega), F5, gR_sR, if_neg (by omega), F4, gR_sR, if_neg (by omega), F3, gR_sR, if_pos ⟨rfl, rfl⟩]
      · rw [q, F6, gR_sR, if_neg (by omega), F5, gR_sR, if_neg (by omega), F4, gR_sR, if_pos ⟨rfl, rfl⟩]
      · rw [q, F6, gR_sR, if_neg (by omega), F5, gR_sR, if_pos ⟨rfl, rfl⟩]
      · rw [q, F6, gR_sR, if_pos ⟨rfl, rfl⟩]
    · rw [e0, E6, E5, E4, E3, E2, E1]
      show gI u m 21 = 0
      exact (hb m (by omega) (by omega) 21).1
  clear e0 E1 E2 E3 E4 E5 E6
  refine ⟨(kr 0 (by omega)).1, (kr 0 (by omega)).2, M0.blk (by omega) (bl 0 (by omega)), by omega, by omega, cm _ (by omega), by omega, fun w1 e1 => ?_⟩
  have M1 : MF u w1 m 2 0 := M0.go (by omega) e1
  clear e1 M0
  refine ⟨(kr 1 (by omega)).1, (kr 1 (by omega)).2, M1.blk (by omega) (bl 1 (by omega)), by omega, by omega, cm _ (by omega), by omega, fun w2 e2 => ?_⟩
  have M2 : MF u w2 m 3 0 := M1.go (by omega) e2
  clear e2 M1
  refine ⟨(kr 2 (by omega)).1, (kr 2 (by omega)).2, M2.blk (by omega) (bl 2 (by omega)), by omega, by omega, cm _ (by omega), by omega, fun w3 e3 => ?_⟩
  have M3 : MF u w3 m 4 0 := M2.go (by omega) e3
  clear e3 M2
  refine ⟨(kr 3 (by omega)).1, (kr 3 (by omega)).2, M3.blk (by omega) (bl 3 (by omega)), by omega, by omega, cm _ (by omega), by omega, fun w4 e4 => ?_⟩
  have M4 : MF u w4 m 5 0 := M3.go (by omega) e4
  clear e4 M3
  refine ⟨(kr 4 (by omega)).1, (kr 4 (by omega)).2, M4.blk (by omega) (bl 4 (by omega)), by omega, by omega, cm _ (by omega), by omega, fun w5 e5 => ?_⟩
  have M5 : MF u w5 m 6 0 := M4.go (by omega) e5
  clear e5 M4
  refine ⟨(kr 5 (by omega)).1, (kr 5 (by omega)).2, M5.blk (by omega) (bl 5 (by omega)), by omega, by omega, cm _ (by omega), by omega, fun w6 e6 => ?_⟩
  have M6 : MF u w6 m 7 0 := M5.go (by omega) e6
  clear e6 M5
  refine ⟨(kr 6 (by omega)).1, (kr 6 (by omega)).2, M6.blk (by omega) (bl 6 (by omega)), by omega, by omega, cm _ (by omega), by omega, fun w7 e7 => ?_⟩
  have M7 : MF u w7 m 8 0 := M6.go (by omega) e7
  clear e7 M6
  refine ⟨(kr 7 (by omega)).1, (kr 7 (by omega)).2, M7.blk (by omega) (bl 7 (by omega)), by omega, by omega, cm _ (by omega), by omega, fun w8 e8 => ?_⟩
  have M8 : MF u w8 m 9 0 := M7.go (by omega) e8
  clear e8 M7
  refine ⟨(kr 8 (by omega)).1, (kr 8 (by omega)).2, M8.blk (by omega) (bl 8 (by omega)), by omega, by omega, cm _ (by omega), by omega, fun w9 e9 => ?_⟩
  have M9 : MF u w9 m 10 0 := M8.go (by omega) e9
  clear e9 M8
  refine ⟨(kr 9 (by omega)).1, (kr 9 (by omega)).2, M9.blk (by omega) (bl 9 (by omega)), by omega, by omega, cm _ (by omega), by omega, fun w10 e10 x10 y10 => ?_⟩
  have N10 : MF u w10 m 11 0 := M9.go (by omega) e10
  have M10 : MF u x10 m 11 (-1) := by
    obtain ⟨n1, n2, n3, n4, n5⟩ := N10
    refine ⟨by rw [y10]; exact n1.trans (Rg.sI (by omega) (by omega)), fun k hk => by rw [y10]; exact n2 k hk, fun k hk => by rw [y10]; exact n3 k hk, fun b j q => by rw [y10, gI_sI, if_neg q]; exact n4 b j q, by rw [y10, gI_sI, if_pos ⟨rfl, rfl⟩]⟩
  clear e10 y10 N10 M9
  refine ⟨(kr 10 (by omega)).1, (kr 10 (by omega)).2, M10.blk (by omega) (bl 10 (by omega)), by omega, by omega, cm _ (by omega), by omega, fun w11 e11 => ?_⟩
  have M11 : MF u w11 m 12 (-1) := M10.go (by omega) e11
  clear e11 M10
  refine ⟨(kr 11 (by omega)).1, (kr 11 (by omega)).2, M11.blk (by omega) (bl 11 (by omega)), by omega, by omega, cm _ (by omega), by omega, fun w12 e12 => ?_⟩
  have M12 : MF u w12 m 13 (-1) := M11.go (by omega) e12
  clear e12 M11
  refine ⟨(kr 12 (by omega)).1, (kr 12 (by omega)).2, M12.blk (by omega) (bl 12 (by omega)), by omega, by omega, cm _ (by omega), by omega, fun w13 e13 => ?_⟩
  have M13 : MF u w13 m 14 (-1) := M12.go (by omega) e13
  clear e13 M12
  refine ⟨(kr 13 (by omega)).1, (kr 13 (by omega)).2, M13.blk (by omega) (bl 13 (by omega)), by omega, by omega, cm _ (by omega), by omega, fun w14 e14 => ?_⟩
  have M14 : MF u w14 m 15 (-1) := M13.go (by omega) e14
  clear e14 M13
  refine ⟨(kr 14 (by omega)).1, (kr 14 (by omega)).2, M14.blk (by omega) (bl 14 (by omega)), by omega, by omega, cm _ (by omega), by omega, fun w15 e15 => ?_⟩
  have M15 : MF u w15 m 16 (-1) := M14.go (by omega) e15
  clear e15 M14
  refine ⟨(kr 15 (by omega)).1, (kr 15 (by omega)).2, M15.blk (by omega) (bl 15 (by omega)), by omega, by omega, cm _ (by omega), by omega, fun w16 e16 => ?_⟩
  have M16 : MF u w16 m 17 (-1) := M15.go (by omega) e16
  clear e16 M15
  refine ⟨(kr 16 (by omega)).1, (kr 16 (by omega)).2, M16.blk (by omega) (bl 16 (by omega)), by omega, by omega, cm _ (by omega), by omega, fun w17 e17 => ?_⟩
  have M17 : MF u w17 m 18 (-1) := M16.go (by omega) e17
  clear e17 M16
  refine ⟨(kr 17 (by omega)).1, (kr 17 (by omega)).2, M17.blk (by omega) (bl 17 (by omega)), by omega, by omega, cm _ (by omega), by omega, fun w18 e18 => ?_⟩
  have M18 : MF u w18 m 19 (-1) := M17.go (by omega) e18
  clear e18 M17
  refine ⟨(kr 18 (by omega)).1, (kr 18 (by omega)).2, M18.blk (by omega) (bl 18 (by omega)), by omega, by omega, cm _ (by omega), by omega, fun w19 e19 => ?_⟩
  have M19 : MF u w19 m 20 (-1) := M18.go (by omega) e19
  clear e19 M18
  refine ⟨(kr 19 (by omega)).1, (kr 19 (by omega)).2, M19.blk (by omega) (bl 19 (by omega)), by omega, by omega, cm _ (by omega), by omega, fun w20 e20 => ?_⟩
  have M20 : MF u w20 m 21 (-1) := M19.go (by omega) e20
  clear e20 M19
  refine ⟨(kr 20 (by omega)).1, (kr 20 (by omega)).2, M20.blk (by omega) (bl 20 (by omega)), by omega, by omega, cm _ (by omega), by omega, fun w21 e21 => ?_⟩
  have M21 : MF u w21 m 22 (-1) := M20.go (by omega) e21
  clear e21 M20
  refine ⟨(kr 21 (by omega)).1, (kr 21 (by omega)).2, M21.blk (by omega) (bl 21 (by omega)), by omega, by omega, cm _ (by omega), by omega, fun w22 e22 => ?_⟩
  have M22 : MF u w22 m 23 (-1) := M21.go (by omega) e22
  clear e22 M21
  refine ⟨(kr 22 (by omega)).1, (kr 22 (by omega)).2, M22.blk (by omega) (bl 22 (by omega)), by omega, by omega, cm _ (by omega), by omega, fun w23 e23 => ?_⟩
  have M23 : MF u w23 m 24 (-1) := M22.go (by omega) e23
  clear e23 M22
  refine ⟨(kr 23 (by omega)).1, (kr 23 (by omega)).2, M23.blk (by omega) (bl 23 (by omega)), by omega, by omega, cm _ (by omega), by omega, fun w24 e24 => ?_⟩
  have M24 : MF u w24 m 25 (-1) := M23.go (by omega) e24
  clear e24 M23
  refine ⟨(kr 24 (by omega)).1, (kr 24 (by omega)).2, M24.blk (by omega) (bl 24 (by omega)), by omega, by omega, cm _ (by omega), by omega, fun w25 e25 => ?_⟩
  have M25 : MF u w25 m 26 (-1) := M24.go (by omega) e25
  clear e25 M24
  refine ⟨(kr 25 (by omega)).1, (kr 25 (by omega)).2, M25.blk (by omega) (bl 25 (by omega)), by omega, by omega, cm _ (by omega), by omega, fun w26 e26 => ?_⟩
  have M26 : MF u w26 m 27 (-1) := M25.go (by omega) e26
  clear e26 M25
  refine ⟨(kr 26 (by omega)).1, (kr 26 (by omega)).2, M26.blk (by omega) (bl 26 (by omega)), by omega, by omega, cm _ (by omega), by omega, fun w27 e27 => ?_⟩
  have M27 : MF u w27 m 28 (-1) := M26.go (by omega) e27
  clear e27 M26
  refine ⟨(kr 27 (by omega)).1, (kr 27 (by omega)).2, M27.blk (by omega) (bl 27 (by omega)), by omega, by omega, cm _ (by omega), by omega, fun w28 e28 => ?_⟩
  have M28 : MF u w28 m 29 (-1) := M27.go (by omega) e28
  clear e28 M27
  refine ⟨(kr 28 (by omega)).1, (kr 28 (by omega)).2, M28.blk (by omega) (bl 28 (by omega)), by omega, by omega, cm _ (by omega), by omega, fun w29 e29 => ?_⟩
  have M29 : MF u w29 m 30 (-1) := M28.go (by omega) e29
  clear e29 M28
  refine ⟨(kr 29 (by omega)).1, (kr 29 (by omega)).2, M29.blk (by omega) (bl 29 (by omega)), by omega, by omega, cm _ (by omega), by omega, fun w30 e30 => ?_⟩
  have M30 : MF u w30 m 31 (-1) := M29.go (by omega) e30
  clear e30 M29
  refine ⟨(kr 30 (by omega)).1, (kr 30 (by omega)).2, M30.blk (by omega) (bl 30 (by omega)), by omega, by omega, cm _ (by omega), by omega, fun w31 e31 => ?_⟩
  have M31 : MF u w31 m 32 (-1) := M30.go (by omega) e31
  clear e31 M30
  refine ⟨(kr 31 (by omega)).1, (kr 31 (by omega)).2, M31.blk (by omega) (bl 31 (by omega)), by omega, by omega, cm _ (by omega), by omega, fun w32 e32 => ?_⟩
  have M32 : MF u w32 m 33 (-1) := M31.go (by omega) e32
  clear e32 M31
  refine ⟨(kr 32 (by omega)).1, (kr 32 (by omega)).2, M32.blk (by omega) (bl 32 (by omega)), by omega, by omega, cm _ (by omega), by omega, fun w33 e33 => ?_⟩
  have M33 : MF u w33 m 34 (-1) := M32.go (by omega) e33
  clear e33 M32
  refine ⟨(kr 33 (by omega)).1, (kr 33 (by omega)).2, M33.blk (by omega) (bl 33 (by omega)), by omega, by omega, cm _ (by omega), by omega, fun w34 e34 => ?_⟩
  have M34 : MF u w34 m 35 (-1) := M33.go (by omega) e34
  clear e34 M33
  refine ⟨(kr 34 (by omega)).1, (kr 34 (by omega)).2, M34.blk (by omega) (bl 34 (by omega)), by omega, by omega, cm _ (by omega), by omega, fun w35 e35 => ?_⟩
  have M35 : MF u w35 m 36 (-1) := M34.go (by omega) e35
  clear e35 M34
  refine ⟨(kr 35 (by omega)).1, (kr 35 (by omega)).2, M35.blk (by omega) (bl 35 (by omega)), by omega, by omega, cm _ (by omega), by omega, fun w36 e36 => ?_⟩
  have M36 : MF u w36 m 37 (-1) := M35.go (by omega) e36
  clear e36 M35
  refine ⟨(kr 36 (by omega)).1, (kr 36 (by omega)).2, M36.blk (by omega) (bl 36 (by omega)), by omega, by omega, cm _ (by omega), by omega, fun w37 e37 => ?_⟩
  have M37 : MF u w37 m 38 (-1) := M36.go (by omega) e37
  clear e37 M36
  refine ⟨(kr 37 (by omega)).1, (kr 37 (by omega)).2, M37.blk (by omega) (bl 37 (by omega)), by omega, by omega, cm _ (by omega), by omega, fun w38 e38 => ?_⟩
  have M38 : MF u w38 m 39 (-1) := M37.go (by omega) e38
  clear e38 M37
  refine n_mlands (by omega) (fun b j q1 q2 => ?_) M38.2.2.2.2 (M38.hm (by omega) mk.1 k1 kr (fun _ _ => rfl)) (fun v rv Rv => hQ v ((M38.1.mono (by omega) (by omega)).trans rv) Rv)
  by_cases q : b = m ∧ j = 21
  · exact Or.inr q
  · exact Or.inl ((M38.2.2.2.1 b j q).trans (hb b (by omega) (by omega) j).1)
end MMAKE
