/-! FEED -/
def by8 (x : Int32) (k : Nat) : Nat := (x.toBitVec.toNat / 2 ^ k) % 256
theorem by8_lt (x : Int32) (k : Nat) : by8 x k < 256 := Nat.mod_lt _ (by omega)
theorem tn_of (x : Int32) : (x.toBitVec.toNat : Int) = x.toInt % 4294967296 := by
  have h := BitVec.toInt_eq_toNat_cond x.toBitVec
  have h2 : x.toBitVec.toInt = x.toInt := rfl
  have h3 := x.toBitVec.isLt
  rw [h2] at h
  split at h <;> omega
theorem i8_cong {x y : Int32} (h : x.toBitVec.toNat % 256 = y.toBitVec.toNat % 256) : i8 x = i8 y := by
  unfold i8
  have : x.toInt8 = y.toInt8 := by
    apply Int8.toBitVec_inj.mp
    rw [Int32.toBitVec_toInt8, Int32.toBitVec_toInt8]
    apply BitVec.eq_of_toNat_eq
    rw [BitVec.signExtend_eq_setWidth_of_le _ (by omega), BitVec.signExtend_eq_setWidth_of_le _ (by omega), BitVec.toNat_setWidth, BitVec.toNat_setWidth]
    exact h
  rw [this]
theorem i8_i8 (x : Int32) : i8 (i8 x) = i8 x := fb_byte_twice x
def fdK (k : Nat) : Prop := k = 24 ∨ k = 16 ∨ k = 8 ∨ k = 0
theorem fd_ush {x : Int32} {k : Nat} (hk : fdK k) : i8 (i8 (ush x (nI k))) = i8 (nI (by8 x k)) := by
  rw [i8_i8]
  apply i8_cong
  have e : (ush x (nI k)).toBitVec.toNat = x.toBitVec.toNat / 2 ^ k := by
    unfold ush
    refine pk_ushr x (nI k) k ?_
    rcases hk with rfl | rfl | rfl | rfl <;> decide
  rw [e, pk_tn (by have := by8_lt x k; omega)]
  unfold by8
  omega
theorem fd_shr {x : Int32} {k : Nat} (hk : fdK k) : shr x (nI k) &&& (255 : Int32) = nI (by8 x k) := by
  rw [pk_and (shr x (nI k)) (m := 255) 8 (by decide)]
  congr 1
  have e : (shr x (nI k)).toInt = x.toInt >>> k := by
    unfold shr
    refine pk_shr x (nI k &&& 31) k ?_
    rcases hk with rfl | rfl | rfl | rfl <;> decide
  have h1 := tn_of (shr x (nI k))
  have h2 := tn_of x
  rw [e, Int.shiftRight_eq_div_pow] at h1
  have hr := fb_rng x
  unfold by8
  rcases hk with rfl | rfl | rfl | rfl
  · have h1 : ((shr x (nI 24)).toBitVec.toNat : Int) = x.toInt / 16777216 % 4294967296 := h1
    show (shr x (nI 24)).toBitVec.toNat % 256 = x.toBitVec.toNat / 16777216 % 256
    omega
  · have h1 : ((shr x (nI 16)).toBitVec.toNat : Int) = x.toInt / 65536 % 4294967296 := h1
    show (shr x (nI 16)).toBitVec.toNat % 256 = x.toBitVec.toNat / 65536 % 256
    omega
  · have h1 : ((shr x (nI 8)).toBitVec.toNat : Int) = x.toInt / 256 % 4294967296 := h1
    show (shr x (nI 8)).toBitVec.toNat % 256 = x.toBitVec.toNat / 256 % 256
    omega
  · have h1 : ((shr x (nI 0)).toBitVec.toNat : Int) = x.toInt / 1 % 4294967296 := h1
    show (shr x (nI 0)).toBitVec.toNat % 256 = x.toBitVec.toNat / 1 % 256
    omega
def fdW (a b c d e : Int32) (q : Nat) : Int32 := if q = 0 then a else if q = 1 then b else if q = 2 then c else if q = 3 then d else e
def fdB (a b c d e : Int32) (i : Nat) : Int32 := nI (by8 (fdW a b c d e (i / 4)) (24 - 8 * (i % 4)))
def setT (S : St) (N : Nat) (Y : Nat → Int32) : St := (sD S, sB S, sX S, N, Y, sF S)
def fdY (S : St) (a b c d e : Int32) : Nat → Int32 := fun i => if i < sN S then sY S i else fdB a b c d e (i - sN S)
theorem fd_ok {S : St} {a b c d e : Int32} (hS : okS S) (h : sN S + 20 ≤ 700) : okS (setT S (sN S + 20) (fdY S a b c d e)) := by
  refine ⟨hS.1, hS.2.1, hS.2.2.1, h, fun i hi => ?_⟩
  show btw 0 255 (if i < sN S then sY S i else fdB a b c d e (i - sN S))
  split
  · rename_i q; exact hS.2.2.2.2 i q
  · unfold fdB
    have := by8_lt (fdW a b c d e ((i - sN S) / 4)) (24 - 8 * ((i - sN S) % 4))
    unfold btw
    rw [nI_toInt (by omega)]
    omega
theorem RC.toT {G : Gx} {u v : Mm} {z : Nat} {o : Nat → Nat} {S : St} {N : Nat} {Y : Nat → Int32} (h : RC G u z o S) (hS : okS S) (f : Fx (fun a j => (a = z + 1 ∧ j = 1) ∨ a = z + 2) u v) (hN : gI v (z + 1) 1 = nI N) (hY : ∀ i, i < N → gI v (z + 2) i = i8 (Y i)) : RC G v z o (setT S N Y) := by
  obtain ⟨h1, ⟨i1, i2, i3, i4⟩, h3, h4, h5, h6, h7, h8⟩ := h
  refine ⟨h1.fx f, ⟨fun k hk => ?_, ?_, i3, i4⟩, fun l hl => ?_, ?_, ?_, hN, hY, ?_⟩
  · rw [f.gR]; exact i1 k hk
  · rw [f.gR]; exact i2
  · have q := lnd_bd (z := z) (i3 l (by omega))
    exact (h3 l hl).same (hS.1 l hl) (fun b j q1 q2 => f.2 b j (by omega))
  · exact h4.keep hS.2.1 (fun a j q1 q2 _ => f.2 a j (by omega))
  · show XC v z (sX S)
    cases hx : sX S with
    | none =>
      rw [hx] at h5
      show gI v z 4 = 0
      rw [f.2 _ _ (by omega)]
      exact h5
    | some B2 =>
      rw [hx] at h5
      refine ⟨?_, h5.2.keep (hS.2.2.1 B2 hx) (fun a j q1 q2 _ => f.2 a j (by omega))⟩
      rw [f.2 _ _ (by omega)]
      exact h5.1
  · rw [f.2 _ _ (by omega)]; exact h8
theorem RM.toT {G : Gx} {u v : Mm} {m : Nat} {S : St} {N : Nat} {Y : Nat → Int32} (h : RM G u m S) (f : Fx (fun a j => (a = m ∧ (j = 1 ∨ j = 12)) ∨ a = m + 11) u v) (hN : gI v m 12 = nI N) (hY : ∀ i, i < N → gI v (m + 11) i = Y i) : RM G v m (setT S N Y) := by
  obtain ⟨h1, h2, h3, h4, h5, h6, h7⟩ := h
  refine ⟨h1.keep (fun a j _ _ => f.gR a j), fun l hl => (h2 l hl).same (fun b j q1 q2 => f.2 b j (by omega)), ?_, ?_, hN, hY, ?_⟩
  · exact h3.keep (f.2 _ _ (by omega)) (f.2 _ _ (by omega)) (fun j => f.2 _ _ (by omega)) (fun c j q1 q2 => f.2 _ _ (by omega))
  · show XM v m (sX S)
    cases hx : sX S with
    | none =>
      rw [hx] at h4
      show gI v m 45 = 0
      rw [f.2 _ _ (by omega)]
      exact h4
    | some B2 =>
      rw [hx] at h4
      exact ⟨(f.2 _ _ (by omega)).trans h4.1, h4.2.keep (f.2 _ _ (by omega)) (f.2 _ _ (by omega)) (fun j => f.2 _ _ (by omega)) (fun c j q1 q2 => f.2 _ _ (by omega))⟩
  · rw [f.2 _ _ (by omega)]; exact h7
section FEED
variable {G : Gx} {u : Mm}
theorem ap_step {Q : Mm → Prop} {z n k N : Nat} {x : Int32} (h : HC0 G u z) (hk : fdK k) (hN : gI u (z + 1) 1 = nI N) (hl : N < 700) (hQ : ∀ u', Fx (fun a j => (a = z + 1 ∧ j = 1) ∨ (a = z + 2 ∧ j = N)) u u' → gI u' (z + 1) 1 = nI (N + 1) → gI u' (z + 2) N = i8 (nI (by8 x k)) → V_X8_append_3 G Q n (z + 1) x (nI k + (-8)) u') : V_X8_append_3 G Q (n + 1) (z + 1) x (nI k) u := by
  obtain ⟨_, t2, t3, t4, t5⟩ := h.2.1
  show V_X8_append_3_B G Q (V_X8_append_3 G Q n) (z + 1) x (nI k) u
  unfold V_X8_append_3_B
  rw [hN, t3, t4, t5, nI_clamp (by omega), fd_ush hk]
  refine ⟨fun c => absurd c (nI_pos (by unfold fdK at hk; omega)), fun _ => ⟨t2, fun c => absurd ((nI_leI (a := 700) (by omega) (by omega)).mp c) (by omega), fun _ => ⟨by omega, rfl, vp_in_nI hl (by omega), fun w hw w2 hw2 y hy => ?_⟩⟩⟩
  have e : gI w (z + 1) 1 = nI N := by rw [hw, gI_sI, if_neg (by omega)]; exact hN
  rw [e, nI_1] at hw2
  rw [hy]
  refine hQ w2 ?_ ?_ ?_
  · rw [hw2, hw]
    exact (Fx.put (by omega)).trans (Fx.put (by omega))
  · rw [hw2, gI_sI, if_pos ⟨rfl, rfl⟩]
  · rw [hw2, gI_sI, if_neg (by omega), hw, gI_sI, if_pos ⟨rfl, rfl⟩]
theorem c_append {Q : Mm → Prop} {z N : Nat} {x : Int32} (h : HC0 G u z) (hN : gI u (z + 1) 1 = nI N) (hl : N + 4 ≤ 700) (hQ : ∀ u', Fx (fun a j => (a = z + 1 ∧ j = 1) ∨ (a = z + 2 ∧ N ≤ j ∧ j < N + 4)) u u' → gI u' (z + 1) 1 = nI (N + 4) → (∀ j, j < 4 → gI u' (z + 2) (N + j) = i8 (nI (by8 x (24 - 8 * j)))) → Q u') : V_X8_append G (z + 1) x u Q := by
  refine ⟨5, ap_step (k := 24) h (Or.inl rfl) hN (by omega) (fun u1 f1 n1 b1 => ?_)⟩
  rw [show nI 24 + (-8 : Int32) = nI 16 from by decide]
  refine ap_step (k := 16) (h.fx f1) (Or.inr (Or.inl rfl)) n1 (by omega) (fun u2 f2 n2 b2 => ?_)
  rw [show nI 16 + (-8 : Int32) = nI 8 from by decide]
  refine ap_step (k := 8) ((h.fx f1).fx f2) (Or.inr (Or.inr (Or.inl rfl))) n2 (by omega) (fun u3 f3 n3 b3 => ?_)
  rw [show nI 8 + (-8 : Int32) = nI 0 from by decide]
  refine ap_step (k := 0) (((h.fx f1).fx f2).fx f3) (Or.inr (Or.inr (Or.inr rfl))) n3 (by omega) (fun u4 f4 n4 b4 => ?_)
  show V_X8_append_3_B G Q (V_X8_append_3 G Q 0) (z + 1) x (nI 0 + (-8)) u4
  unfold V_X8_append_3_B
  refine ⟨fun _ => ?_, fun c => absurd (by decide) c⟩
  refine hQ u4 ((((f1.mono (fun a j q => by omega)).trans (f2.mono (fun a j q => by omega))).trans (f3.mono (fun a j q => by omega))).trans (f4.mono (fun a j q => by omega))) n4 (fun j hj => ?_)
  have : j = 0 ∨ j = 1 ∨ j = 2 ∨ j = 3 := by omega
  rcases this with rfl | rfl | rfl | rfl
  · rw [f4.2 _ _ (by omega), f3.2 _ _ (by omega), f2.2 _ _ (by omega)]; exact b1
  · rw [f4.2 _ _ (by omega), f3.2 _ _ (by omega)]; exact b2
  · rw [f4.2 _ _ (by omega)]; exact b3
  · exact b4
theorem c_feed {Q : Int32 → Mm → Prop} {z : Nat} {o : Nat → Nat} {S : St} {a b c d e : Int32} (hR : RC G u z o S) (hS : okS S) (h1 : sN S + 20 ≤ 700 → ∀ u', RC G u' z o (setT S (sN S + 20) (fdY S a b c d e)) → Fx (fun a _ => a < z + 476) u u' → Q (nI (sN S + 20)) u') (h0 : ¬ sN S + 20 ≤ 700 → Q (-1) u) : V_X11_feed G z a b c d e u Q := by
  obtain ⟨h, _, _, _, _, hN, hY, _⟩ := id hR
  have n700 := hS.2.2.2.1
  obtain ⟨t1, t2, _⟩ := h.2.1
  unfold V_X11_feed
  rw [t1, hN, nI_litA]
  have e20 : ∀ q : Nat, (nI q ≤ (700 : Int32)) = (nI q ≤ nI 700) := fun _ => rfl
  refine ⟨h.k, by omega, t2, fun q => ?_, fun q => h0 (fun g => q (nI_le (b := 700) g (by omega)))⟩
  have g : sN S + 20 ≤ 700 := (nI_leI (a := sN S + 20) (b := 700) (by omega) (by omega)).mp q
  refine c_append h hN (by omega) (fun u1 f1 n1 b1 => ?_)
  have g1 := h.fx f1
  rw [g1.2.1.1]
  refine ⟨by omega, t2, c_append g1 n1 (by omega) (fun u2 f2 n2 b2 => ?_)⟩
  have g2 := g1.fx f2
  rw [g2.2.1.1]
  refine ⟨by omega, t2, c_append g2 n2 (by omega) (fun u3 f3 n3 b3 => ?_)⟩
  have g3 := g2.fx f3
  rw [g3.2.1.1]
  refine ⟨by omega, t2, c_append g3 n3 (by omega) (fun u4 f4 n4 b4 => ?_)⟩
  have g4 := g3.fx f4
  rw [g4.2.1.1]
  refine ⟨by omega, t2, c_append g4 n4 (by omega) (fun u5 f5 n5 b5 => ?_)⟩
  have g5 := g4.fx f5
  rw [g5.2.1.1, n5]
  refine ⟨by omega, t2, h1 g u5 (hR.toT hS ((((f1.mono ?_).trans (f2.mono ?_)).trans (f3.mono ?_)).trans (f4.mono ?_) |>.trans (f5.mono ?_)) n5 (fun i hi => ?_)) ((((f1.mono ?_).trans (f2.mono ?_)).trans (f3.mono ?_)).trans (f4.mono ?_) |>.trans (f5.mono ?_))⟩
  case refine_6 =>
    show gI u5 (z + 2) i = i8 (if i < sN S then sY S i else fdB a b c d e (i - sN S))
    by_cases q : i < sN S
    · rw [if_pos q, f5.2 _ _ (by omega), f4.2 _ _ (by omega), f3.2 _ _ (by omega), f2.2 _ _ (by omega), f1.2 _ _ (by omega)]
      exact hY i q
    · rw [if_neg q]
      obtain ⟨k, hk⟩ : ∃ k, i = sN S + k := ⟨i - sN S, by omega⟩
      subst hk
      rw [Nat.add_sub_cancel_left]
      unfold fdB
      have hq : k / 4 = 0 ∨ k / 4 = 1 ∨ k / 4 = 2 ∨ k / 4 = 3 ∨ k / 4 = 4 := by omega
      rcases hq with hq | hq | hq | hq | hq
      · rw [hq, f5.2 _ _ (by omega), f4.2 _ _ (by omega), f3.2 _ _ (by omega), f2.2 _ _ (by omega)]
        have := b1 (k % 4) (by omega)
        rw [show sN S + k % 4 = sN S + k by omega] at this
        exact this
      · rw [hq, f5.2 _ _ (by omega), f4.2 _ _ (by omega), f3.2 _ _ (by omega)]
        have := b2 (k % 4) (by omega)
        rw [show sN S + 4 + k % 4 = sN S + k by omega] at this
        exact this
      · rw [hq, f5.2 _ _ (by omega), f4.2 _ _ (by omega)]
        have := b3 (k % 4) (by omega)
        rw [show sN S + 4 + 4 + k % 4 = sN S + k by omega] at this
        exact this
      · rw [hq, f5.2 _ _ (by omega)]
        have := b4 (k % 4) (by omega)
        rw [show sN S + 4 + 4 + 4 + k % 4 = sN S + k by omega] at this
        exact this
      · rw [hq]
        have := b5 (k % 4) (by omega)
        rw [show sN S + 4 + 4 + 4 + 4 + k % 4 = sN S + k by omega] at this
        exact this
  all_goals (intro a j q; omega)
theorem m_feed {Q : Int32 → Mm → Prop} {m : Nat} {S : St} {a b c d e : Int32} (hR : RM G u m S) (hS : okS S) (h1 : sN S + 20 ≤ 700 → ∀ u', RM G u' m (setT S (sN S + 20) (fdY S a b c d e)) → Fx (fun a _ => m ≤ a ∧ a < m + 40) u u' → Q (nI (sN S + 20)) u') (h0 : ¬ sN S + 20 ≤ 700 → ∀ u', RM G u' m S → Fx (fun a _ => m ≤ a ∧ a < m + 40) u u' → Q (-1) u') : V_X12_feed G m a b c d e u Q := by
  have mk : kd G m = 12 := hR.1.1.2.1
  have m0 : 0 < m := hR.1.1.1
  have n700 := hS.2.2.2.1
  refine ⟨mk, fun w hw => ?_⟩
  subst hw
  have hR0 := hR.put (c := 0)
  obtain ⟨hH, _, _, _, hN, hY, _⟩ := id hR0
  have F0 : Fx (fun a _ => m ≤ a ∧ a < m + 40) u (sI u m 1 0) := Fx.put ⟨by omega, by omega⟩
  rw [hN, nI_litA]
  refine ⟨fun q => ?_, fun q => h0 (fun g => q (nI_le (b := 700) g (by omega))) _ hR0 F0⟩
  have g : sN S + 20 ≤ 700 := (nI_leI (a := sN S + 20) (b := 700) (by omega) (by omega)).mp q
  have h1 := h1 g
  suffices go : ∀ (n k : Nat) (v : Mm), k + n = 20 → Fx (fun a j => (a = m ∧ j = 12) ∨ (a = m + 11 ∧ sN S ≤ j)) (sI u m 1 0) v → gI v m 12 = nI (sN S + k) → (∀ i, i < k → gI v (m + 11) (sN S + i) = fdB a b c d e i) → V_X12_feed_23 G Q (n + 1) m a b c d e (nI k) v from ⟨21, go 20 0 _ (by omega) Fx.rfl' hN (fun i hi => absurd hi (by omega))⟩
  intro n
  induction n with
  | zero =>
    intro k v hk f hn hh
    have hk' : k = 20 := by omega
    subst hk'
    show V_X12_feed_23_B G Q (V_X12_feed_23 G Q 0) m a b c d e (nI 20) v
    unfold V_X12_feed_23_B
    rw [hn]
    refine ⟨fun _ => ⟨mk, h1 v (hR0.toT (f.mono (fun a j q => by omega)) hn (fun i hi => ?_)) (F0.trans (f.mono (fun a j q => by omega)))⟩, fun c => absurd (nI_le (a := 20) (b := 20) (by omega) (by omega)) c⟩
    show gI v (m + 11) i = (if i < sN S then sY S i else fdB a b c d e (i - sN S))
    by_cases q : i < sN S
    · rw [if_pos q, f.2 _ _ (by omega)]
      exact hY i q
    · rw [if_neg q]
      have := hh (i - sN S) (by omega)
      rw [show sN S + (i - sN S) = i by omega] at this
      exact this
  | succ n ih =>
    intro k v hk f hn hh
    obtain ⟨_, ⟨a1, a2, a3⟩, _⟩ := f.kMR3 hH.2.2.1
    have main : V_X12_feed_76 G Q (V_X12_feed_23 G Q (n + 1)) m a b c d e (nI k) (fdW a b c d e (k / 4)) v := by
      unfold V_X12_feed_76
      have e4 : (24 : Int32) - ((8 : Int32) * (irm (nI k) (4 : Int32))) = nI (24 - 8 * (k % 4)) := by
        have e1 : irm (nI k) (4 : Int32) = nI (k % 4) := pk_rem (d := 4) (by omega) (by omega) (by omega)
        have e2 : (8 : Int32) * nI (k % 4) = nI (8 * (k % 4)) := nI_litM 8 _
        rw [e1, e2]
        exact pk_sub (a := 24) (b := 8 * (k % 4)) (by omega)
      have hfk : fdK (24 - 8 * (k % 4)) := by unfold fdK; omega
      rw [a3, a1, a2, hn, nI_clamp (by omega), e4, fd_shr hfk]
      refine ⟨mk, by omega, rfl, vp_in_nI (by omega) (by omega), fun w hw w2 hw2 y hy => ?_⟩
      have e5 : gI w m 12 = nI (sN S + k) := by rw [hw, gI_sI, if_neg (by omega)]; exact hn
      rw [e5, nI_1] at hw2
      rw [hy, nI_1]
      refine ih (k + 1) w2 (by omega) ?_ ?_ (fun i hi => ?_)
      · rw [hw2, hw]
        exact f.trans ((Fx.put (by omega)).trans (Fx.put (by omega)))
      · rw [hw2, gI_sI, if_pos ⟨rfl, rfl⟩, Nat.add_assoc]
      · rw [hw2, gI_sI, if_neg (by omega), hw, gI_sI]
        by_cases q : i = k
        · rw [if_pos ⟨rfl, by omega⟩, q]; rfl
        · rw [if_neg (by omega)]
          exact hh i (by omega)
    show V_X12_feed_23_B G Q (V_X12_feed_23 G Q (n + 1)) m a b c d e (nI k) v
    unfold V_X12_feed_23_B
    have le : ∀ q : Nat, q < 2 ^ 31 → (nI q ≤ nI k ↔ q ≤ k) := fun q hq => nI_leI hq (by omega)
    refine ⟨fun c => absurd ((le 20 (by omega)).mp c) (by omega), fun _ => ⟨fun c4 => ⟨fun c8 => ⟨fun c12 => ⟨fun c16 => ?_, fun c16 => ?_⟩, fun c12 => ?_⟩, fun c8 => ?_⟩, fun c4 => ?_⟩⟩
    · have c16 := (le 16 (by omega)).mp c16
      rw [show k / 4 = 4 by omega] at main
      exact main
    · have c12 := (le 12 (by omega)).mp c12
      have c16 : ¬ 16 ≤ k := fun g => c16 ((le 16 (by omega)).mpr g)
      rw [show k / 4 = 3 by omega] at main
      exact main
    · have c8 := (le 8 (by omega)).mp c8
      have c12 : ¬ 12 ≤ k := fun g => c12 ((le 12 (by omega)).mpr g)
      rw [show k / 4 = 2 by omega] at main
      exact main
    · have c4 := (le 4 (by omega)).mp c4
      have c8 : ¬ 8 ≤ k := fun g => c8 ((le 8 (by omega)).mpr g)
      rw [show k / 4 = 1 by omega] at main
      exact main
    · have c4 : ¬ 4 ≤ k := fun g => c4 ((le 4 (by omega)).mpr g)
      rw [show k / 4 = 0 by omega] at main
      exact main
end FEED
