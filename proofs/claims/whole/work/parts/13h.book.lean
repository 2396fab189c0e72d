/-! THE BOOK is written: station, tick, spot, clear, fault -/
def setB (S : St) (B : Bk) : St := (sD S, B, sX S, sN S, sY S, sF S)
theorem setB_ok {S : St} {B : Bk} (hS : okS S) (hB : okB B) : okS (setB S B) := ⟨hS.1, hB, hS.2.2.1, hS.2.2.2.1, hS.2.2.2.2⟩
def incR (B : Bk) (k : Nat) : Bk := (bkN B, bkF B, bkT B, bkS B, bkP B, fun j => if j = k then bkR B k + 1 else bkR B j)
theorem incR_ok {B : Bk} {k : Nat} (h : okB B) : okB (incR B k) := h
def addS (B : Bk) (x y yr tn : Int32) : Bk := (bkN B + 1, fun s f => if s = bkN B then (if f = 0 then x else if f = 1 then y else if f = 2 then yr else tn) else bkF B s f, fun s => if s = bkN B then [] else bkT B s, bkS B, bkP B, bkR B)
def addT (B : Bk) (s : Nat) (t : Int32) : Bk := (bkN B, bkF B, fun k => if k = s then bkT B s ++ [t] else bkT B k, bkS B, bkP B, bkR B)
def addP (B : Bk) (x y : Int32) : Bk := (bkN B, bkF B, bkT B, bkS B + 1, fun i f => if i = bkS B then (if f = 0 then x else y) else bkP B i f, bkR B)
def clrB (B : Bk) : Bk := (0, bkF B, bkT B, 0, bkP B, bkR B)
theorem clrB_ok {B : Bk} : okB (clrB B) := ⟨Nat.zero_le _, Nat.zero_le _, fun s hs => absurd hs (Nat.not_lt_zero _), fun i hi => absurd hi (Nat.not_lt_zero _)⟩
theorem RC.kr {G : Gx} {u v : Mm} {z : Nat} {o : Nat → Nat} {S : St} (h : RC G u z o S) (hS : okS S) (f : Fx (fun a _ => z + 476 ≤ a) u v) : RC G v z o S := h.fx hS f (fun a j q => Or.inr (Or.inr q))
theorem RM.kr {G : Gx} {u v : Mm} {z : Nat} {S : St} (h : RM G u (z + 476) S) (f : Fx (fun a _ => a < z + 476) u v) : RM G v (z + 476) S := h.fx f (fun a j q => Or.inr (Or.inl q))
theorem RC.toB {G : Gx} {u v : Mm} {z : Nat} {o : Nat → Nat} {S : St} {B : Bk} (h : RC G u z o S) (hS : okS S) (f : Fx (fun a _ => z + 172 ≤ a ∧ a < z + 238) u v) (hB : BC v (z + 172) B) : RC G v z o (setB S B) := by
  obtain ⟨h1, ⟨i1, i2, i3, i4⟩, h3, h4, h5, h6, h7, h8⟩ := h
  refine ⟨h1.fx f, ⟨fun k hk => ?_, ?_, i3, i4⟩, fun l hl => ?_, hB, ?_, ?_, fun i hi => ?_, ?_⟩
  · rw [f.gR]; exact i1 k hk
  · rw [f.gR]; exact i2
  · have q := lnd_bd (z := z) (i3 l (by omega))
    exact (h3 l hl).same (hS.1 l hl) (fun b j q1 q2 => f.2 b j (by omega))
  · show XC v z (sX S)
    cases hx : sX S with
    | none =>
      rw [hx] at h5
      show gI v z 4 = 0
      rw [f.2 _ _ (by omega)]
      exact h5
    | some B2 =>
      rw [hx] at h5
      refine ⟨?_, h5.2.keep (hS.2.2.1 B2 hx) (fun a j q1 q2 _ => f.2 a j (by omega))⟩
      rw [f.2 _ _ (by omega)]
      exact h5.1
  · rw [f.2 _ _ (by omega)]; exact h6
  · rw [f.2 _ _ (by omega)]; exact h7 i hi
  · rw [f.2 _ _ (by omega)]; exact h8
def mbk (m a j : Nat) : Prop := msc m a j ∨ (m + 16 ≤ a ∧ a ≤ m + 24) ∨ a = m + 10 ∨ (a = m ∧ (j = 27 ∨ j = 28))
theorem RM.toB {G : Gx} {u v : Mm} {m : Nat} {S : St} {B : Bk} (h : RM G u m S) (f : Fx (mbk m) u v) (hB : BM v m 16 10 27 28 B) : RM G v m (setB S B) := by
  obtain ⟨h1, h2, h3, h4, h5, h6, h7⟩ := h
  have f1 : ∀ a j, m + 2 ≤ a → a < m + 10 → gI v a j = gI u a j := fun a j q1 q2 => f.2 a j (by unfold mbk msc; omega)
  have f3 : ∀ a j, m + 30 ≤ a → gI v a j = gI u a j := fun a j q1 => f.2 a j (by unfold mbk msc; omega)
  have f4 : ∀ j, ¬ (j = 1 ∨ (13 ≤ j ∧ j ≤ 20) ∨ j = 26 ∨ j = 41 ∨ j = 42 ∨ j = 27 ∨ j = 28) → gI v m j = gI u m j := fun j q => f.2 m j (by unfold mbk msc; omega)
  refine ⟨h1.keep (fun a j _ _ => f.gR a j), fun l hl => (h2 l hl).same (fun b j q1 q2 => f1 b j q1 q2), hB, ?_, ?_, fun i hi => ?_, ?_⟩
  · show XM v m (sX S)
    cases hx : sX S with
    | none =>
      rw [hx] at h4
      show gI v m 45 = 0
      rw [f4 _ (by omega)]
      exact h4
    | some B2 =>
      rw [hx] at h4
      exact ⟨(f4 _ (by omega)).trans h4.1, h4.2.keep (f4 _ (by omega)) (f4 _ (by omega)) (fun j => f3 _ _ (by omega)) (fun c j q1 q2 => f3 _ _ (by omega))⟩
  · rw [f4 _ (by omega)]; exact h5
  · rw [f.2 _ _ (by unfold mbk msc; omega)]; exact h6 i hi
  · rw [f4 _ (by omega)]; exact h7
theorem BC.inc {u : Mm} {b k : Nat} {B : Bk} (h : BC u b B) (hB : okB B) (hk : k < 4) : BC (sI u (b + 3) k (gI u (b + 3) k + 1)) b (incR B k) := by
  obtain ⟨h1, h2, h3, h4, h5⟩ := h
  have n20 := hB.1
  have e : ∀ a j, a ≠ b + 3 → gI (sI u (b + 3) k (gI u (b + 3) k + 1)) a j = gI u a j := fun a j q => by rw [gI_sI, if_neg (by omega)]
  refine ⟨?_, ?_, fun s hs => ⟨fun f hf => ?_, ?_, fun i hi => ?_, ?_⟩, fun i hi => ⟨?_, ?_⟩, fun j hj => ?_⟩
  · rw [e _ _ (by omega)]; exact h1
  · rw [e _ _ (by omega)]; exact h2
  · rw [e _ _ (by omega)]; exact (h3 s hs).1 f hf
  · rw [e _ _ (by omega)]; exact (h3 s hs).2.1
  · rw [e _ _ (by omega)]; exact (h3 s hs).2.2.1 i hi
  · exact (h3 s hs).2.2.2.same (fun i _ => e _ _ (by omega))
  · rw [e _ _ (by omega)]; exact (h4 i hi).1
  · rw [e _ _ (by omega)]; exact (h4 i hi).2
  · rw [gI_sI]
    show _ = (if j = k then bkR B k + 1 else bkR B j)
    by_cases q : j = k
    · rw [if_pos ⟨rfl, q⟩, if_pos q, h5 k hk]
    · rw [if_neg (by omega), if_neg q]; exact h5 j hj
theorem BM.inc {u : Mm} {m k : Nat} {B : Bk} (h : BM u m 16 10 27 28 B) (hk : k < 4) : BM (sI u (m + 10) k (gI u (m + 10) k + 1)) m 16 10 27 28 (incR B k) := by
  obtain ⟨h1, h2, h3, h4, h5⟩ := h
  have e : ∀ a j, a ≠ m + 10 → gI (sI u (m + 10) k (gI u (m + 10) k + 1)) a j = gI u a j := fun a j q => by rw [gI_sI, if_neg (by omega)]
  refine ⟨?_, ?_, fun s hs => ⟨fun f hf => ?_, ?_, fun i hi => ?_, ?_⟩, fun i hi => ⟨?_, ?_⟩, fun j hj => ?_⟩
  · rw [e _ _ (by omega)]; exact h1
  · rw [e _ _ (by omega)]; exact h2
  · rw [e _ _ (by omega)]; exact (h3 s hs).1 f hf
  · rw [e _ _ (by omega)]; exact (h3 s hs).2.1
  · rw [e _ _ (by omega)]; exact (h3 s hs).2.2.1 i hi
  · exact (h3 s hs).2.2.2.same (fun i _ => e _ _ (by omega))
  · rw [e _ _ (by omega)]; exact (h4 i hi).1
  · rw [e _ _ (by omega)]; exact (h4 i hi).2
  · rw [gI_sI]
    show _ = (if j = k then bkR B k + 1 else bkR B j)
    by_cases q : j = k
    · rw [if_pos ⟨rfl, q⟩, if_pos q, h5 k hk]
    · rw [if_neg (by omega), if_neg q]; exact h5 j hj
section BOOK
variable {G : Gx} {u : Mm}
theorem c_fault {Q : Int32 → Mm → Prop} {z : Nat} {o : Nat → Nat} {S : St} (hR : RC G u z o S) (h : Q (sF S) u) : V_X11_fault G z u Q := by
  obtain ⟨h0, _, _, _, _, _, _, hf⟩ := hR
  obtain ⟨t1, t2, _⟩ := h0.2.1
  unfold V_X11_fault
  rw [t1, hf]
  exact ⟨h0.k, by omega, t2, h⟩
theorem m_fault {Q : Int32 → Mm → Prop} {m : Nat} {S : St} (hR : RM G u m S) (h : Q (sF S) (sI u m 1 0)) : V_X12_fault G m u Q := by
  refine ⟨hR.1.1.2.1, fun w hw => ?_⟩
  subst hw
  rw [(hR.put (c := 0)).2.2.2.2.2.2]
  exact h
theorem c_clear {Q : Mm → Prop} {z : Nat} {o : Nat → Nat} {S : St} (hR : RC G u z o S) (hS : okS S) (h : ∀ u', RC G u' z o (setB S (clrB (sB S))) → Fx (fun a _ => a < z + 476) u u' → Q u') : V_X11_clear G z u Q := by
  obtain ⟨h0, _, _, hB, _⟩ := id hR
  unfold V_X11_clear
  rw [h0.bk.1]
  refine ⟨h0.k, by omega, h0.bk.2.2.1, h0.bk.2.2.1, fun w hw w2 hw2 => ?_⟩
  subst hw hw2
  have f : Fx (fun a _ => z + 172 ≤ a ∧ a < z + 238) u (sI (sI u (z + 172) 1 0) (z + 172) 4 0) := (Fx.put ⟨by omega, by omega⟩).trans (Fx.put ⟨by omega, by omega⟩)
  refine h _ (hR.toB hS f ⟨?_, ?_, fun s hs => absurd hs (Nat.not_lt_zero _), fun i hi => absurd hi (Nat.not_lt_zero _), fun k hk => ?_⟩) (f.mono (fun a j q => by omega))
  · rw [gI_sI, if_neg (by omega), gI_sI, if_pos ⟨rfl, rfl⟩]; rfl
  · rw [gI_sI, if_pos ⟨rfl, rfl⟩]; rfl
  · rw [gI_sI, if_neg (by omega), gI_sI, if_neg (by omega)]; exact hB.2.2.2.2 k hk
theorem m_clear {Q : Mm → Prop} {m : Nat} {S : St} (hR : RM G u m S) (h : ∀ u', RM G u' m (setB S (clrB (sB S))) → Fx (mbk m) u u' → Q u') : V_X12_clear G m u Q := by
  refine ⟨hR.1.1.2.1, fun w hw w2 hw2 w3 hw3 => ?_⟩
  subst hw hw2 hw3
  have f : Fx (mbk m) u (sI (sI (sI u m 1 0) m 27 0) m 28 0) := ((Fx.put (by unfold mbk msc; omega)).trans (Fx.put (by unfold mbk msc; omega))).trans (Fx.put (by unfold mbk msc; omega))
  refine h _ (hR.toB f ⟨?_, ?_, fun s hs => absurd hs (Nat.not_lt_zero _), fun i hi => absurd hi (Nat.not_lt_zero _), fun k hk => ?_⟩) f
  · rw [gI_sI, if_neg (by omega), gI_sI, if_pos ⟨rfl, rfl⟩]; rfl
  · rw [gI_sI, if_pos ⟨rfl, rfl⟩]; rfl
  · rw [gI_sI, if_neg (by omega), gI_sI, if_neg (by omega), gI_sI, if_neg (by omega)]; exact hR.2.2.1.2.2.2.2 k hk
/-! spot -/
def spO (B : Bk) (x y : Int32) : Prop := (btw 0 40 x ∧ btw 0 40 y) ∧ bkS B < 8
theorem addP_ok {B : Bk} {x y : Int32} (h : okB B) (ho : spO B x y) : okB (addP B x y) := by
  refine ⟨h.1, by have := ho.2; show bkS B + 1 ≤ 8; omega, h.2.2.1, fun i hi => ?_⟩
  show btw 0 40 (if i = bkS B then (if (0 : Nat) = 0 then x else y) else bkP B i 0) ∧ btw 0 40 (if i = bkS B then (if (1 : Nat) = 0 then x else y) else bkP B i 1)
  by_cases q : i = bkS B
  · rw [if_pos q, if_pos q]
    exact ho.1
  · rw [if_neg q, if_neg q]
    have hi' : i < bkS B + 1 := hi
    exact h.2.2.2 i (by omega)
theorem c_spot {Q : Int32 → Mm → Prop} {z : Nat} {o : Nat → Nat} {S : St} {x y : Int32} (hR : RC G u z o S) (hS : okS S) (h1 : spO (sB S) x y → ∀ u', RC G u' z o (setB S (addP (sB S) x y)) → Fx (fun a _ => a < z + 476) u u' → Q (nI (bkS (sB S))) u') (h0 : ¬ spO (sB S) x y → ∀ u', RC G u' z o (setB S (incR (sB S) 3)) → Fx (fun a _ => a < z + 476) u u' → Q (-1) u') : V_X11_spot G z x y u Q := by
  obtain ⟨hh, _, _, hB, _⟩ := id hR
  have hk := hS.2.1
  have s8 := hk.2.1
  obtain ⟨c1, b0, b1, ⟨p1, p2, p3⟩, ⟨q1, q2, q3⟩, ⟨r1, r2, r3⟩, _⟩ := hh.bk
  have no : ¬ spO (sB S) x y → V_X11_spot_20 G Q z u := by
    intro g
    unfold V_X11_spot_20
    rw [c1, r3, r1, r2]
    refine ⟨hh.k, by omega, b1, by omega, rfl, vp_in_nI (n := 3) (by omega) (by omega), fun w hw => ?_⟩
    subst hw
    have f : Fx (fun a _ => z + 172 ≤ a ∧ a < z + 238) u (sI u (z + 172 + 3) (3 : Int32).toNatClampNeg (gI u (z + 172 + 3) (3 : Int32).toNatClampNeg + 1)) := Fx.put ⟨by omega, by omega⟩
    exact h0 g _ (hR.toB hS f (hB.inc hk (k := 3) (by omega))) (f.mono (fun a j q => by omega))
  refine c_isPlace (fun hx hy => ⟨fun c => absurd c (by decide), fun _ => ?_⟩) (fun g => ⟨fun _ => no (fun q => g q.1), fun c => absurd rfl c⟩)
  rw [c1, hB.2.1, p3, p1, p2]
  refine ⟨hh.k, by omega, b1, fun c => ?_, fun c => no (fun q => c (nI_lt (b := 8) q.2 (by omega)))⟩
  have lt8 : bkS (sB S) < 8 := (nI_ltI (b := 8) (by omega) (by omega)).mp c
  intro n hn
  subst hn
  rw [nI_clamp (by omega)]
  refine ⟨by omega, rfl, vp_in_nI (by omega) (by omega), fun w hw => ?_⟩
  subst hw
  rw [gR_sI, c1, gR_sI, q3, q1, q2]
  refine ⟨by omega, b1, by omega, rfl, vp_in_nI (by omega) (by omega), fun w hw => ?_⟩
  subst hw
  rw [gR_sI, gR_sI, c1]
  refine ⟨by omega, b1, fun w hw => ?_⟩
  subst hw
  have e4 : gI (sI (sI u (z + 172 + 1) (bkS (sB S)) x) (z + 172 + 2) (bkS (sB S)) y) (z + 172) 4 = nI (bkS (sB S)) := by
    rw [gI_sI, if_neg (by omega), gI_sI, if_neg (by omega)]; exact hB.2.1
  rw [e4, nI_1]
  have f : Fx (fun a j => a = z + 172 + 1 ∧ j = bkS (sB S) ∨ a = z + 172 + 2 ∧ j = bkS (sB S) ∨ a = z + 172 ∧ j = 4) u (sI (sI (sI u (z + 172 + 1) (bkS (sB S)) x) (z + 172 + 2) (bkS (sB S)) y) (z + 172) 4 (nI (bkS (sB S) + 1))) := ((Fx.put (by omega)).trans (Fx.put (by omega))).trans (Fx.put (by omega))
  obtain ⟨g1, g2, g3, g4, g5⟩ := hB
  have n20 := hk.1
  refine h1 ⟨⟨hx, hy⟩, lt8⟩ _ (hR.toB hS (f.mono (fun a j q => by omega)) ⟨?_, ?_, fun s hs => ⟨fun k hk => ?_, ?_, fun i hi => ?_, ?_⟩, fun i hi => ?_, fun k hk => ?_⟩) (f.mono (fun a j q => by omega))
  · rw [f.2 _ _ (by omega)]; exact g1
  · rw [gI_sI, if_pos ⟨rfl, rfl⟩]; rfl
  · have hs' : s < bkN (sB S) := hs
    rw [f.2 _ _ (by omega)]; exact (g3 s hs').1 k hk
  · have hs' : s < bkN (sB S) := hs
    rw [f.2 _ _ (by omega)]; exact (g3 s hs').2.1
  · have hs' : s < bkN (sB S) := hs
    rw [f.2 _ _ (by omega)]; exact (g3 s hs').2.2.1 i hi
  · have hs' : s < bkN (sB S) := hs
    exact (g3 s hs').2.2.2.same (fun i _ => f.2 _ _ (by omega))
  · have hi' : i < bkS (sB S) + 1 := hi
    show gI _ (z + 172 + 1) i = (if i = bkS (sB S) then (if (0 : Nat) = 0 then x else y) else bkP (sB S) i 0) ∧ gI _ (z + 172 + 2) i = (if i = bkS (sB S) then (if (1 : Nat) = 0 then x else y) else bkP (sB S) i 1)
    by_cases q : i = bkS (sB S)
    · rw [if_pos q, if_pos q]
      refine ⟨?_, ?_⟩
      · rw [gI_sI, if_neg (by omega), gI_sI, if_neg (by omega), gI_sI, if_pos ⟨rfl, q⟩]; rfl
      · rw [gI_sI, if_neg (by omega), gI_sI, if_pos ⟨rfl, q⟩]; rfl
    · rw [if_neg q, if_neg q, f.2 _ _ (by omega), f.2 _ _ (by omega)]
      exact g4 i (by omega)
  · rw [f.2 _ _ (by omega)]; exact g5 k hk
theorem m_spot {Q : Int32 → Mm → Prop} {m : Nat} {S : St} {x y : Int32} (hR : RM G u m S) (hS : okS S) (h1 : spO (sB S) x y → ∀ u', RM G u' m (setB S (addP (sB S) x y)) → Fx (mbk m) u u' → Q (nI (bkS (sB S))) u') (h0 : ¬ spO (sB S) x y → ∀ u', RM G u' m (setB S (incR (sB S) 3)) → Fx (mbk m) u u' → Q (-1) u') : V_X12_spot G m x y u Q := by
  have mk : kd G m = 12 := hR.1.1.2.1
  have m0 : 0 < m := hR.1.1.1
  have hk := hS.2.1
  have s8 := hk.2.1
  refine ⟨mk, fun w hw => ?_⟩
  subst hw
  have hR0 := hR.put (c := 0)
  obtain ⟨hH, _, hB, _⟩ := id hR0
  have F0 : Fx (mbk m) u (sI u m 1 0) := Fx.put (by unfold mbk msc; omega)
  obtain ⟨_, _, ⟨⟨r1, r2, r3⟩, _, _, _, _, _, _, _, _, ⟨p1, p2, p3⟩, ⟨q1, q2, q3⟩⟩, _⟩ := id hH
  have no : ¬ spO (sB S) x y → V_X12_spot_22 G Q m (sI u m 1 0) := by
    intro g
    unfold V_X12_spot_22
    rw [r3, r1, r2]
    refine ⟨mk, by omega, rfl, vp_in_nI (n := 3) (by omega) (by omega), fun w hw => ?_⟩
    subst hw
    have f : Fx (mbk m) (sI u m 1 0) (sI (sI u m 1 0) (m + 10) (3 : Int32).toNatClampNeg (gI (sI u m 1 0) (m + 10) (3 : Int32).toNatClampNeg + 1)) := Fx.put (by unfold mbk; omega)
    exact h0 g _ (hR0.toB f (hB.inc (k := 3) (by omega))) (F0.trans f)
  rw [hB.2.1]
  refine ⟨fun c => no (fun q => ?_), fun c => m_isPlace (fun hx hy => ⟨fun c => absurd c (by decide), fun _ => ?_⟩) (fun g => ⟨fun _ => no (fun q => g q.1), fun c => absurd rfl c⟩)⟩
  · have := nI_inj (b := 8) (by omega) (by omega) c
    have := q.2
    omega
  have lt8 : bkS (sB S) < 8 := by
    rcases Nat.lt_or_ge (bkS (sB S)) 8 with q | q
    · exact q
    · exact absurd (show nI (bkS (sB S)) = 8 by rw [show bkS (sB S) = 8 by omega]; rfl) c
  rw [hB.2.1, p3, p1, p2, nI_clamp (by omega)]
  refine ⟨by omega, rfl, vp_in_nI (by omega) (by omega), fun w hw => ?_⟩
  subst hw
  have e1 : gI (sI (sI u m 1 0) (m + 23) (bkS (sB S)) x) m 28 = nI (bkS (sB S)) := by
    rw [gI_sI, if_neg (by omega)]; exact hB.2.1
  rw [gR_sI, q3, q1, q2, e1, nI_clamp (by omega)]
  refine ⟨by omega, rfl, vp_in_nI (by omega) (by omega), fun w hw w2 hw2 => ?_⟩
  subst hw
  have e2 : gI (sI (sI (sI u m 1 0) (m + 23) (bkS (sB S)) x) (m + 24) (bkS (sB S)) y) m 28 = nI (bkS (sB S)) := by
    rw [gI_sI, if_neg (by omega)]; exact e1
  rw [e2, nI_1] at hw2
  subst hw2
  have f : Fx (fun a j => a = m + 23 ∧ j = bkS (sB S) ∨ a = m + 24 ∧ j = bkS (sB S) ∨ a = m ∧ j = 28) (sI u m 1 0) (sI (sI (sI (sI u m 1 0) (m + 23) (bkS (sB S)) x) (m + 24) (bkS (sB S)) y) m 28 (nI (bkS (sB S) + 1))) := ((Fx.put (by omega)).trans (Fx.put (by omega))).trans (Fx.put (by omega))
  have e3 : gI (sI (sI (sI (sI u m 1 0) (m + 23) (bkS (sB S)) x) (m + 24) (bkS (sB S)) y) m 28 (nI (bkS (sB S) + 1))) m 28 = nI (bkS (sB S) + 1) := by rw [gI_sI, if_pos ⟨rfl, rfl⟩]
  rw [e3, nI_pred]
  obtain ⟨g1, g2, g3, g4, g5⟩ := hB
  have fM : Fx (mbk m) (sI u m 1 0) (sI (sI (sI (sI u m 1 0) (m + 23) (bkS (sB S)) x) (m + 24) (bkS (sB S)) y) m 28 (nI (bkS (sB S) + 1))) := f.mono (fun a j q => by unfold mbk; omega)
  refine h1 ⟨⟨hx, hy⟩, lt8⟩ _ (hR0.toB fM ⟨?_, e3, fun s hs => ⟨fun k hk => ?_, ?_, fun i hi => ?_, ?_⟩, fun i hi => ?_, fun k hk => ?_⟩) (F0.trans fM)
  · rw [f.2 _ _ (by omega)]; exact g1
  · rw [f.2 _ _ (by omega)]; exact (g3 s hs).1 k hk
  · rw [f.2 _ _ (by omega)]; exact (g3 s hs).2.1
  · rw [f.2 _ _ (by omega)]; exact (g3 s hs).2.2.1 i hi
  · exact (g3 s hs).2.2.2.same (fun i _ => f.2 _ _ (by omega))
  · have hi' : i < bkS (sB S) + 1 := hi
    show gI _ (m + 16 + 7) i = (if i = bkS (sB S) then (if (0 : Nat) = 0 then x else y) else bkP (sB S) i 0) ∧ gI _ (m + 16 + 8) i = (if i = bkS (sB S) then (if (1 : Nat) = 0 then x else y) else bkP (sB S) i 1)
    by_cases q : i = bkS (sB S)
    · rw [if_pos q, if_pos q]
      refine ⟨?_, ?_⟩
      · rw [gI_sI, if_neg (by omega), gI_sI, if_neg (by omega), gI_sI, if_pos ⟨rfl, q⟩]; rfl
      · rw [gI_sI, if_neg (by omega), gI_sI, if_pos ⟨rfl, q⟩]; rfl
    · rw [if_neg q, if_neg q, f.2 _ _ (by omega), f.2 _ _ (by omega)]
      exact g4 i (by omega)
  · rw [f.2 _ _ (by omega)]; exact g5 k hk
/-! station -/
def snO (B : Bk) (x y yr tn : Int32) : Prop := ((btw 0 40 x ∧ btw 0 40 y) ∨ (x = -1 ∧ y = -1)) ∧ btw 0 99 yr ∧ inN 3 tn ∧ bkN B < 20
theorem addS_ok {B : Bk} {x y yr tn : Int32} (h : okB B) (ho : snO B x y yr tn) : okB (addS B x y yr tn) := by
  refine ⟨by have := ho.2.2.2; show bkN B + 1 ≤ 20; omega, h.2.1, fun s hs => ?_, h.2.2.2⟩
  have hs' : s < bkN B + 1 := hs
  by_cases q : s = bkN B
  · have e : ∀ f, bkF (addS B x y yr tn) s f = (if f = 0 then x else if f = 1 then y else if f = 2 then yr else tn) := fun f => if_pos q
    have e2 : bkT (addS B x y yr tn) s = [] := if_pos q
    rw [e, e, e, e, e2]
    obtain ⟨t, ht, et⟩ := ho.2.2.1
    exact ⟨ho.1, ho.2.1, ⟨t, ht, et⟩, Nat.zero_le _⟩
  · have e : ∀ f, bkF (addS B x y yr tn) s f = bkF B s f := fun f => if_neg q
    have e2 : bkT (addS B x y yr tn) s = bkT B s := if_neg q
    rw [e, e, e, e, e2]
    exact h.2.2.1 s (by omega)
theorem c_station {Q : Int32 → Mm → Prop} {z : Nat} {o : Nat → Nat} {S : St} {x y yr tn : Int32} (hR : RC G u z o S) (hS : okS S) (h1 : snO (sB S) x y yr tn → ∀ u', RC G u' z o (setB S (addS (sB S) x y yr tn)) → Fx (fun a _ => a < z + 476) u u' → Q (nI (bkN (sB S))) u') (h0 : ¬ snO (sB S) x y yr tn → ∀ u', RC G u' z o (setB S (incR (sB S) 1)) → Fx (fun a _ => a < z + 476) u u' → Q (-1) u') : V_X11_station G z x y yr tn u Q := by
  obtain ⟨hh, _, _, hB, _⟩ := id hR
  have hk := hS.2.1
  have n20 := hk.1
  obtain ⟨c1, b0, b1, _, _, ⟨r1, r2, r3⟩, ⟨b5, b6, b7⟩, _, b11⟩ := hh.bk
  have no : ¬ snO (sB S) x y yr tn → V_X11_station_57 G Q z u := by
    intro g
    unfold V_X11_station_57
    rw [c1, r3, r1, r2]
    refine ⟨hh.k, by omega, b1, by omega, rfl, vp_in_nI (n := 1) (by omega) (by omega), fun w hw => ?_⟩
    subst hw
    have f : Fx (fun a _ => z + 172 ≤ a ∧ a < z + 238) u (sI u (z + 172 + 3) (1 : Int32).toNatClampNeg (gI u (z + 172 + 3) (1 : Int32).toNatClampNeg + 1)) := Fx.put ⟨by omega, by omega⟩
    exact h0 g _ (hR.toB hS f (hB.inc hk (k := 1) (by omega))) (f.mono (fun a j q => by omega))
  have yes : ((btw 0 40 x ∧ btw 0 40 y) ∨ (x = -1 ∧ y = -1)) → V_X11_station_23 G Q z x y yr tn (1 : Int32) u := by
    intro hp
    unfold V_X11_station_23
    refine ⟨fun c => absurd c (by decide), fun _ => c_isYear (fun hyr => ⟨fun c => absurd c (by decide), fun _ => c_isTone (fun t ht et => ⟨fun c => absurd c (by decide), fun _ => ?_⟩) (fun g => ⟨fun _ => no (fun q => g q.2.2.1), fun c => absurd rfl c⟩)⟩) (fun g => ⟨fun _ => no (fun q => g q.2.1), fun c => absurd rfl c⟩)⟩
    rw [c1, hB.1, b7]
    refine ⟨hh.k, by omega, b1, fun c => ?_, fun c => no (fun q => c (nI_lt (b := 20) q.2.2.2 (by omega)))⟩
    have lt20 : bkN (sB S) < 20 := (nI_ltI (b := 20) (by omega) (by omega)).mp c
    intro n hn
    subst hn
    obtain ⟨b12, t0, tk, _⟩ := b11 (bkN (sB S)) lt20
    rw [nI_clamp (by omega), b12]
    refine ⟨by omega, b5, by rw [b6]; exact vp_in_nI lt20 (by omega), by omega, tk, tk, fun v1 e1 v2 e2 v3 e3 v4 e4 v5 e5 => ?_⟩
    subst e1 e2 e3 e4 e5
    rw [gR_sI, gR_sI, gR_sI, gR_sI, gR_sI, c1]
    refine ⟨by omega, b1, fun w hw => ?_⟩
    have en : gI (sI (sI (sI (sI (sI u (z + 172 + 6 + 3 * bkN (sB S)) 0 x) (z + 172 + 6 + 3 * bkN (sB S)) 1 y) (z + 172 + 6 + 3 * bkN (sB S)) 2 yr) (z + 172 + 6 + 3 * bkN (sB S)) 3 tn) (z + 172 + 6 + 3 * bkN (sB S)) 4 0) (z + 172) 1 = nI (bkN (sB S)) := by
      rw [gI_sI, if_neg (by omega), gI_sI, if_neg (by omega), gI_sI, if_neg (by omega), gI_sI, if_neg (by omega), gI_sI, if_neg (by omega)]
      exact hB.1
    rw [en, nI_1] at hw
    have f : Fx (fun a j => a = z + 172 + 6 + 3 * bkN (sB S) ∨ a = z + 172 ∧ j = 1) u w := by
      rw [hw]
      exact (((((Fx.put (by omega)).trans (Fx.put (by omega))).trans (Fx.put (by omega))).trans (Fx.put (by omega))).trans (Fx.put (by omega))).trans (Fx.put (by omega))
    have w0 : gI w (z + 172 + 6 + 3 * bkN (sB S)) 0 = x := by
      rw [hw, gI_sI, if_neg (by omega), gI_sI, if_neg (by omega), gI_sI, if_neg (by omega), gI_sI, if_neg (by omega), gI_sI, if_neg (by omega), gI_sI, if_pos ⟨rfl, rfl⟩]
    have w1 : gI w (z + 172 + 6 + 3 * bkN (sB S)) 1 = y := by
      rw [hw, gI_sI, if_neg (by omega), gI_sI, if_neg (by omega), gI_sI, if_neg (by omega), gI_sI, if_neg (by omega), gI_sI, if_pos ⟨rfl, rfl⟩]
    have w2 : gI w (z + 172 + 6 + 3 * bkN (sB S)) 2 = yr := by
      rw [hw, gI_sI, if_neg (by omega), gI_sI, if_neg (by omega), gI_sI, if_neg (by omega), gI_sI, if_pos ⟨rfl, rfl⟩]
    have w3 : gI w (z + 172 + 6 + 3 * bkN (sB S)) 3 = tn := by
      rw [hw, gI_sI, if_neg (by omega), gI_sI, if_neg (by omega), gI_sI, if_pos ⟨rfl, rfl⟩]
    have w4 : gI w (z + 172 + 6 + 3 * bkN (sB S)) 4 = 0 := by
      rw [hw, gI_sI, if_neg (by omega), gI_sI, if_pos ⟨rfl, rfl⟩]
    have w5 : gI w (z + 172) 1 = nI (bkN (sB S) + 1) := by
      rw [hw, gI_sI, if_pos ⟨rfl, rfl⟩]
    clear hw en
    obtain ⟨g1, g2, g3, g4, g5⟩ := hB
    refine h1 ⟨hp, hyr, ⟨t, ht, et⟩, lt20⟩ _ (hR.toB hS (f.mono (fun a j q => by omega)) ⟨w5, ?_, fun s hs => ?_, fun i hi => ⟨?_, ?_⟩, fun k hk => ?_⟩) (f.mono (fun a j q => by omega))
    · rw [f.2 _ _ (by omega)]; exact g2
    · have hs' : s < bkN (sB S) + 1 := hs
      by_cases q : s = bkN (sB S)
      · have e : ∀ f, bkF (addS (sB S) x y yr tn) s f = (if f = 0 then x else if f = 1 then y else if f = 2 then yr else tn) := fun f => if_pos q
        have e2 : bkT (addS (sB S) x y yr tn) s = [] := if_pos q
        rw [e2]
        refine ⟨fun k hk => ?_, by rw [q]; exact w4, fun i hi => absurd hi (Nat.not_lt_zero _), fun i hi => absurd hi (Nat.not_lt_zero _)⟩
        rw [e, q]
        have : k = 0 ∨ k = 1 ∨ k = 2 ∨ k = 3 := by omega
        rcases this with rfl | rfl | rfl | rfl
        · exact w0
        · exact w1
        · exact w2
        · exact w3
      · have e : ∀ f, bkF (addS (sB S) x y yr tn) s f = bkF (sB S) s f := fun f => if_neg q
        have e2 : bkT (addS (sB S) x y yr tn) s = bkT (sB S) s := if_neg q
        rw [e2]
        refine ⟨fun k hk => ?_, ?_, fun i hi => ?_, ?_⟩
        · rw [e, f.2 _ _ (by omega)]; exact (g3 s (by omega)).1 k hk
        · rw [f.2 _ _ (by omega)]; exact (g3 s (by omega)).2.1
        · rw [f.2 _ _ (by omega)]; exact (g3 s (by omega)).2.2.1 i hi
        · exact (g3 s (by omega)).2.2.2.same (fun i _ => f.2 _ _ (by omega))
    · rw [f.2 _ _ (by omega)]; exact (g4 i hi).1
    · rw [f.2 _ _ (by omega)]; exact (g4 i hi).2
    · rw [f.2 _ _ (by omega)]; exact g5 k hk
  have bad : ¬ ((btw 0 40 x ∧ btw 0 40 y) ∨ (x = -1 ∧ y = -1)) → V_X11_station_22 G Q z x y yr tn u := fun g => ⟨fun _ => no (fun q => g q.1), fun c => absurd rfl c⟩
  refine c_isPlace (fun hx hy => ⟨fun c => absurd c (by decide), fun _ => yes (Or.inl ⟨hx, hy⟩)⟩) (fun g => ⟨fun _ => ⟨fun e1 => ⟨fun e2 => yes (Or.inr ⟨e1, e2⟩), fun e2 => bad (fun q => ?_)⟩, fun e1 => bad (fun q => ?_)⟩, fun c => absurd rfl c⟩)
  · rcases q with q | q
    · exact g q
    · exact e2 q.2
  · rcases q with q | q
    · exact g q
    · exact e1 q.1
theorem m_station {Q : Int32 → Mm → Prop} {m : Nat} {S : St} {x y yr tn : Int32} (hR : RM G u m S) (hS : okS S) (h1 : snO (sB S) x y yr tn → ∀ u', RM G u' m (setB S (addS (sB S) x y yr tn)) → Fx (mbk m) u u' → Q (nI (bkN (sB S))) u') (h0 : ¬ snO (sB S) x y yr tn → ∀ u', RM G u' m (setB S (incR (sB S) 1)) → Fx (mbk m) u u' → Q (-1) u') : V_X12_station G m x y yr tn u Q := by
  have mk : kd G m = 12 := hR.1.1.2.1
  have m0 : 0 < m := hR.1.1.1
  have hk := hS.2.1
  have n20 := hk.1
  refine ⟨mk, fun w hw => ?_⟩
  subst hw
  have hR0 := hR.put (c := 0)
  obtain ⟨hH, _, hB, _⟩ := id hR0
  have F0 : Fx (mbk m) u (sI u m 1 0) := Fx.put (by unfold mbk msc; omega)
  obtain ⟨_, _, ⟨⟨r1, r2, r3⟩, _, ⟨a1, a2, a3⟩, ⟨b1, b2, b3⟩, ⟨c1, c2, c3⟩, ⟨d1, d2, d3⟩, ⟨e1, e2, e3⟩, _⟩, _⟩ := id hH
  have no : ¬ snO (sB S) x y yr tn → V_X12_station_59 G Q m (sI u m 1 0) := by
    intro g
    unfold V_X12_station_59
    rw [r3, r1, r2]
    refine ⟨mk, by omega, rfl, vp_in_nI (n := 1) (by omega) (by omega), fun w hw => ?_⟩
    subst hw
    have f : Fx (mbk m) (sI u m 1 0) (sI (sI u m 1 0) (m + 10) (1 : Int32).toNatClampNeg (gI (sI u m 1 0) (m + 10) (1 : Int32).toNatClampNeg + 1)) := Fx.put (by unfold mbk; omega)
    exact h0 g _ (hR0.toB f (hB.inc (k := 1) (by omega))) (F0.trans f)
  have bad : ∀ (g : ¬ snO (sB S) x y yr tn), V_X12_station_43 G Q m x y yr tn (0 : Int32) (sI u m 1 0) := fun g => ⟨mk, fun _ => no g, fun _ => ⟨fun _ => no g, fun c => absurd rfl c⟩⟩
  have yes : ((btw 0 40 x ∧ btw 0 40 y) ∨ (x = -1 ∧ y = -1)) → V_X12_station_23 G Q m x y yr tn (sI u m 1 0) := by
    intro hp
    unfold V_X12_station_23
    refine m_isYear (fun hyr => ⟨fun c => absurd c (by decide), fun _ => m_isTone (fun t ht et => ⟨fun c => absurd c (by decide), fun _ => ?_⟩) (fun g => ⟨fun _ => bad (fun q => g q.2.2.1), fun c => absurd rfl c⟩)⟩) (fun g => ⟨fun _ => bad (fun q => g q.2.1), fun c => absurd rfl c⟩)
    unfold V_X12_station_43
    rw [hB.1]
    refine ⟨mk, fun c => no (fun q => ?_), fun c => ⟨fun c => absurd c (by decide), fun _ => ?_⟩⟩
    · have := nI_inj (b := 20) (by omega) (by omega) c
      have := q.2.2.2
      omega
    have lt20 : bkN (sB S) < 20 := by
      rcases Nat.lt_or_ge (bkN (sB S)) 20 with q | q
      · exact q
      · exact absurd (show nI (bkN (sB S)) = 20 by rw [show bkN (sB S) = 20 by omega]; rfl) c
    have hv : vp_in (nI (bkN (sB S))) 20 := vp_in_nI lt20 (by omega)
    have el : (nI (bkN (sB S))).toNatClampNeg = bkN (sB S) := nI_clamp (by omega)
    have s1 : ∀ (v : Mm) (a : Nat) (w : Int32), a ≠ m → gI v m 27 = nI (bkN (sB S)) → gI (sI v a (bkN (sB S)) w) m 27 = nI (bkN (sB S)) := fun v a w q e => by rw [gI_sI, if_neg (by omega)]; exact e
    rw [a3, a1, a2, el]
    refine ⟨by omega, rfl, hv, fun v1 h1' => ?_⟩
    have n1 : gI v1 m 27 = nI (bkN (sB S)) := by rw [h1']; exact s1 _ _ _ (by omega) hB.1
    have k1 : ∀ j, gR v1 m j = gR (sI u m 1 0) m j := fun j => by rw [h1']; rfl
    rw [n1, el, k1, b3, b1, b2]
    refine ⟨by omega, rfl, hv, fun v2 h2' => ?_⟩
    have n2 : gI v2 m 27 = nI (bkN (sB S)) := by rw [h2']; exact s1 _ _ _ (by omega) n1
    have k2 : ∀ j, gR v2 m j = gR (sI u m 1 0) m j := fun j => by rw [h2']; exact k1 j
    rw [n2, el, k2, c3, c1, c2]
    refine ⟨by omega, rfl, hv, fun v3 h3' => ?_⟩
    have n3 : gI v3 m 27 = nI (bkN (sB S)) := by rw [h3']; exact s1 _ _ _ (by omega) n2
    have k3 : ∀ j, gR v3 m j = gR (sI u m 1 0) m j := fun j => by rw [h3']; exact k2 j
    rw [n3, el, k3, d3, d1, d2]
    refine ⟨by omega, rfl, hv, fun v4 h4' => ?_⟩
    have n4 : gI v4 m 27 = nI (bkN (sB S)) := by rw [h4']; exact s1 _ _ _ (by omega) n3
    have k4 : ∀ j, gR v4 m j = gR (sI u m 1 0) m j := fun j => by rw [h4']; exact k3 j
    rw [n4, el, k4, e3, e1, e2]
    refine ⟨by omega, rfl, hv, fun v5 h5' w hw => ?_⟩
    have n5 : gI v5 m 27 = nI (bkN (sB S)) := by rw [h5']; exact s1 _ _ _ (by omega) n4
    rw [n5, nI_1] at hw
    have w6 : gI w m 27 = nI (bkN (sB S) + 1) := by rw [hw, gI_sI, if_pos ⟨rfl, rfl⟩]
    rw [w6, nI_pred]
    have f : Fx (fun a j => (m + 16 ≤ a ∧ a ≤ m + 20 ∧ j = bkN (sB S)) ∨ a = m ∧ j = 27) (sI u m 1 0) w := by
      rw [hw, h5', h4', h3', h2', h1']
      exact (((((Fx.put (by omega)).trans (Fx.put (by omega))).trans (Fx.put (by omega))).trans (Fx.put (by omega))).trans (Fx.put (by omega))).trans (Fx.put (by omega))
    have w0 : gI w (m + 16) (bkN (sB S)) = x := by
      rw [hw, gI_sI, if_neg (by omega), h5', gI_sI, if_neg (by omega), h4', gI_sI, if_neg (by omega), h3', gI_sI, if_neg (by omega), h2', gI_sI, if_neg (by omega), h1', gI_sI, if_pos ⟨rfl, rfl⟩]
    have w1 : gI w (m + 17) (bkN (sB S)) = y := by
      rw [hw, gI_sI, if_neg (by omega), h5', gI_sI, if_neg (by omega), h4', gI_sI, if_neg (by omega), h3', gI_sI, if_neg (by omega), h2', gI_sI, if_pos ⟨rfl, rfl⟩]
    have w2 : gI w (m + 18) (bkN (sB S)) = yr := by
      rw [hw, gI_sI, if_neg (by omega), h5', gI_sI, if_neg (by omega), h4', gI_sI, if_neg (by omega), h3', gI_sI, if_pos ⟨rfl, rfl⟩]
    have w3 : gI w (m + 19) (bkN (sB S)) = tn := by
      rw [hw, gI_sI, if_neg (by omega), h5', gI_sI, if_neg (by omega), h4', gI_sI, if_pos ⟨rfl, rfl⟩]
    have w4 : gI w (m + 20) (bkN (sB S)) = 0 := by
      rw [hw, gI_sI, if_neg (by omega), h5', gI_sI, if_pos ⟨rfl, rfl⟩]
    clear hw h5' h4' h3' h2' h1'
    obtain ⟨g1, g2, g3, g4, g5⟩ := hB
    have fM : Fx (mbk m) (sI u m 1 0) w := f.mono (fun a j q => by unfold mbk; omega)
    refine h1 ⟨hp, hyr, ⟨t, ht, et⟩, lt20⟩ _ (hR0.toB fM ⟨w6, ?_, fun s hs => ?_, fun i hi => ⟨?_, ?_⟩, fun k hk => ?_⟩) (F0.trans fM)
    · rw [f.2 _ _ (by omega)]; exact g2
    · have hs' : s < bkN (sB S) + 1 := hs
      by_cases q : s = bkN (sB S)
      · have e : ∀ f, bkF (addS (sB S) x y yr tn) s f = (if f = 0 then x else if f = 1 then y else if f = 2 then yr else tn) := fun f => if_pos q
        have e2 : bkT (addS (sB S) x y yr tn) s = [] := if_pos q
        rw [e2]
        refine ⟨fun k hk => ?_, by rw [q]; exact w4, fun i hi => absurd hi (Nat.not_lt_zero _), fun i hi => absurd hi (Nat.not_lt_zero _)⟩
        rw [e, q]
        have : k = 0 ∨ k = 1 ∨ k = 2 ∨ k = 3 := by omega
        rcases this with rfl | rfl | rfl | rfl
        · exact w0
        · exact w1
        · exact w2
        · exact w3
      · have e : ∀ f, bkF (addS (sB S) x y yr tn) s f = bkF (sB S) s f := fun f => if_neg q
        have e2 : bkT (addS (sB S) x y yr tn) s = bkT (sB S) s := if_neg q
        rw [e2]
        refine ⟨fun k hk => ?_, ?_, fun i hi => ?_, ?_⟩
        · rw [e, f.2 _ _ (by omega)]; exact (g3 s (by omega)).1 k hk
        · rw [f.2 _ _ (by omega)]; exact (g3 s (by omega)).2.1
        · rw [f.2 _ _ (by omega)]; exact (g3 s (by omega)).2.2.1 i hi
        · exact (g3 s (by omega)).2.2.2.same (fun i _ => f.2 _ _ (by omega))
    · rw [f.2 _ _ (by omega)]; exact (g4 i hi).1
    · rw [f.2 _ _ (by omega)]; exact (g4 i hi).2
    · rw [f.2 _ _ (by omega)]; exact g5 k hk
  refine m_isPlace (fun hx hy => ⟨fun c => absurd c (by decide), fun _ => yes (Or.inl ⟨hx, hy⟩)⟩) (fun g => ⟨fun _ => ⟨fun e1 => ⟨fun e2 => yes (Or.inr ⟨e1, e2⟩), fun e2 => bad (fun q => ?_)⟩, fun e1 => bad (fun q => ?_)⟩, fun c => absurd rfl c⟩)
  · rcases q.1 with q | q
    · exact g q
    · exact e2 q.2
  · rcases q.1 with q | q
    · exact g q
    · exact e1 q.1
end BOOK
