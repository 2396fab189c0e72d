/-! THE STATE that both sides hold -/
/-- a book: how many stations, their fields (x, y, year, tone), their ticks as written, how many spots, where they are, what was refused -/
abbrev Bk : Type := Nat × (Nat → Nat → Int32) × (Nat → List Int32) × Nat × (Nat → Nat → Int32) × (Nat → Int32)
def bkN (B : Bk) : Nat := B.1
def bkF (B : Bk) : Nat → Nat → Int32 := B.2.1
def bkT (B : Bk) : Nat → List Int32 := B.2.2.1
def bkS (B : Bk) : Nat := B.2.2.2.1
def bkP (B : Bk) : Nat → Nat → Int32 := B.2.2.2.2.1
def bkR (B : Bk) : Nat → Int32 := B.2.2.2.2.2
def okB (B : Bk) : Prop := bkN B ≤ 20 ∧ bkS B ≤ 8
  ∧ (∀ s, s < bkN B → ((btw 0 40 (bkF B s 0) ∧ btw 0 40 (bkF B s 1)) ∨ (bkF B s 0 = -1 ∧ bkF B s 1 = -1)) ∧ btw 0 99 (bkF B s 2) ∧ (∃ t, t < 3 ∧ bkF B s 3 = nI t) ∧ (bkT B s).length ≤ 12)
  ∧ (∀ i, i < bkS B → btw 0 40 (bkP B i 0) ∧ btw 0 40 (bkP B i 1))
/-- the whole state: lands, book, image, how many bytes are on the tape, the bytes, where the fault was -/
abbrev St : Type := (Nat → Ld) × Bk × Option Bk × Nat × (Nat → Int32) × Int32
def sD (S : St) : Nat → Ld := S.1
def sB (S : St) : Bk := S.2.1
def sX (S : St) : Option Bk := S.2.2.1
def sN (S : St) : Nat := S.2.2.2.1
def sY (S : St) : Nat → Int32 := S.2.2.2.2.1
def sF (S : St) : Int32 := S.2.2.2.2.2
def okS (S : St) : Prop := (∀ l, l < 6 → okD (sD S l)) ∧ okB (sB S) ∧ (∀ B, sX S = some B → okB B) ∧ sN S ≤ 700 ∧ ∀ i, i < sN S → btw 0 255 (sY S i)
/-! a book of the class -/
def TR (G : Gx) (u : Mm) (t : Nat) : Prop := 0 < t ∧ kd G t = 7 ∧ AR G u t 5 1 12 ∧ AR G u t 6 2 12
def BR (G : Gx) (u : Mm) (b : Nat) : Prop := 0 < b ∧ kd G b = 1 ∧ AR G u b 2 1 8 ∧ AR G u b 3 2 8 ∧ AR G u b 5 3 4 ∧ (kd G (b + 4) = 21 ∧ ln G (b + 4) = 20 ∧ gR u b 0 = b + 4) ∧ (kd G (b + 5) = 21 ∧ ln G (b + 5) = 20 ∧ gR u b 6 = b + 5)
  ∧ ∀ s, s < 20 → gR u (b + 4) s = b + 6 + 3 * s ∧ TR G u (b + 6 + 3 * s)
def BC (u : Mm) (b : Nat) (B : Bk) : Prop := gI u b 1 = nI (bkN B) ∧ gI u b 4 = nI (bkS B)
  ∧ (∀ s, s < bkN B → (∀ f, f < 4 → gI u (b + 6 + 3 * s) f = bkF B s f) ∧ gI u (b + 6 + 3 * s) 4 = nI (bkT B s).length ∧ (∀ i, i < (bkT B s).length → gI u (b + 7 + 3 * s) i = (bkT B s).getD i 0) ∧ Rw u (b + 8 + 3 * s) 0 (bkT B s))
  ∧ (∀ i, i < bkS B → gI u (b + 1) i = bkP B i 0 ∧ gI u (b + 2) i = bkP B i 1)
  ∧ ∀ k, k < 4 → gI u (b + 3) k = bkR B k
theorem AR.keep {G : Gx} {u v : Mm} {m j o n : Nat} (h : AR G u m j o n) (e : gR v m j = gR u m j) : AR G v m j o n := by
  unfold AR at *
  rw [e]
  exact h
theorem TR.keep {G : Gx} {u v : Mm} {t : Nat} (h : TR G u t) (e : ∀ j, gR v t j = gR u t j) : TR G v t := ⟨h.1, h.2.1, h.2.2.1.keep (e _), h.2.2.2.keep (e _)⟩
theorem BR.keep {G : Gx} {u v : Mm} {b : Nat} (h : BR G u b) (e : ∀ a j, b ≤ a → a < b + 66 → a ≠ b + 5 → gR v a j = gR u a j) : BR G v b := by
  obtain ⟨h0, h1, h2, h3, h4, ⟨h5, h6, h7⟩, ⟨h8, h9, h10⟩, h11⟩ := h
  refine ⟨h0, h1, h2.keep (e _ _ (by omega) (by omega) (by omega)), h3.keep (e _ _ (by omega) (by omega) (by omega)), h4.keep (e _ _ (by omega) (by omega) (by omega)), ⟨h5, h6, ?_⟩, ⟨h8, h9, ?_⟩, fun s hs => ⟨?_, (h11 s hs).2.keep (fun j => e _ _ (by omega) (by omega) (by omega))⟩⟩
  · rw [e _ _ (by omega) (by omega) (by omega)]; exact h7
  · rw [e _ _ (by omega) (by omega) (by omega)]; exact h10
  · rw [e _ _ (by omega) (by omega) (by omega)]; exact (h11 s hs).1
theorem BC.keep {u v : Mm} {b : Nat} {B : Bk} (h : BC u b B) (hB : okB B) (e : ∀ a j, b ≤ a → a < b + 66 → ¬ (a = b ∧ j = 7) → gI v a j = gI u a j) : BC v b B := by
  obtain ⟨h1, h2, h3, h4, h5⟩ := h
  have n20 := hB.1
  refine ⟨?_, ?_, fun s hs => ⟨fun f hf => ?_, ?_, fun i hi => ?_, ?_⟩, fun i hi => ⟨?_, ?_⟩, fun k hk => ?_⟩
  · rw [e _ _ (by omega) (by omega) (by omega)]; exact h1
  · rw [e _ _ (by omega) (by omega) (by omega)]; exact h2
  · rw [e _ _ (by omega) (by omega) (by omega)]; exact (h3 s hs).1 f hf
  · rw [e _ _ (by omega) (by omega) (by omega)]; exact (h3 s hs).2.1
  · rw [e _ _ (by omega) (by omega) (by omega)]; exact (h3 s hs).2.2.1 i hi
  · exact (h3 s hs).2.2.2.same (fun i _ => e _ _ (by omega) (by omega) (by omega))
  · rw [e _ _ (by omega) (by omega) (by omega)]; exact (h4 i hi).1
  · rw [e _ _ (by omega) (by omega) (by omega)]; exact (h4 i hi).2
  · rw [e _ _ (by omega) (by omega) (by omega)]; exact h5 k hk
/-! the class: where all lies -/
def lnd (z j : Nat) : Nat := if j = 6 then z + 3 else z + 28 + 24 * j
theorem lnd_bd {z j : Nat} (h : j < 7) : z + 3 ≤ lnd z j ∧ lnd z j + 24 ≤ z + 172 := by
  unfold lnd
  split <;> omega
theorem lnd_off {z i j : Nat} (hi : i < 7) (hj : j < 7) (h : i ≠ j) : lnd z i + 24 ≤ lnd z j ∨ lnd z j + 24 ≤ lnd z i := by
  unfold lnd
  split <;> split <;> omega
theorem lnd_27 {z i : Nat} (hi : i < 7) : lnd z i + 24 ≤ z + 27 ∨ z + 28 ≤ lnd z i := by
  unfold lnd
  split <;> omega
def PR (G : Gx) (u : Mm) (p : Nat) : Prop := 0 < p ∧ kd G p = 5 ∧ AR G u p 1 1 82 ∧ AR G u p 3 2 3 ∧ AR G u p 4 3 3
def KR (G : Gx) (u : Mm) (c : Nat) : Prop := 0 < c ∧ kd G c = 2 ∧ (kd G (c + 1) = 22 ∧ ln G (c + 1) = 6 ∧ gR u c 0 = c + 1) ∧ (∀ i, i < 6 → gR u (c + 1) i = c + 2 + i ∧ kd G (c + 2 + i) = 13 ∧ ln G (c + 2 + i) = 16) ∧ AR G u c 1 8 6 ∧ AR G u c 2 9 48 ∧ AR G u c 3 10 64 ∧ AR G u c 4 11 64
def HC0 (G : Gx) (u : Mm) (z : Nat) : Prop := (0 < z ∧ kd G z = 11)
  ∧ (gR u z 0 = z + 1 ∧ kd G (z + 1) = 8 ∧ gR u (z + 1) 0 = z + 2 ∧ kd G (z + 2) = 14 ∧ ln G (z + 2) = 700)
  ∧ (gR u z 1 = z + 27 ∧ kd G (z + 27) = 16 ∧ ln G (z + 27) = 6)
  ∧ (gR u z 2 = z + 172 ∧ BR G u (z + 172)) ∧ (gR u z 3 = z + 238 ∧ BR G u (z + 238)) ∧ (gR u z 5 = z + 304 ∧ SR G u (z + 304))
  ∧ (gR u z 6 = z + 311 ∧ kd G (z + 311) = 20 ∧ ln G (z + 311) = 20 ∧ ∀ s, s < 20 → gR u (z + 311) s = z + 312 + 7 * s ∧ SR G u (z + 312 + 7 * s))
  ∧ (gR u z 7 = z + 452 ∧ ER G u (z + 452)) ∧ (gR u z 8 = z + 458 ∧ PR G u (z + 458)) ∧ (gR u z 9 = z + 462 ∧ KR G u (z + 462)) ∧ AR G u z 10 474 16 ∧ AR G u z 11 475 16
  ∧ ∀ j, j < 7 → LR G u (lnd z j)
/-- where the lands lie: land k at place o k, the one that is read into at place o 6 -/
def HL (u : Mm) (z : Nat) (o : Nat → Nat) : Prop := (∀ k, k < 6 → gR u (z + 27) k = lnd z (o k)) ∧ gR u (z + 1) 3 = lnd z (o 6) ∧ (∀ k, k < 7 → o k < 7) ∧ ∀ i j, i < 7 → j < 7 → o i = o j → i = j
def XC (u : Mm) (z : Nat) : Option Bk → Prop
  | none => gI u z 4 = 0
  | some B => gI u z 4 = 1 ∧ BC u (z + 238) B
def RC (G : Gx) (u : Mm) (z : Nat) (o : Nat → Nat) (S : St) : Prop := HC0 G u z ∧ HL u z o ∧ (∀ l, l < 6 → CL u (lnd z (o l)) (sD S l)) ∧ BC u (z + 172) (sB S) ∧ XC u z (sX S) ∧ gI u (z + 1) 1 = nI (sN S) ∧ (∀ i, i < sN S → gI u (z + 2) i = i8 (sY S i)) ∧ gI u (z + 1) 11 = sF S
/-- what the class uses for a while -/
def csc (z a j : Nat) : Prop := (z + 304 ≤ a ∧ a ≤ z + 475) ∨ (a = z + 172 ∧ j = 7)
theorem SR.keep {G : Gx} {u v : Mm} {s : Nat} (h : SR G u s) (e : ∀ j, gR v s j = gR u s j) : SR G v s := by
  obtain ⟨h0, h1, h2, h3, h4, h5, h6, h7⟩ := h
  exact ⟨h0, h1, h2.keep (e _), h3.keep (e _), h4.keep (e _), h5.keep (e _), h6.keep (e _), h7.keep (e _)⟩
theorem ER.keep {G : Gx} {u v : Mm} {s : Nat} (h : ER G u s) (e : ∀ j, gR v s j = gR u s j) : ER G v s := by
  obtain ⟨h0, h1, h2, h3, h4, h5, h6⟩ := h
  exact ⟨h0, h1, h2.keep (e _), h3.keep (e _), h4.keep (e _), h5.keep (e _), h6.keep (e _)⟩
theorem PR.keep {G : Gx} {u v : Mm} {s : Nat} (h : PR G u s) (e : ∀ j, gR v s j = gR u s j) : PR G v s := by
  obtain ⟨h0, h1, h2, h3, h4⟩ := h
  exact ⟨h0, h1, h2.keep (e _), h3.keep (e _), h4.keep (e _)⟩
theorem KR.keep {G : Gx} {u v : Mm} {s : Nat} (h : KR G u s) (e : ∀ a j, s ≤ a → a ≤ s + 1 → gR v a j = gR u a j) : KR G v s := by
  obtain ⟨h0, h1, ⟨h2, h3, h4⟩, h5, h6, h7, h8, h9⟩ := h
  refine ⟨h0, h1, ⟨h2, h3, ?_⟩, fun i hi => ⟨?_, (h5 i hi).2⟩, h6.keep (e _ _ (by omega) (by omega)), h7.keep (e _ _ (by omega) (by omega)), h8.keep (e _ _ (by omega) (by omega)), h9.keep (e _ _ (by omega) (by omega))⟩
  · rw [e _ _ (by omega) (by omega)]; exact h4
  · rw [e _ _ (by omega) (by omega)]; exact (h5 i hi).1
theorem LR.keep {G : Gx} {u v : Mm} {a : Nat} (h : LR G u a) (e : ∀ b j, a ≤ b → b < a + 24 → gR v b j = gR u b j) : LR G v a := by
  obtain ⟨l0, lk, l1, l1n, l1r, l2, l2n, l2r, l3, l3n, l3r, lw, lo⟩ := h
  refine ⟨l0, lk, l1, l1n, ?_, l2, l2n, ?_, l3, l3n, ?_, fun k hk => ⟨(lw k hk).1, ?_, (lw k hk).2.2.1, ?_⟩, fun k hk => ⟨(lo k hk).1, ?_, ?_, (lo k hk).2.2.2⟩⟩
  · rw [e _ _ (by omega) (by omega)]; exact l1r
  · rw [e _ _ (by omega) (by omega)]; exact l2r
  · rw [e _ _ (by omega) (by omega)]; exact l3r
  · rw [e _ _ (by omega) (by omega)]; exact (lw k hk).2.1
  · rw [e _ _ (by omega) (by omega)]; exact (lw k hk).2.2.2
  · rw [e _ _ (by omega) (by omega)]; exact (lo k hk).2.1
  · rw [e _ _ (by omega) (by omega)]; exact (lo k hk).2.2.1
theorem HC0.keep {G : Gx} {u v : Mm} {z : Nat} (h : HC0 G u z) (e : ∀ a j, z ≤ a → a < z + 476 → a ≠ z + 177 → a ≠ z + 243 → a ≠ z + 27 → ¬ (a = z + 1 ∧ j = 3) → gR v a j = gR u a j) : HC0 G v z := by
  obtain ⟨h0, ⟨a1, a2, a3, a4, a5⟩, ⟨b1, b2, b3⟩, ⟨c1, c2⟩, ⟨d1, d2⟩, ⟨e1, e2⟩, ⟨f1, f2, f3, f4⟩, ⟨g1, g2⟩, ⟨i1, i2⟩, ⟨j1, j2⟩, k1, k2, l1⟩ := h
  have e0 : ∀ j, gR v z j = gR u z j := fun j => e _ _ (by omega) (by omega) (by omega) (by omega) (by omega) (by omega)
  refine ⟨h0, ⟨(e0 _).trans a1, a2, ?_, a4, a5⟩, ⟨(e0 _).trans b1, b2, b3⟩, ⟨(e0 _).trans c1, ?_⟩, ⟨(e0 _).trans d1, ?_⟩, ⟨(e0 _).trans e1, ?_⟩, ⟨(e0 _).trans f1, f2, f3, fun s hs => ⟨?_, ?_⟩⟩, ⟨(e0 _).trans g1, ?_⟩, ⟨(e0 _).trans i1, ?_⟩, ⟨(e0 _).trans j1, ?_⟩, k1.keep (e0 _), k2.keep (e0 _), fun j hj => ?_⟩
  · rw [e _ _ (by omega) (by omega) (by omega) (by omega) (by omega) (by omega)]; exact a3
  · exact c2.keep (fun a j q1 q2 q3 => e _ _ (by omega) (by omega) (by omega) (by omega) (by omega) (by omega))
  · exact d2.keep (fun a j q1 q2 q3 => e _ _ (by omega) (by omega) (by omega) (by omega) (by omega) (by omega))
  · exact e2.keep (fun j => e _ _ (by omega) (by omega) (by omega) (by omega) (by omega) (by omega))
  · rw [e _ _ (by omega) (by omega) (by omega) (by omega) (by omega) (by omega)]; exact (f4 s hs).1
  · exact (f4 s hs).2.keep (fun j => e _ _ (by omega) (by omega) (by omega) (by omega) (by omega) (by omega))
  · exact g2.keep (fun j => e _ _ (by omega) (by omega) (by omega) (by omega) (by omega) (by omega))
  · exact i2.keep (fun j => e _ _ (by omega) (by omega) (by omega) (by omega) (by omega) (by omega))
  · exact j2.keep (fun a j q1 q2 => e _ _ (by omega) (by omega) (by omega) (by omega) (by omega) (by omega))
  · have q := lnd_bd (z := z) hj
    have q2 := lnd_27 (z := z) hj
    exact (l1 j hj).keep (fun b j q1 q2 => e _ _ (by omega) (by omega) (by omega) (by omega) (by omega) (by omega))
theorem RC.keep {G : Gx} {u v : Mm} {z : Nat} {o : Nat → Nat} {S : St} (h : RC G u z o S) (hS : okS S) (e : ∀ a j, z ≤ a → a < z + 476 → ¬ csc z a j → gI v a j = gI u a j) (e2 : ∀ a j, z ≤ a → a < z + 476 → a ≠ z + 177 → gR v a j = gR u a j) : RC G v z o S := by
  obtain ⟨h1, ⟨i1, i2, i3, i4⟩, h3, h4, h5, h6, h7, h8⟩ := h
  have f : ∀ a j, z ≤ a → a < z + 304 → ¬ (a = z + 172 ∧ j = 7) → gI v a j = gI u a j := fun a j q1 q2 q3 => e a j q1 (by omega) (by unfold csc; omega)
  refine ⟨h1.keep (fun a j q1 q2 q3 _ _ _ => e2 a j q1 q2 q3), ⟨fun k hk => ?_, ?_, i3, i4⟩, fun l hl => ?_, ?_, ?_, ?_, fun i hi => ?_, ?_⟩
  · rw [e2 _ _ (by omega) (by omega) (by omega)]; exact i1 k hk
  · rw [e2 _ _ (by omega) (by omega) (by omega)]; exact i2
  · have q := lnd_bd (z := z) (i3 l (by omega))
    exact (h3 l hl).same (hS.1 l hl) (fun b j q1 q2 => f b j (by omega) (by omega) (by omega))
  · exact h4.keep hS.2.1 (fun a j q1 q2 q3 => f a j (by omega) (by omega) q3)
  · cases hx : sX S with
    | none =>
      rw [hx] at h5
      show gI v z 4 = 0
      rw [f _ _ (by omega) (by omega) (by omega)]
      exact h5
    | some B =>
      rw [hx] at h5
      refine ⟨?_, h5.2.keep (hS.2.2.1 B hx) (fun a j q1 q2 _ => f a j (by omega) (by omega) (by omega))⟩
      rw [f _ _ (by omega) (by omega) (by omega)]
      exact h5.1
  · rw [f _ _ (by omega) (by omega) (by omega)]; exact h6
  · rw [f _ _ (by omega) (by omega) (by omega)]; exact h7 i hi
  · rw [f _ _ (by omega) (by omega) (by omega)]; exact h8
theorem RC.fx {G : Gx} {u v : Mm} {z : Nat} {o : Nat → Nat} {S : St} {P : Nat → Nat → Prop} (h : RC G u z o S) (hS : okS S) (hf : Fx P u v) (hp : ∀ a j, P a j → csc z a j ∨ a < z ∨ z + 476 ≤ a) : RC G v z o S :=
  h.keep hS (fun a j q1 q2 q3 => hf.2 a j (fun c => by rcases hp a j c with q | q | q <;> first | exact q3 q | omega)) (fun a j _ _ _ => hf.gR a j)
theorem RC.wL {G : Gx} {u : Mm} {z : Nat} {o : Nat → Nat} {S : St} {a j : Nat} {v : Int64} (h : RC G u z o S) (hS : okS S) : RC G (sL u a j v) z o S := h.keep hS (fun _ _ _ _ _ => rfl) (fun _ _ _ _ _ => rfl)
/-! the model -/
def MR4 (G : Gx) (u : Mm) (m : Nat) : Prop := AR G u m 38 25 1640 ∧ AR G u m 39 26 20 ∧ AR G u m 40 27 100000 ∧ AR G u m 43 28 48 ∧ AR G u m 44 29 64 ∧ (∀ i, i < 5 → AR G u m (48 + i) (30 + i) 20) ∧ AR G u m 53 35 240 ∧ AR G u m 54 36 240 ∧ AR G u m 55 37 8 ∧ AR G u m 56 38 8 ∧ AR G u m 57 39 4
  ∧ (kd G (m + 1) = 23 ∧ ln G (m + 1) = 6 ∧ gR u m 0 = m + 1) ∧ ∀ i, i < 6 → gR u (m + 1) i = 29 + i
def HM (G : Gx) (u : Mm) (m : Nat) : Prop := MR G u m ∧ MR2 G u m ∧ MR3 G u m ∧ MR4 G u m
theorem HM.keep {G : Gx} {u v : Mm} {m : Nat} (h : HM G u m) (e : ∀ a j, m ≤ a → a ≤ m + 1 → gR v a j = gR u a j) : HM G v m := by
  obtain ⟨h1, h2, h3, h4⟩ := h
  have e0 : ∀ j, gR v m j = gR u m j := fun j => e _ _ (by omega) (by omega)
  have e1 : ∀ j, gR v (m + 1) j = gR u (m + 1) j := fun j => e _ _ (by omega) (by omega)
  unfold HM MR MR2 MR3 MR4 AR at *
  simp only [e0, e1]
  exact ⟨h1, h2, h3, h4⟩
/-- a book of the model: its rows from r on, its status at q, its counts at a and b -/
def BM (u : Mm) (m r q a b : Nat) (B : Bk) : Prop := gI u m a = nI (bkN B) ∧ gI u m b = nI (bkS B)
  ∧ (∀ s, s < bkN B → (∀ f, f < 4 → gI u (m + r + f) s = bkF B s f) ∧ gI u (m + r + 4) s = nI (bkT B s).length ∧ (∀ i, i < (bkT B s).length → gI u (m + r + 5) (12 * s + i) = (bkT B s).getD i 0) ∧ Rw u (m + r + 6) (12 * s) (bkT B s))
  ∧ (∀ i, i < bkS B → gI u (m + r + 7) i = bkP B i 0 ∧ gI u (m + r + 8) i = bkP B i 1)
  ∧ ∀ k, k < 4 → gI u (m + q) k = bkR B k
theorem BM.keep {u v : Mm} {m r q a b : Nat} {B : Bk} (h : BM u m r q a b B) (e1 : gI v m a = gI u m a) (e2 : gI v m b = gI u m b) (e3 : ∀ j, gI v (m + q) j = gI u (m + q) j) (e : ∀ c j, m + r ≤ c → c ≤ m + r + 8 → gI v c j = gI u c j) : BM v m r q a b B := by
  obtain ⟨h1, h2, h3, h4, h5⟩ := h
  refine ⟨e1.trans h1, e2.trans h2, fun s hs => ⟨fun f hf => ?_, ?_, fun i hi => ?_, ?_⟩, fun i hi => ⟨?_, ?_⟩, fun k hk => (e3 k).trans (h5 k hk)⟩
  · rw [e _ _ (by omega) (by omega)]; exact (h3 s hs).1 f hf
  · rw [e _ _ (by omega) (by omega)]; exact (h3 s hs).2.1
  · rw [e _ _ (by omega) (by omega)]; exact (h3 s hs).2.2.1 i hi
  · exact (h3 s hs).2.2.2.same (fun i _ => e _ _ (by omega) (by omega))
  · rw [e _ _ (by omega) (by omega)]; exact (h4 i hi).1
  · rw [e _ _ (by omega) (by omega)]; exact (h4 i hi).2
def XM (u : Mm) (m : Nat) : Option Bk → Prop
  | none => gI u m 45 = 0
  | some B => gI u m 45 = 1 ∧ BM u m 30 39 46 47 B
def RM (G : Gx) (u : Mm) (m : Nat) (S : St) : Prop := HM G u m ∧ (∀ l, l < 6 → ML u m l (sD S l)) ∧ BM u m 16 10 27 28 (sB S) ∧ XM u m (sX S) ∧ gI u m 12 = nI (sN S) ∧ (∀ i, i < sN S → gI u (m + 11) i = sY S i) ∧ gI u m 21 = sF S
/-- what the model uses for a while -/
def msc (m a j : Nat) : Prop := (a = m ∧ (j = 1 ∨ (13 ≤ j ∧ j ≤ 20) ∨ j = 26 ∨ j = 41 ∨ j = 42)) ∨ (m + 12 ≤ a ∧ a ≤ m + 15) ∨ (m + 25 ≤ a ∧ a ≤ m + 29)
theorem RM.keep {G : Gx} {u v : Mm} {m : Nat} {S : St} (h : RM G u m S) (e : ∀ a j, m ≤ a → a < m + 40 → ¬ msc m a j → gI v a j = gI u a j) (e2 : ∀ a j, m ≤ a → a < m + 40 → gR v a j = gR u a j) : RM G v m S := by
  obtain ⟨h1, h2, h3, h4, h5, h6, h7⟩ := h
  have f : ∀ a j, m + 2 ≤ a → a < m + 12 → gI v a j = gI u a j := fun a j q1 q2 => e a j (by omega) (by omega) (by unfold msc; omega)
  have f2 : ∀ a j, m + 16 ≤ a → a < m + 25 → gI v a j = gI u a j := fun a j q1 q2 => e a j (by omega) (by omega) (by unfold msc; omega)
  have f3 : ∀ a j, m + 30 ≤ a → a < m + 40 → gI v a j = gI u a j := fun a j q1 q2 => e a j (by omega) (by omega) (by unfold msc; omega)
  have f4 : ∀ j, ¬ (j = 1 ∨ (13 ≤ j ∧ j ≤ 20) ∨ j = 26 ∨ j = 41 ∨ j = 42) → gI v m j = gI u m j := fun j q => e m j (by omega) (by omega) (by unfold msc; omega)
  refine ⟨h1.keep (fun a j q1 q2 => e2 a j q1 (by omega)), fun l hl => (h2 l hl).same (fun b j q1 q2 => f b j q1 (by omega)), ?_, ?_, ?_, fun i hi => ?_, ?_⟩
  · exact h3.keep (f4 _ (by omega)) (f4 _ (by omega)) (fun j => f _ _ (by omega) (by omega)) (fun c j q1 q2 => f2 _ _ (by omega) (by omega))
  · cases hx : sX S with
    | none =>
      rw [hx] at h4
      show gI v m 45 = 0
      rw [f4 _ (by omega)]
      exact h4
    | some B =>
      rw [hx] at h4
      exact ⟨(f4 _ (by omega)).trans h4.1, h4.2.keep (f4 _ (by omega)) (f4 _ (by omega)) (fun j => f3 _ _ (by omega) (by omega)) (fun c j q1 q2 => f3 _ _ (by omega) (by omega))⟩
  · rw [f4 _ (by omega)]; exact h5
  · rw [f _ _ (by omega) (by omega)]; exact h6 i hi
  · rw [f4 _ (by omega)]; exact h7
theorem RM.fx {G : Gx} {u v : Mm} {m : Nat} {S : St} {P : Nat → Nat → Prop} (h : RM G u m S) (hf : Fx P u v) (hp : ∀ a j, P a j → msc m a j ∨ a < m ∨ m + 40 ≤ a) : RM G v m S :=
  h.keep (fun a j q1 q2 q3 => hf.2 a j (fun c => by rcases hp a j c with q | q | q <;> first | exact q3 q | omega)) (fun a j _ _ => hf.gR a j)
theorem RM.wL {G : Gx} {u : Mm} {m : Nat} {S : St} {a j : Nat} {v : Int64} (h : RM G u m S) : RM G (sL u a j v) m S := h.keep (fun _ _ _ _ _ => rfl) (fun _ _ _ _ => rfl)
