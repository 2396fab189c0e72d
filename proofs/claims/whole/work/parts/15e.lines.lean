/-! LINES of a text, and what they add to a land -/
def Hd (w : Mm) (x b j : Nat) (V : Nat → Int32) : Prop := ∀ f, f < j → gI w x (b + f) = V f
def ldW (D : Ld) (V : Nat → Int32) : Ld := (fun i => if i = 0 then nW D + 1 else D.1 i, hE D, aI D, fun k => if k = nW D then V else dW D k, dB D, dO D)
def ldB (D : Ld) (V : Nat → Int32) : Ld := (fun i => if i = 1 then nB D + 1 else D.1 i, hE D, aI D, dW D, fun k => if k = nB D then V else dB D k, dO D)
def ldO (D : Ld) (V : Nat → Int32) : Ld := (fun i => if i = 2 then nO D + 1 else D.1 i, hE D, aI D, dW D, dB D, fun k => if k = nO D then V else dO D k)
def ldH (D : Ld) (v : Int32) : Ld := (D.1, v, aI D, dW D, dB D, dO D)
def ldA (D : Ld) (v : Int32) : Ld := (D.1, hE D, v, dW D, dB D, dO D)
section PURE
variable (c : Nat → Nat) (n : Nat)
def wl1 (t : Tk) : Tk := rdT c n 0 40 0 t
def wl2 (t : Tk) : Tk := rdT c n 0 40 0 (wl1 c n t)
def wl3 (t : Tk) : Tk := rdT c n 0 40 (rdV c n (wl1 c n t) + 1) (wl2 c n t)
def wl4 (t : Tk) : Tk := lsT c n (wl3 c n t)
def wlV (lv : Int32) (t : Tk) : Nat → Int32 := fun f => if f = 0 then lv else if f = 1 then nI (rdV c n t) else if f = 2 then nI (rdV c n (wl1 c n t)) else if f = 3 then nI (rdV c n (wl2 c n t)) else nI (lsV c n (wl3 c n t))
def bn1 (t : Tk) : Tk := rdT c n 0 40 0 t
def bn2 (t : Tk) : Tk := rdT c n 0 40 0 (bn1 c n t)
def bn3 (t : Tk) : Tk := lsT c n (bn2 c n t)
def bn4 (t : Tk) : Tk := rdT c n 0 99 0 (nxt c n (bn3 c n t))
def bn5 (t : Tk) : Tk := rdT c n 0 99 (rdV c n (nxt c n (bn3 c n t))) (bn4 c n t)
def bn6 (t : Tk) : Tk := if isW c n 6 (bn3 c n t) then bn5 c n t else bn3 c n t
def bnV (t : Tk) : Nat → Int32 := fun f => if f = 0 then nI (rdV c n t) else if f = 1 then nI (rdV c n (bn1 c n t)) else if f = 2 then nI (lsV c n (bn2 c n t)) else if f = 3 then (if isW c n 6 (bn3 c n t) then nI (rdV c n (nxt c n (bn3 c n t))) else 0) else (if isW c n 6 (bn3 c n t) then nI (rdV c n (bn4 c n t)) else 99)
def wd1 (t : Tk) : Tk := rdT c n 0 40 0 t
def wd2 (t : Tk) : Tk := rdT c n 0 40 0 (wd1 c n t)
def wd3 (t : Tk) : Tk := rdT c n 0 40 (rdV c n t) (wd2 c n t)
def wd4 (t : Tk) : Tk := rdT c n 0 40 (rdV c n (wd1 c n t)) (wd3 c n t)
def wdI (t : Tk) : Nat → Tk
  | 0 => wd4 c n t
  | j + 1 => rdT c n 0 100 0 (wdI t j)
def wdVs (t : Tk) : Nat → Int32 := fun f => if f = 0 then nI (rdV c n t) else if f = 1 then nI (rdV c n (wd1 c n t)) else if f = 2 then nI (rdV c n (wd2 c n t)) else if f = 3 then nI (rdV c n (wd3 c n t)) else nI (rdV c n (wdI c n t (f - 4)))
def ln0 (D : Ld) (t : Tk) : Tk := if nW D < 6 then sgT c n (wl4 c n (nxt c n t)) else flt4 c n 2 t
def ln2 (D : Ld) (t : Tk) : Tk := if nB D < 6 then sgT c n (bn6 c n (nxt c n t)) else flt4 c n 2 t
def ln3 (D : Ld) (t : Tk) : Tk := if nO D < 4 then sgT c n (wdI c n (nxt c n t) 3) else flt4 c n 2 t
end PURE
def inL (z a : Nat) : Nat → Nat → Prop := fun b j => (b = z + 1 ∧ 6 ≤ j ∧ j ≤ 11) ∨ (a ≤ b ∧ b < a + 24)
def sto (z x p : Nat) : Nat → Nat → Prop := fun b i => inC6 z b i ∨ (b = x ∧ i = p)
def inX (z x : Nat) : Nat → Nat → Prop := fun b i => inC6 z b i ∨ b = x
theorem nI_fl {fl v : Nat} (h1 : fl < 2 ^ 31) (h2 : v < 10000) : (nI fl ≤ nI v ↔ fl ≤ v) := nI_leI h1 (by omega)
theorem m1_fl {v : Nat} (h2 : v < 10000) : ((-1 : Int32) ≤ nI v ↔ 0 ≤ v) := ⟨fun _ => by omega, fun _ => by rw [Int32.le_iff_toInt_le, nI_toInt (by omega)]; show (-1 : Int) ≤ _; omega⟩
section LINES
variable {G : Gx} {u : Mm} {c : Nat → Nat} {n : Nat}
theorem c_num {Q : Int32 → Mm → Prop} {z lo hi fl x b j p : Nat} {t : Tk} {p1 p2 p3 : Int32} {V : Nat → Int32} (h : HC0 G u z) (hn : n ≤ 700) (hc : ∀ i, c i < 256) (hT : CT z c n t u) (hp1 : p1 = nI lo) (hp2 : p2 = nI hi) (hlo : lo < 10000) (hhi : hi < 10000) (hfl : kC t = 0 → ∀ v, lo ≤ v → v < 10000 → (p3 ≤ nI v ↔ fl ≤ v)) (hH : kC t = 0 → Hd u x b j V) (hV : V j = nI (rdV c n t)) (hx : z + 3 ≤ x) (hp : p = b + j) (hQ : ∀ v u1, Fx (inC6 z) u u1 → (∀ u2, u2 = sI u1 x p v → Fx (sto z x p) u u2 ∧ CT z c n (rdT c n lo hi fl t) u2 ∧ (kC (rdT c n lo hi fl t) = 0 → Hd u2 x b (j + 1) V)) → Q v u1) : V_X8_readNumber G (z + 1) p1 p2 p3 u Q := by
  refine c_readNumber h hn hc hT hp1 hp2 hlo hhi hfl (fun v u1 f1 T1 e1 => hQ v u1 f1 (fun u2 e2 => ?_))
  have f2 : Fx (fun b i => b = x ∧ i = p) u1 u2 := by rw [e2]; exact Fx.put ⟨rfl, rfl⟩
  refine ⟨(f1.mono (fun a j q => Or.inl q)).trans (f2.mono (fun a j q => Or.inr q)), T1.fx f2 (fun a j q => by omega), fun q f hf => ?_⟩
  by_cases e : f = j
  · rw [e2, gI_sI, if_pos ⟨rfl, by omega⟩, e1 q, e, hV]
  · rw [e2, gI_sI, if_neg (by omega), f1.2 _ _ (by unfold inC6; omega)]
    exact hH (rdT_0 q).1 f (by omega)
theorem c_loss {Q : Int32 → Mm → Prop} {z x b j p : Nat} {t : Tk} {V : Nat → Int32} (h : HC0 G u z) (hn : n ≤ 700) (hc : ∀ i, c i < 256) (hT : CT z c n t u) (hH : kC t = 0 → Hd u x b j V) (hV : V j = nI (lsV c n t)) (hx : z + 3 ≤ x) (hp : p = b + j) (hQ : ∀ v u1, Fx (inC6 z) u u1 → (∀ u2, u2 = sI u1 x p v → Fx (sto z x p) u u2 ∧ CT z c n (lsT c n t) u2 ∧ (kC (lsT c n t) = 0 → Hd u2 x b (j + 1) V)) → Q v u1) : V_X8_readLoss G (z + 1) u Q := by
  refine c_readLoss h hn hc hT (fun v u1 f1 T1 e1 => hQ v u1 f1 (fun u2 e2 => ?_))
  have f2 : Fx (fun b i => b = x ∧ i = p) u1 u2 := by rw [e2]; exact Fx.put ⟨rfl, rfl⟩
  refine ⟨(f1.mono (fun a j q => Or.inl q)).trans (f2.mono (fun a j q => Or.inr q)), T1.fx f2 (fun a j q => by omega), fun q f hf => ?_⟩
  by_cases e : f = j
  · rw [e2, gI_sI, if_pos ⟨rfl, by omega⟩, e1 q, e, hV]
  · rw [e2, gI_sI, if_neg (by omega), f1.2 _ _ (by unfold inC6; omega)]
    exact hH (lsT_0 q).1 f (by omega)
theorem sto_L {z a x p : Nat} (h1 : a ≤ x) (h2 : x < a + 24) : ∀ b i, sto z x p b i → inL z a b i := by
  intro b i q
  unfold sto inC6 at q
  unfold inL
  omega
theorem sto_X {z x p : Nat} : ∀ b i, sto z x p b i → inX z x b i := fun b i q => q.elim Or.inl (fun q => Or.inr q.1)
theorem c6_X {z x : Nat} : ∀ b i, inC6 z b i → inX z x b i := fun b i q => Or.inl q
theorem c6_L {z a : Nat} : ∀ b i, inC6 z b i → inL z a b i := by
  intro b i q
  unfold inC6 at q
  unfold inL
  omega
theorem CL.addW {a : Nat} {v : Mm} {D : Ld} {V : Nat → Int32} (h : CL u a D) (hD : okD D) (h6 : nW D < 6) (f : ∀ b j, a ≤ b → b < a + 24 → ¬ (b = a ∧ j = 3) → b ≠ a + 2 + nW D → gI v b j = gI u b j) (h3 : gI v a 3 = nI (nW D + 1)) (hv0 : gI v (a + 2 + nW D) 0 = if V 0 = 1 then 0 else 1) (hv : ∀ f, 0 < f → f < 5 → gI v (a + 2 + nW D) f = V f) : CL v a (ldW D V) := by
  obtain ⟨h1, h2, h3', h4, h5, hw, hb, ho⟩ := h
  obtain ⟨c1, c2, c3, _⟩ := hD
  refine ⟨h3, ?_, ?_, ?_, ?_, fun k hk => ?_, fun k hk g hg => ?_, fun k hk => ?_⟩
  · rw [f _ _ (by omega) (by omega) (by omega) (by omega)]; exact h2
  · rw [f _ _ (by omega) (by omega) (by omega) (by omega)]; exact h3'
  · rw [f _ _ (by omega) (by omega) (by omega) (by omega)]; exact h4
  · rw [f _ _ (by omega) (by omega) (by omega) (by omega)]; exact h5
  · have hk : k < nW D + 1 := hk
    show (gI v (a + 2 + k) 0 = if (if k = nW D then V else dW D k) 0 = 1 then 0 else 1) ∧ ∀ f, 0 < f → f < 5 → gI v (a + 2 + k) f = (if k = nW D then V else dW D k) f
    by_cases e : k = nW D
    · rw [if_pos e, e]
      exact ⟨hv0, hv⟩
    · rw [if_neg e]
      refine ⟨?_, fun g g1 g2 => ?_⟩
      · rw [f _ _ (by omega) (by omega) (by omega) (by omega)]; exact (hw k (by omega)).1
      · rw [f _ _ (by omega) (by omega) (by omega) (by omega)]; exact (hw k (by omega)).2 g g1 g2
  · have hk : k < nB D := hk
    rw [f _ _ (by omega) (by omega) (by omega) (by omega)]; exact hb k hk g hg
  · have hk : k < nO D := hk
    refine ⟨fun g hg => ?_, fun g hg => ?_⟩
    · rw [f _ _ (by omega) (by omega) (by omega) (by omega)]; exact (ho k hk).1 g hg
    · rw [f _ _ (by omega) (by omega) (by omega) (by omega)]; exact (ho k hk).2 g hg
theorem CL.addB {a : Nat} {v : Mm} {D : Ld} {V : Nat → Int32} (h : CL u a D) (hD : okD D) (h6 : nB D < 6) (f : ∀ b j, a ≤ b → b < a + 24 → ¬ (b = a ∧ j = 4) → b ≠ a + 9 + nB D → gI v b j = gI u b j) (h3 : gI v a 4 = nI (nB D + 1)) (hv : ∀ f, f < 5 → gI v (a + 9 + nB D) f = V f) : CL v a (ldB D V) := by
  obtain ⟨h1, h2, h3', h4, h5, hw, hb, ho⟩ := h
  obtain ⟨c1, c2, c3, _⟩ := hD
  refine ⟨?_, h3, ?_, ?_, ?_, fun k hk => ?_, fun k hk g hg => ?_, fun k hk => ?_⟩
  · rw [f _ _ (by omega) (by omega) (by omega) (by omega)]; exact h1
  · rw [f _ _ (by omega) (by omega) (by omega) (by omega)]; exact h3'
  · rw [f _ _ (by omega) (by omega) (by omega) (by omega)]; exact h4
  · rw [f _ _ (by omega) (by omega) (by omega) (by omega)]; exact h5
  · have hk : k < nW D := hk
    refine ⟨?_, fun g g1 g2 => ?_⟩
    · rw [f _ _ (by omega) (by omega) (by omega) (by omega)]; exact (hw k (by omega)).1
    · rw [f _ _ (by omega) (by omega) (by omega) (by omega)]; exact (hw k (by omega)).2 g g1 g2
  · have hk : k < nB D + 1 := hk
    show gI v (a + 9 + k) g = (if k = nB D then V else dB D k) g
    by_cases e : k = nB D
    · rw [if_pos e, e]
      exact hv g hg
    · rw [if_neg e, f _ _ (by omega) (by omega) (by omega) (by omega)]; exact hb k (by omega) g hg
  · have hk : k < nO D := hk
    refine ⟨fun g hg => ?_, fun g hg => ?_⟩
    · rw [f _ _ (by omega) (by omega) (by omega) (by omega)]; exact (ho k hk).1 g hg
    · rw [f _ _ (by omega) (by omega) (by omega) (by omega)]; exact (ho k hk).2 g hg
theorem CL.addO {a : Nat} {v : Mm} {D : Ld} {V : Nat → Int32} (h : CL u a D) (hD : okD D) (h6 : nO D < 4) (f : ∀ b j, a ≤ b → b < a + 24 → ¬ (b = a ∧ j = 5) → b ≠ a + 16 + 2 * nO D → b ≠ a + 17 + 2 * nO D → gI v b j = gI u b j) (h3 : gI v a 5 = nI (nO D + 1)) (hv : ∀ f, f < 4 → gI v (a + 16 + 2 * nO D) f = V f) (hv2 : ∀ f, f < 3 → gI v (a + 17 + 2 * nO D) f = V (4 + f)) : CL v a (ldO D V) := by
  obtain ⟨h1, h2, h3', h4, h5, hw, hb, ho⟩ := h
  obtain ⟨c1, c2, c3, _⟩ := hD
  refine ⟨?_, ?_, h3, ?_, ?_, fun k hk => ?_, fun k hk g hg => ?_, fun k hk => ?_⟩
  · rw [f _ _ (by omega) (by omega) (by omega) (by omega) (by omega)]; exact h1
  · rw [f _ _ (by omega) (by omega) (by omega) (by omega) (by omega)]; exact h2
  · rw [f _ _ (by omega) (by omega) (by omega) (by omega) (by omega)]; exact h4
  · rw [f _ _ (by omega) (by omega) (by omega) (by omega) (by omega)]; exact h5
  · have hk : k < nW D := hk
    refine ⟨?_, fun g g1 g2 => ?_⟩
    · rw [f _ _ (by omega) (by omega) (by omega) (by omega) (by omega)]; exact (hw k (by omega)).1
    · rw [f _ _ (by omega) (by omega) (by omega) (by omega) (by omega)]; exact (hw k (by omega)).2 g g1 g2
  · have hk : k < nB D := hk
    rw [f _ _ (by omega) (by omega) (by omega) (by omega) (by omega)]; exact hb k hk g hg
  · have hk : k < nO D + 1 := hk
    show (∀ f, f < 4 → gI v (a + 16 + 2 * k) f = (if k = nO D then V else dO D k) f) ∧ ∀ t, t < 3 → gI v (a + 17 + 2 * k) t = (if k = nO D then V else dO D k) (4 + t)
    by_cases e : k = nO D
    · rw [if_pos e, e]
      exact ⟨hv, hv2⟩
    · rw [if_neg e]
      refine ⟨fun g hg => ?_, fun g hg => ?_⟩
      · rw [f _ _ (by omega) (by omega) (by omega) (by omega) (by omega)]; exact (ho k (by omega)).1 g hg
      · rw [f _ _ (by omega) (by omega) (by omega) (by omega) (by omega)]; exact (ho k (by omega)).2 g hg
theorem c_readWall {Q : Mm → Prop} {z a : Nat} {t : Tk} {D : Ld} {p lv : Int32} (h : HC0 G u z) (hn : n ≤ 700) (hc : ∀ i, c i < 256) (hT : CT z c n t u) (h0 : kC t = 0) (ra : gR u (z + 1) 3 = a) (ha : z + 3 ≤ a) (hL : LR G u a) (hC : CL u a D) (hD : okD D) (hp : p = if lv = 1 then 0 else 1) (hQ : ∀ u', Fx (inL z a) u u' → CT z c n (ln0 c n D t) u' → (kC (ln0 c n D t) = 0 → CL u' a (ldW D (wlV c n lv (nxt c n t)))) → Q u') : V_X8_readWall G (z + 1) p u Q := by
  have k8 : kd G (z + 1) = 8 := h.2.1.2.1
  obtain ⟨l0, lk, l1, l1n, l1r, l2, l2n, l2r, l3, l3n, l3r, lw, lo⟩ := id hL
  have cnt := hC.1
  have n6 := hD.1
  refine ⟨k8, by rw [ra]; omega, by rw [ra]; exact lk, ?_⟩
  rw [ra, cnt]
  refine ⟨fun q => ?_, fun q => ?_⟩
  · have q : nW D < 6 := (nI_ltI (b := 6) (by omega) (by omega)).mp q
    unfold ln0 at hQ
    rw [if_pos q] at hQ
    obtain ⟨w1, w2, _⟩ := lw (nW D) q
    refine c_step h hn hc hT h0 (fun u1 f1 T1 => ?_)
    have e1 : gI u1 a 3 = nI (nW D) := by rw [f1.2 _ _ (by unfold inC6; omega)]; exact cnt
    rw [f1.gR, ra, f1.gR, l1r, e1, f1.gR, nI_clamp (by omega), w2]
    refine ⟨by omega, lk, by omega, l1, by rw [l1n]; exact vp_in_nI (by omega) (by omega), by omega, fun x hx => ?_⟩
    subst hx
    refine ⟨w1, by rw [hp]; split; exact Or.inl rfl; exact Or.inr rfl, fun u2 e2 => ?_⟩
    have f2 : Fx (fun b i => b = a + 2 + nW D ∧ i = 0) u1 u2 := by rw [e2]; exact Fx.put ⟨rfl, rfl⟩
    have F2 : Fx (inX z (a + 2 + nW D)) u u2 := (f1.mono c6_X).trans (f2.mono (fun b i q => Or.inr q.1))
    have T2 := T1.fx f2 (fun b i q => by omega)
    have z2 : gI u2 (a + 2 + nW D) 0 = p := by rw [e2, gI_sI, if_pos ⟨rfl, rfl⟩]
    clear e2 f2
    have go : ∀ (w w' : Mm) (i : Nat), 0 < i → Fx (sto z (a + 2 + nW D) i) w w' → gI w (a + 2 + nW D) 0 = p → gI w' (a + 2 + nW D) 0 = p := by
      intro w w' i hi f e
      rw [f.2 _ _ (by unfold sto inC6; omega)]
      exact e
    refine c_num (x := a + 2 + nW D) (lo := 0) (hi := 40) (fl := 0) (b := 1) (j := 0) (V := fun f => wlV c n lv (nxt c n t) (1 + f)) (h.fx F2) hn hc T2 rfl rfl (by omega) (by omega) (fun _ v _ hv => nI_fl (fl := 0) (by omega) hv) (fun _ f hf => absurd hf (by omega)) rfl (by omega) rfl (fun v _ _ go1 u3 e3 => ?_)
    obtain ⟨f3, T3, H3⟩ := go1 u3 e3
    have F3 := F2.trans (f3.mono sto_X)
    have z3 := go _ _ _ (by omega) f3 z2
    clear go1 e3 f3
    refine c_num (x := a + 2 + nW D) (lo := 0) (hi := 40) (fl := 0) (b := 1) (j := 1) (V := fun f => wlV c n lv (nxt c n t) (1 + f)) (h.fx F3) hn hc T3 rfl rfl (by omega) (by omega) (fun _ v _ hv => nI_fl (fl := 0) (by omega) hv) H3 rfl (by omega) rfl (fun v _ _ go1 u4 e4 => ?_)
    obtain ⟨f4, T4, H4⟩ := go1 u4 e4
    have F4 := F3.trans (f4.mono sto_X)
    have z4 := go _ _ _ (by omega) f4 z3
    clear go1 e4 f4
    refine c_num (x := a + 2 + nW D) (lo := 0) (hi := 40) (fl := rdV c n (wl1 c n (nxt c n t)) + 1) (b := 1) (j := 2) (V := fun f => wlV c n lv (nxt c n t) (1 + f)) (h.fx F4) hn hc T4 rfl rfl (by omega) (by omega) (fun q0 v _ hv => ?_) H4 rfl (by omega) rfl (fun v _ _ go1 u5 e5 => ?_)
    · have v4 : gI u4 (a + 2 + nW D) 2 = nI (rdV c n (wl1 c n (nxt c n t))) := H4 q0 1 (by omega)
      rw [v4, nI_1]
      have : rdV c n (wl1 c n (nxt c n t)) ≤ 40 := (rdT_0 q0).2.2.1
      exact nI_fl (by omega) hv
    obtain ⟨f5, T5, H5⟩ := go1 u5 e5
    have F5 := F4.trans (f5.mono sto_X)
    have z5 := go _ _ _ (by omega) f5 z4
    clear go1 e5 f5
    refine c_loss (x := a + 2 + nW D) (b := 1) (j := 3) (V := fun f => wlV c n lv (nxt c n t) (1 + f)) (h.fx F5) hn hc T5 H5 rfl (by omega) rfl (fun v _ _ go1 u6 e6 => ?_)
    obtain ⟨f6, T6, H6⟩ := go1 u6 e6
    have F6 := F5.trans (f6.mono sto_X)
    have z6 := go _ _ _ (by omega) f6 z5
    clear go1 e6 f6
    refine c_readSign (h.fx F6) hn hc T6 (fun u7 f7 T7 => ?_)
    have F7 := F6.trans (f7.mono c6_X)
    rw [F7.gR, ra]
    refine ⟨by omega, lk, fun u8 e8 => ?_⟩
    have y3 : gI u7 a 3 = nI (nW D) := by rw [F7.2 _ _ (by unfold inX inC6; omega)]; exact cnt
    rw [y3, nI_1] at e8
    have f8 : Fx (fun b i => b = a ∧ i = 3) u7 u8 := by rw [e8]; exact Fx.put ⟨rfl, rfl⟩
    refine hQ u8 ((F7.mono (fun b i q => by unfold inX inC6 at q; unfold inL; omega)).trans (f8.mono (fun b i q => by unfold inL; omega))) (T7.fx f8 (fun b i q => by omega)) (fun q0 => ?_)
    have H7 := H6 (sgT_0 q0)
    refine hC.addW hD q (fun b i g1 g2 g3 g4 => ?_) ?_ ?_ (fun f g1 g2 => ?_)
    · rw [f8.2 _ _ (by omega), F7.2 _ _ (by unfold inX inC6; omega)]
    · rw [e8, gI_sI, if_pos ⟨rfl, rfl⟩]
    · rw [f8.2 _ _ (by omega), f7.2 _ _ (by unfold inC6; omega), z6, hp]; rfl
    · rw [f8.2 _ _ (by omega), f7.2 _ _ (by unfold inC6; omega)]
      have : gI u6 (a + 2 + nW D) (1 + (f - 1)) = wlV c n lv (nxt c n t) (1 + (f - 1)) := H7 (f - 1) (by omega)
      rw [show 1 + (f - 1) = f by omega] at this
      exact this
  · unfold ln0 at hQ
    have q : ¬ nW D < 6 := fun r => q ((nI_ltI (b := 6) (by omega) (by omega)).mpr r)
    rw [if_neg q] at hQ
    exact c_refuse (k := 2) h hT h0 (by omega) (by omega) (fun u' f T => hQ u' (f.mono c6_L) T (fun r => absurd r (by unfold kC flt4; omega)))
theorem c_readBarn {Q : Mm → Prop} {z a : Nat} {t : Tk} {D : Ld} (h : HC0 G u z) (hn : n ≤ 700) (hc : ∀ i, c i < 256) (hT : CT z c n t u) (h0 : kC t = 0) (ra : gR u (z + 1) 3 = a) (ha : z + 3 ≤ a) (hL : LR G u a) (hC : CL u a D) (hD : okD D) (hQ : ∀ u', Fx (inL z a) u u' → CT z c n (ln2 c n D t) u' → (kC (ln2 c n D t) = 0 → CL u' a (ldB D (bnV c n (nxt c n t)))) → Q u') : V_X8_readBarn G (z + 1) u Q := by
  have k8 : kd G (z + 1) = 8 := h.2.1.2.1
  obtain ⟨l0, lk, l1, l1n, l1r, l2, l2n, l2r, l3, l3n, l3r, lw, lo⟩ := id hL
  have cnt := hC.2.1
  have n6 := hD.2.1
  refine ⟨k8, by rw [ra]; omega, by rw [ra]; exact lk, ?_⟩
  rw [ra, cnt]
  refine ⟨fun q => ?_, fun q => ?_⟩
  · have q : nB D < 6 := (nI_ltI (b := 6) (by omega) (by omega)).mp q
    unfold ln2 at hQ
    rw [if_pos q] at hQ
    obtain ⟨_, _, w1, w2⟩ := lw (nB D) q
    refine c_step h hn hc hT h0 (fun u1 f1 T1 => ?_)
    have e1 : gI u1 a 4 = nI (nB D) := by rw [f1.2 _ _ (by unfold inC6; omega)]; exact cnt
    rw [f1.gR, ra, f1.gR, l2r, e1, f1.gR, nI_clamp (by omega), w2]
    refine ⟨by omega, lk, by omega, l2, by rw [l2n]; exact vp_in_nI (by omega) (by omega), by omega, fun x hx => ?_⟩
    subst hx
    have F2 : Fx (inX z (a + 9 + nB D)) u u1 := f1.mono c6_X
    -- the sign at the line's end
    have last : ∀ w, Fx (inX z (a + 9 + nB D)) u w → CT z c n (bn6 c n (nxt c n t)) w → (kC (bn6 c n (nxt c n t)) = 0 → Hd w (a + 9 + nB D) 0 5 (bnV c n (nxt c n t))) → V_X8_readBarn_121 G Q (z + 1) w := by
      intro w F6 T6 H6
      unfold V_X8_readBarn_121
      refine ⟨k8, c_readSign (h.fx F6) hn hc T6 (fun u7 f7 T7 => ?_)⟩
      have F7 := F6.trans (f7.mono c6_X)
      rw [F7.gR, ra]
      refine ⟨by omega, lk, fun u8 e8 => ?_⟩
      have y3 : gI u7 a 4 = nI (nB D) := by rw [F7.2 _ _ (by unfold inX inC6; omega)]; exact cnt
      rw [y3, nI_1] at e8
      have f8 : Fx (fun b i => b = a ∧ i = 4) u7 u8 := by rw [e8]; exact Fx.put ⟨rfl, rfl⟩
      refine hQ u8 ((F7.mono (fun b i q => by unfold inX inC6 at q; unfold inL; omega)).trans (f8.mono (fun b i q => by unfold inL; omega))) (T7.fx f8 (fun b i q => by omega)) (fun q0 => ?_)
      have H7 := H6 (sgT_0 q0)
      refine hC.addB hD q (fun b i g1 g2 g3 g4 => ?_) ?_ (fun f g1 => ?_)
      · rw [f8.2 _ _ (by omega), F7.2 _ _ (by unfold inX inC6; omega)]
      · rw [e8, gI_sI, if_pos ⟨rfl, rfl⟩]
      · rw [f8.2 _ _ (by omega), f7.2 _ _ (by unfold inC6; omega)]
        have : gI w (a + 9 + nB D) (0 + f) = bnV c n (nxt c n t) f := H7 f g1
        rw [Nat.zero_add] at this
        exact this
    refine c_num (x := a + 9 + nB D) (lo := 0) (hi := 40) (fl := 0) (b := 0) (j := 0) (V := bnV c n (nxt c n t)) (h.fx F2) hn hc T1 rfl rfl (by omega) (by omega) (fun _ v _ hv => nI_fl (fl := 0) (by omega) hv) (fun _ f hf => absurd hf (by omega)) rfl (by omega) rfl (fun v _ _ go1 => ⟨w1, fun u3 e3 => ?_⟩)
    obtain ⟨f3, T3, H3⟩ := go1 u3 e3
    have F3 := F2.trans (f3.mono sto_X)
    clear go1 e3 f3
    refine c_num (x := a + 9 + nB D) (lo := 0) (hi := 40) (fl := 0) (b := 0) (j := 1) (V := bnV c n (nxt c n t)) (h.fx F3) hn hc T3 rfl rfl (by omega) (by omega) (fun _ v _ hv => nI_fl (fl := 0) (by omega) hv) H3 rfl (by omega) rfl (fun v _ _ go1 u4 e4 => ?_)
    obtain ⟨f4, T4, H4⟩ := go1 u4 e4
    have F4 := F3.trans (f4.mono sto_X)
    clear go1 e4 f4
    refine c_loss (x := a + 9 + nB D) (b := 0) (j := 2) (V := bnV c n (nxt c n t)) (h.fx F4) hn hc T4 H4 rfl (by omega) rfl (fun v _ _ go1 u5 e5 u6 e6 u7 e7 => ?_)
    obtain ⟨f5, T5, H5⟩ := go1 u5 e5
    have F5 := F4.trans (f5.mono sto_X)
    clear go1 e5 f5
    have f7 : Fx (fun b i => b = a + 9 + nB D ∧ 3 ≤ i) u5 u7 := by
      rw [e7, e6]
      exact (Fx.put (by omega)).trans (Fx.put (by omega))
    have F7 := F5.trans (f7.mono (fun b i q => Or.inr q.1))
    have T7 : CT z c n (bn3 c n (nxt c n t)) u7 := T5.fx f7 (fun b i q => by omega)
    have H7 : kC (bn3 c n (nxt c n t)) = 0 → Hd u7 (a + 9 + nB D) 0 3 (bnV c n (nxt c n t)) := fun q0 f hf => by rw [f7.2 _ _ (by omega)]; exact H5 q0 f hf
    refine c_isWord (by omega) (h.fx F7) hn hc T7 (fun w => ⟨fun r => absurd r (by decide), fun _ => ?_⟩) (fun w => ⟨fun _ => ?_, fun r => absurd rfl r⟩)
    · have eb : bn6 c n (nxt c n t) = bn5 c n (nxt c n t) := by
        unfold bn6
        rw [if_pos w]
      rw [eb] at last
      have hv3 : bnV c n (nxt c n t) 3 = nI (rdV c n (nxt c n (bn3 c n (nxt c n t)))) := by
        show (if isW c n 6 (bn3 c n (nxt c n t)) = true then _ else _) = _
        rw [if_pos w]
      have hv4 : bnV c n (nxt c n t) 4 = nI (rdV c n (bn4 c n (nxt c n t))) := by
        show (if isW c n 6 (bn3 c n (nxt c n t)) = true then _ else _) = _
        rw [if_pos w]
      have q0 := isW_0 w
      refine c_step (h.fx F7) hn hc T7 q0 (fun u8 f8 T8 => ?_)
      have F8 := F7.trans (f8.mono c6_X)
      refine c_num (x := a + 9 + nB D) (lo := 0) (hi := 99) (fl := 0) (b := 0) (j := 3) (V := bnV c n (nxt c n t)) (h.fx F8) hn hc T8 rfl rfl (by omega) (by omega) (fun _ v _ hv => nI_fl (fl := 0) (by omega) hv) (fun _ f hf => by rw [f8.2 _ _ (by unfold inC6; omega)]; exact H7 q0 f hf) hv3 (by omega) rfl (fun v _ _ go1 u9 e9 => ?_)
      obtain ⟨f9, T9, H9⟩ := go1 u9 e9
      have F9 := F8.trans (f9.mono sto_X)
      clear go1 e9 f9
      refine c_num (x := a + 9 + nB D) (lo := 0) (hi := 99) (fl := rdV c n (nxt c n (bn3 c n (nxt c n t)))) (b := 0) (j := 4) (V := bnV c n (nxt c n t)) (h.fx F9) hn hc T9 rfl rfl (by omega) (by omega) (fun q1 v _ hv => ?_) H9 hv4 (by omega) rfl (fun v _ _ go1 u10 e10 => ?_)
      · have v4 : gI u9 (a + 9 + nB D) 3 = nI (rdV c n (nxt c n (bn3 c n (nxt c n t)))) := (H9 q1 3 (by omega)).trans hv3
        rw [v4]
        have : rdV c n (nxt c n (bn3 c n (nxt c n t))) ≤ 99 := (rdT_0 q1).2.2.1
        exact nI_fl (by omega) hv
      · obtain ⟨f10, T10, H10⟩ := go1 u10 e10
        exact last u10 (F9.trans (f10.mono sto_X)) T10 H10
    · have eb : bn6 c n (nxt c n t) = bn3 c n (nxt c n t) := by
        unfold bn6
        rw [if_neg (by rw [w]; decide)]
      rw [eb] at last
      refine last u7 F7 T7 (fun q0 f hf => ?_)
      by_cases g : f < 3
      · exact H7 q0 f g
      · by_cases g3 : f = 3
        · rw [g3, e7, gI_sI, if_neg (by omega), e6, gI_sI, if_pos ⟨rfl, rfl⟩]
          show _ = (if isW c n 6 (bn3 c n (nxt c n t)) = true then _ else _)
          rw [if_neg (by rw [w]; decide)]
        · rw [show f = 4 by omega, e7, gI_sI, if_pos ⟨rfl, rfl⟩]
          show _ = (if isW c n 6 (bn3 c n (nxt c n t)) = true then _ else _)
          rw [if_neg (by rw [w]; decide)]
  · unfold ln2 at hQ
    have q : ¬ nB D < 6 := fun r => q ((nI_ltI (b := 6) (by omega) (by omega)).mpr r)
    rw [if_neg q] at hQ
    exact c_refuse (k := 2) h hT h0 (by omega) (by omega) (fun u' f T => hQ u' (f.mono c6_L) T (fun r => absurd r (by unfold kC flt4; omega)))
end LINES
