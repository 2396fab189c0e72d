/-! LANDS: counts (walls, barns, woods), hears, air, walls (level, at, from, to, loss), barns (x, y, loss, from, to), woods (low x, low y, high x, high y, takes of three tones) -/
abbrev Ld : Type := (Nat → Nat) × Int32 × Int32 × (Nat → Nat → Int32) × (Nat → Nat → Int32) × (Nat → Nat → Int32)
def nW (D : Ld) : Nat := D.1 0
def nB (D : Ld) : Nat := D.1 1
def nO (D : Ld) : Nat := D.1 2
def hE (D : Ld) : Int32 := D.2.1
def aI (D : Ld) : Int32 := D.2.2.1
def dW (D : Ld) : Nat → Nat → Int32 := D.2.2.2.1
def dB (D : Ld) : Nat → Nat → Int32 := D.2.2.2.2.1
def dO (D : Ld) : Nat → Nat → Int32 := D.2.2.2.2.2
/-- between bounds -/
def btw (a b : Int) (x : Int32) : Prop := a ≤ x.toInt ∧ x.toInt ≤ b
def okD (D : Ld) : Prop := nW D ≤ 6 ∧ nB D ≤ 6 ∧ nO D ≤ 4 ∧ btw 0 1000 (hE D) ∧ btw 50 150 (aI D)
  ∧ (∀ k, k < nW D → (dW D k 0 = 0 ∨ dW D k 0 = 1) ∧ btw 0 40 (dW D k 1) ∧ btw 0 40 (dW D k 2) ∧ btw 0 40 (dW D k 3) ∧ btw 0 100 (dW D k 4))
  ∧ (∀ k, k < nB D → btw 0 40 (dB D k 0) ∧ btw 0 40 (dB D k 1) ∧ btw 0 100 (dB D k 2))
  ∧ (∀ k, k < nO D → btw 0 40 (dO D k 0) ∧ btw 0 40 (dO D k 1) ∧ btw 0 40 (dO D k 2) ∧ btw 0 40 (dO D k 3) ∧ ∀ t, t < 3 → btw 0 100 (dO D k (4 + t)))
/-- where a land's things lie in the class -/
def LR (G : Gx) (u : Mm) (a : Nat) : Prop := 0 < a ∧ kd G a = 4 ∧ kd G (a + 1) = 17 ∧ ln G (a + 1) = 6 ∧ gR u a 0 = a + 1 ∧ kd G (a + 8) = 18 ∧ ln G (a + 8) = 6 ∧ gR u a 1 = a + 8 ∧ kd G (a + 15) = 19 ∧ ln G (a + 15) = 4 ∧ gR u a 2 = a + 15
  ∧ (∀ k, k < 6 → kd G (a + 2 + k) = 9 ∧ gR u (a + 1) k = a + 2 + k ∧ kd G (a + 9 + k) = 0 ∧ gR u (a + 8) k = a + 9 + k)
  ∧ (∀ k, k < 4 → kd G (a + 16 + 2 * k) = 10 ∧ gR u (a + 15) k = a + 16 + 2 * k ∧ gR u (a + 16 + 2 * k) 4 = a + 17 + 2 * k ∧ kd G (a + 17 + 2 * k) = 13 ∧ ln G (a + 17 + 2 * k) = 3)
/-- what a land of the class holds -/
def CL (u : Mm) (a : Nat) (D : Ld) : Prop := gI u a 3 = nI (nW D) ∧ gI u a 4 = nI (nB D) ∧ gI u a 5 = nI (nO D) ∧ gI u a 6 = hE D ∧ gI u a 7 = aI D
  ∧ (∀ k, k < nW D → (gI u (a + 2 + k) 0 = if dW D k 0 = 1 then 0 else 1) ∧ ∀ f, 0 < f → f < 5 → gI u (a + 2 + k) f = dW D k f)
  ∧ (∀ k, k < nB D → ∀ f, f < 5 → gI u (a + 9 + k) f = dB D k f)
  ∧ (∀ k, k < nO D → (∀ f, f < 4 → gI u (a + 16 + 2 * k) f = dO D k f) ∧ ∀ t, t < 3 → gI u (a + 17 + 2 * k) t = dO D k (4 + t))
theorem CL.same {u u' : Mm} {a : Nat} {D : Ld} (h : CL u a D) (hD : okD D) (e : ∀ b j, a ≤ b → b < a + 24 → gI u' b j = gI u b j) : CL u' a D := by
  obtain ⟨h1, h2, h3, h4, h5, hw, hb, ho⟩ := h
  obtain ⟨c1, c2, c3, _⟩ := hD
  refine ⟨?_, ?_, ?_, ?_, ?_, fun k hk => ?_, fun k hk f hf => ?_, fun k hk => ?_⟩
  · rw [e _ _ (by omega) (by omega)]; exact h1
  · rw [e _ _ (by omega) (by omega)]; exact h2
  · rw [e _ _ (by omega) (by omega)]; exact h3
  · rw [e _ _ (by omega) (by omega)]; exact h4
  · rw [e _ _ (by omega) (by omega)]; exact h5
  · refine ⟨?_, fun f g1 g2 => ?_⟩
    · rw [e _ _ (by omega) (by omega)]; exact (hw k hk).1
    · rw [e _ _ (by omega) (by omega)]; exact (hw k hk).2 f g1 g2
  · rw [e _ _ (by omega) (by omega)]; exact hb k hk f hf
  · refine ⟨fun f g => ?_, fun t g => ?_⟩
    · rw [e _ _ (by omega) (by omega)]; exact (ho k hk).1 f g
    · rw [e _ _ (by omega) (by omega)]; exact (ho k hk).2 t g
/-- where the model's rows lie: m the model, z = m - 476 -/
def MR (G : Gx) (u : Mm) (m : Nat) : Prop := 0 < m ∧ kd G m = 12
  ∧ (kd G (m + 2) = 13 ∧ ln G (m + 2) = 7 ∧ gR u m 2 = m + 2) ∧ (kd G (m + 3) = 13 ∧ ln G (m + 3) = 7 ∧ gR u m 3 = m + 3) ∧ (kd G (m + 4) = 13 ∧ ln G (m + 4) = 7 ∧ gR u m 4 = m + 4)
  ∧ (kd G (m + 5) = 13 ∧ ln G (m + 5) = 7 ∧ gR u m 5 = m + 5) ∧ (kd G (m + 6) = 13 ∧ ln G (m + 6) = 7 ∧ gR u m 6 = m + 6)
  ∧ (kd G (m + 7) = 13 ∧ ln G (m + 7) = 280 ∧ gR u m 7 = m + 7) ∧ (kd G (m + 8) = 13 ∧ ln G (m + 8) = 280 ∧ gR u m 8 = m + 8) ∧ (kd G (m + 9) = 13 ∧ ln G (m + 9) = 196 ∧ gR u m 9 = m + 9)
/-- what a land of the model holds -/
def ML (u : Mm) (m l : Nat) (D : Ld) : Prop := gI u (m + 2) l = nI (nW D) ∧ gI u (m + 3) l = nI (nB D) ∧ gI u (m + 4) l = nI (nO D) ∧ gI u (m + 5) l = hE D ∧ gI u (m + 6) l = aI D
  ∧ (∀ k, k < nW D → ∀ f, f < 5 → gI u (m + 7) ((8 * l + k) * 5 + f) = dW D k f)
  ∧ (∀ k, k < nB D → ∀ f, f < 5 → gI u (m + 8) ((8 * l + k) * 5 + f) = dB D k f)
  ∧ (∀ k, k < nO D → ∀ f, f < 7 → gI u (m + 9) ((4 * l + k) * 7 + f) = dO D k f)
theorem ML.same {u u' : Mm} {m l : Nat} {D : Ld} (h : ML u m l D) (e : ∀ b j, m + 2 ≤ b → b < m + 10 → gI u' b j = gI u b j) : ML u' m l D := by
  obtain ⟨h1, h2, h3, h4, h5, hw, hb, ho⟩ := h
  refine ⟨?_, ?_, ?_, ?_, ?_, fun k hk f hf => ?_, fun k hk f hf => ?_, fun k hk f hf => ?_⟩
  · rw [e _ _ (by omega) (by omega)]; exact h1
  · rw [e _ _ (by omega) (by omega)]; exact h2
  · rw [e _ _ (by omega) (by omega)]; exact h3
  · rw [e _ _ (by omega) (by omega)]; exact h4
  · rw [e _ _ (by omega) (by omega)]; exact h5
  · rw [e _ _ (by omega) (by omega)]; exact hw k hk f hf
  · rw [e _ _ (by omega) (by omega)]; exact hb k hk f hf
  · rw [e _ _ (by omega) (by omega)]; exact ho k hk f hf
/-! GEOMETRY, as both sides tell it -/
/-- a wall at `at`, reaching from `fr` to `to`, between a and b across it, whose ways along it are c and d -/
def hid (t fr to a b c d : Int32) : Bool :=
  if t ≤ mn a b then false else if t < mx a b then (if (c * ab (b - a) + (d - c) * ab (t - a)) < fr * ab (b - a) then false else if to * ab (b - a) < (c * ab (b - a) + (d - c) * ab (t - a)) then false else true) else false
def hidW (D : Ld) (k : Nat) (x y x2 y2 : Int32) : Bool :=
  if dW D k 0 = 1 then hid (dW D k 1) (dW D k 2) (dW D k 3) y y2 x x2 else hid (dW D k 1) (dW D k 2) (dW D k 3) x x2 y y2
/-- the way to a wall's foot, 0 without one -/
def rch (D : Ld) (k : Nat) (x y : Int32) : Int32 :=
  if dW D k 0 = 1 then (if x < dW D k 2 then 0 else if dW D k 3 < x then 0 else dW D k 1 - y) else (if y < dW D k 2 then 0 else if dW D k 3 < y then 0 else dW D k 1 - x)
/-- a wood is met -/
def mts (a b c d x y x2 y2 : Int32) : Bool :=
  if mx x x2 < a then false else if c < mn x x2 then false else if mx y y2 < b then false else if mn y y2 ≤ d then
    (if mx ((y2 - y) * (a - x)) ((y2 - y) * (c - x)) < mn ((x2 - x) * (b - y)) ((x2 - x) * (d - y)) then false else if mx ((x2 - x) * (b - y)) ((x2 - x) * (d - y)) < mn ((y2 - y) * (a - x)) ((y2 - y) * (c - x)) then false else true) else false
def mtW (D : Ld) (k : Nat) (x y x2 y2 : Int32) : Bool := mts (dO D k 0) (dO D k 1) (dO D k 2) (dO D k 3) x y x2 y2
/-- what so many ways through a wood leave -/
def thr (t : Int32) : Nat → Int32 → Int32
  | 0, v => v
  | n + 1, v => thr t n (v * (100 - t) / 100)
/-- what the first woods leave -/
def wds (D : Ld) (x y x2 y2 : Int32) (tone times : Nat) : Nat → Int32 → Int32
  | 0, v => v
  | n + 1, v => (if mtW D n x y x2 y2 then thr (dO D n (4 + tone)) times (wds D x y x2 y2 tone times n v) else wds D x y x2 y2 tone times n v)
theorem btw_sub {a b c d : Int} {x y : Int32} (hx : btw a b x) (hy : btw c d y) (h1 : -2147483648 ≤ a - d) (h2 : b - c < 2147483648) : btw (a - d) (b - c) (x - y) ∧ (x - y).toInt = x.toInt - y.toInt := by
  unfold btw at *
  have := fb_subI (x := x) (y := y) (by omega) (by omega)
  omega
theorem mn_I (x y : Int32) : (mn x y).toInt = min x.toInt y.toInt := by
  unfold mn
  split
  · rename_i h; rw [fa_lt] at h; omega
  · rename_i h; rw [fa_lt] at h; omega
theorem mx_I (x y : Int32) : (mx x y).toInt = max x.toInt y.toInt := by
  unfold mx
  split
  · rename_i h; rw [fa_lt] at h; omega
  · rename_i h; rw [fa_lt] at h; omega
theorem ab_I {x : Int32} (h : -2147483648 < x.toInt) : (ab x).toInt = (x.toInt.natAbs : Int) := by
  unfold ab
  have z : (0 : Int32).toInt = 0 := by decide
  have := fb_rng x
  split
  · rename_i q; rw [fa_le, z] at q; omega
  · rename_i q; rw [fa_le, z] at q
    rw [fb_subI (by omega) (by omega), z]; omega
theorem mul_bd {x y : Int} {n : Int} (hx : -n ≤ x ∧ x ≤ n) (hy : -n ≤ y ∧ y ≤ n) (hn : 0 ≤ n) : -(n * n) ≤ x * y ∧ x * y ≤ n * n := by
  have e : (x * y).natAbs ≤ n.natAbs * n.natAbs := by
    rw [Int.natAbs_mul]
    exact Nat.mul_le_mul (by omega) (by omega)
  have e2 : ((n.natAbs * n.natAbs : Nat) : Int) = n * n := by
    rw [Int.natCast_mul]
    rw [show ((n.natAbs : Nat) : Int) = n by omega]
  omega
theorem mulI_bd {x y : Int32} {n : Int} (hx : btw (-n) n x) (hy : btw (-n) n y) (hn : 0 ≤ n) (hn2 : n * n < 2147483648) : (x * y).toInt = x.toInt * y.toInt ∧ btw (-(n * n)) (n * n) (x * y) := by
  have := mul_bd hx hy hn
  have e := fb_mulI (x := x) (y := y) (by omega) (by omega)
  refine ⟨e, ?_⟩
  unfold btw
  rw [e]
  exact this
