/-! BITS of things -/
def pcf : Nat → Nat → Nat
  | 0, _ => 0
  | k + 1, n => n % 2 + pcf k (n / 2)
def pc (n : Nat) : Nat := pcf 14 n
def bcI (p : Int32) : Int32 :=
  let a := p - ((ush p (1 : Int32)) &&& (1431655765 : Int32))
  let b := (a &&& (858993459 : Int32)) + ((ush a (2 : Int32)) &&& (858993459 : Int32))
  let c := (b + (ush b (4 : Int32))) &&& (252645135 : Int32)
  let d := c + (ush c (8 : Int32))
  let e := d + (ush d (16 : Int32))
  e &&& (63 : Int32)
theorem bc_64 : ∀ a, a < 64 → ∀ b, b < 64 → bcI (nI (64 * a + b)) = nI (pc (64 * a + b)) := by decide +kernel
theorem bc_all {n : Nat} (h : n < 4096) : bcI (nI n) = nI (pc n) := by
  have := bc_64 (n / 64) (by omega) (n % 64) (by omega)
  rw [show 64 * (n / 64) + n % 64 = n by omega] at this
  exact this
theorem s_bitCount {G : Gx} {u : Mm} {Q : Int32 → Mm → Prop} {n : Nat} (hn : n < 4096) (h : Q (nI (pc n)) u) : V_J6_bitCount_0f7a4 G (nI n) u Q := by
  intro a ha b hb c hc d hd e he
  have : (e &&& (63 : Int32)) = bcI (nI n) := by rw [he, hd, hc, hb, ha]; rfl
  rw [this, bc_all hn]
  exact h
theorem pc_128 : ∀ a, a < 128 → ∀ b, b < 128 → (128 * a + b = 0 ∨ (pc ((128 * a + b) &&& (128 * a + b - 1)) + 1 = pc (128 * a + b) ∧ (128 * a + b) &&& (128 * a + b - 1) < 128 * a + b)) := by decide +kernel
theorem pc_step {n : Nat} (h : n < 16384) (h0 : n ≠ 0) : pc (n &&& (n - 1)) + 1 = pc n ∧ n &&& (n - 1) < n := by
  have := pc_128 (n / 128) (by omega) (n % 128) (by omega)
  rw [show 128 * (n / 128) + n % 128 = n by omega] at this
  rcases this with q | q
  · exact absurd q h0
  · exact q
theorem pcf_le : ∀ k n, pcf k n ≤ k
  | 0, n => Nat.le_refl _
  | k + 1, n => by
    have := pcf_le k (n / 2)
    show n % 2 + pcf k (n / 2) ≤ k + 1
    omega
theorem pc_le (n : Nat) : pc n ≤ 14 := pcf_le 14 n
theorem pc_0 : pc 0 = 0 := by decide
theorem fa_and2 (a b : Nat) : nI a &&& nI b = nI (a &&& b) := fa_and a b
theorem s_bitsOf {G : Gx} {u : Mm} {Q : Int32 → Mm → Prop} {n : Nat} (hn : n < 16384) (h : Q (nI (pc n)) u) : V_X12_bitsOf G (nI n) u Q := by
  suffices go : ∀ (k c n : Nat), n ≤ k → n < 16384 → Q (nI (c + pc n)) u → V_X12_bitsOf_4 G Q (k + 1) (nI c) (nI n) u from ⟨n + 1, go n 0 n (Nat.le_refl _) hn (by rw [Nat.zero_add]; exact h)⟩
  intro k
  induction k with
  | zero =>
    intro c n hk hn hq
    have : n = 0 := by omega
    subst this
    show V_X12_bitsOf_4_B G Q (V_X12_bitsOf_4 G Q 0) (nI c) (nI 0) u
    unfold V_X12_bitsOf_4_B
    rw [pc_0] at hq
    exact ⟨fun _ => hq, fun q => absurd rfl q⟩
  | succ k ih =>
    intro c n hk hn hq
    show V_X12_bitsOf_4_B G Q (V_X12_bitsOf_4 G Q (k + 1)) (nI c) (nI n) u
    unfold V_X12_bitsOf_4_B
    refine ⟨fun e => ?_, fun ne y1 e1 y2 e2 => ?_⟩
    · have : n = 0 := nI_inj (b := 0) (by omega) (by omega) e
      subst this
      rw [pc_0] at hq
      exact hq
    · have n0 : n ≠ 0 := fun e => ne (by rw [e]; rfl)
      obtain ⟨p1, p2⟩ := pc_step hn n0
      have e3 : nI n - (1 : Int32) = nI (n - 1) := pk_sub (a := n) (b := 1) (by omega)
      rw [e3, fa_and2] at e2
      rw [e1, nI_1, e2]
      refine ih (c + 1) _ (by omega) (by omega) ?_
      rw [show c + 1 + pc (n &&& (n - 1)) = c + pc n by omega]
      exact hq
/-- the set of things, as the class tells it -/
def tbN (k s : Nat) : Nat := s % 2 ^ k + 256 * (s / 2 ^ k)
theorem or_256 {a q : Nat} (h : a < 256) : a ||| (q * 256) = a + 256 * q := by
  have := Nat.two_pow_add_eq_or_of_lt (i := 8) h q
  rw [Nat.or_comm, Nat.mul_comm q 256]
  rw [show (2 : Nat) ^ 8 = 256 from rfl] at this
  omega
theorem pow6 {k : Nat} (h : k ≤ 6) : 0 < 2 ^ k ∧ 2 ^ k ≤ 64 := ⟨Nat.pow_pos (by omega), by have := Nat.pow_le_pow_right (n := 2) (by omega) h; omega⟩
theorem s_thingBits {G : Gx} {u : Mm} {Q : Int32 → Mm → Prop} {k s : Nat} (hk : k ≤ 6) (hs : s < 4096) (h : Q (nI (tbN k s)) u) : V_X11_thingBits G (nI s) (nI k) u Q := by
  obtain ⟨p0, p6⟩ := pow6 hk
  unfold V_X11_thingBits
  have e1 : shl (1 : Int32) (nI k) - (1 : Int32) = nI (2 ^ k - 1) := by
    rw [shl_1 k (by omega)]
    exact pk_sub (a := 2 ^ k) (b := 1) p0
  have e2 : nI s &&& nI (2 ^ k - 1) = nI (s % 2 ^ k) := pk_andN (by omega) k (pk_tn (by omega))
  have hm := Nat.mod_lt s p0
  have hq : s / 2 ^ k < 4096 := Nat.lt_of_le_of_lt (Nat.div_le_self _ _) hs
  have e3 : shl (nI (s / 2 ^ k)) (8 : Int32) = nI (s / 2 ^ k * 2 ^ 8) := by
    unfold shl
    exact pk_shlN _ 8 (by decide) (by omega)
  rw [e1, e2, ush_N (by omega) (by omega), e3, fa_or, show (2 : Nat) ^ 8 = 256 from rfl, or_256 (by omega)]
  exact h
theorem pc_tb0 : ∀ k, k < 7 → ∀ a, a < 64 → a < 2 ^ k → ∀ q, q < 64 → pc (a + 256 * q) = pc (a + 2 ^ k * q) := by decide +kernel
def subT (b w aw : Nat) : Prop := aw % 256 < 2 ^ b ∧ aw / 256 < 2 ^ w
theorem tb_sub {b w s : Nat} (hb : b ≤ 6) (hw : w ≤ 6) (hs : s < 2 ^ (b + w)) : subT b w (tbN b s) ∧ pc (tbN b s) = pc s ∧ tbN b s < 16384 := by
  obtain ⟨p0, p6⟩ := pow6 hb
  obtain ⟨q0, q6⟩ := pow6 hw
  have hm := Nat.mod_lt s p0
  have hd : s / 2 ^ b < 2 ^ w := by
    rw [Nat.div_lt_iff_lt_mul p0, Nat.mul_comm, ← Nat.pow_add]
    exact hs
  have e := Nat.div_add_mod s (2 ^ b)
  refine ⟨⟨?_, ?_⟩, ?_, ?_⟩
  · unfold tbN; omega
  · unfold tbN; omega
  · have := pc_tb0 b (by omega) (s % 2 ^ b) (by omega) hm (s / 2 ^ b) (by omega)
    unfold tbN
    rw [this]
    congr 1
    omega
  · unfold tbN; omega
theorem sub_tb {b w aw : Nat} (hb : b ≤ 6) (hw : w ≤ 6) (h : subT b w aw) : ∃ s, s < 2 ^ (b + w) ∧ tbN b s = aw := by
  obtain ⟨p0, p6⟩ := pow6 hb
  obtain ⟨q0, q6⟩ := pow6 hw
  obtain ⟨h1, h2⟩ := h
  refine ⟨aw % 256 + 2 ^ b * (aw / 256), ?_, ?_⟩
  · rw [Nat.pow_add]
    calc aw % 256 + 2 ^ b * (aw / 256) < 2 ^ b + 2 ^ b * (aw / 256) := by omega
      _ = 2 ^ b * (aw / 256 + 1) := by rw [Nat.mul_add, Nat.mul_one]; omega
      _ ≤ 2 ^ b * 2 ^ w := Nat.mul_le_mul_left _ h2
  · unfold tbN
    rw [Nat.add_mul_mod_self_left, Nat.mod_eq_of_lt h1, Nat.add_mul_div_left _ _ p0, Nat.div_eq_of_lt h1]
    omega
theorem tb_mono {b s t : Nat} (hb : b ≤ 6) (h : s < t) : tbN b s < tbN b t := by
  obtain ⟨p0, p6⟩ := pow6 hb
  have hs := Nat.mod_lt s p0
  have ht := Nat.mod_lt t p0
  have e1 := Nat.div_add_mod s (2 ^ b)
  have e2 := Nat.div_add_mod t (2 ^ b)
  have hd : s / 2 ^ b ≤ t / 2 ^ b := Nat.div_le_div_right (by omega)
  unfold tbN
  rcases Nat.lt_or_ge (s / 2 ^ b) (t / 2 ^ b) with q | q
  · omega
  · have : s / 2 ^ b = t / 2 ^ b := by omega
    rw [this] at e1 ⊢
    omega
theorem and_split {lo A hi W : Nat} (h1 : lo < 256) (h2 : A < 256) : (2 ^ 8 * hi + lo) &&& (2 ^ 8 * W + A) = 2 ^ 8 * (hi &&& W) + (lo &&& A) := by
  apply Nat.eq_of_testBit_eq
  intro j
  have h3 : lo &&& A < 2 ^ 8 := Nat.lt_of_le_of_lt Nat.and_le_left h1
  rw [Nat.testBit_and, Nat.testBit_two_pow_mul_add _ h1, Nat.testBit_two_pow_mul_add _ h2, Nat.testBit_two_pow_mul_add _ h3]
  split
  · rw [Nat.testBit_and]
  · rw [Nat.testBit_and]
theorem nI_cpl {b : Nat} (hb : b < 2 ^ 31) : nI b ^^^ (-1 : Int32) = nI (2 ^ 32 - (b + 1)) := by
  have e : (-1 : Int32) = nI (2 ^ 32 - 1) := by decide
  rw [e, fb_xorI]
  congr 1
  apply Nat.eq_of_testBit_eq
  intro j
  rw [Nat.testBit_xor, Nat.testBit_two_pow_sub_one, Nat.testBit_two_pow_sub_succ (by omega)]
  by_cases h : j < 32
  · simp [h]
  · have : b.testBit j = false := Nat.testBit_lt_two_pow (Nat.lt_of_lt_of_le hb (Nat.pow_le_pow_right (by omega) (by omega)))
    simp [h, this]
theorem and_cpl {a b : Nat} (ha : a < 2 ^ 31) (hb : b < 2 ^ 31) : (nI a &&& (nI b ^^^ (-1 : Int32))) = 0 ↔ a &&& b = a := by
  rw [nI_cpl hb, fa_and2]
  have hl : a &&& (2 ^ 32 - (b + 1)) < 2 ^ 31 := Nat.lt_of_le_of_lt Nat.and_le_left ha
  have e : (nI (a &&& (2 ^ 32 - (b + 1))) = 0) ↔ (a &&& (2 ^ 32 - (b + 1)) = 0) := nI_eq (b := 0) hl (by omega)
  rw [e]
  constructor
  · intro h
    apply Nat.eq_of_testBit_eq
    intro j
    have := congrArg (fun x => x.testBit j) h
    simp only [Nat.testBit_and, Nat.zero_testBit, Nat.testBit_two_pow_sub_succ (show b < 2 ^ 32 by omega)] at this
    rw [Nat.testBit_and]
    by_cases hj : j < 32
    · simp only [hj, decide_true, Bool.true_and] at this
      cases q : a.testBit j
      · rfl
      · rw [q] at this
        simpa using this
    · have : a.testBit j = false := Nat.testBit_lt_two_pow (Nat.lt_of_lt_of_le ha (Nat.pow_le_pow_right (by omega) (by omega)))
      rw [this]; rfl
  · intro h
    apply Nat.eq_of_testBit_eq
    intro j
    have := congrArg (fun x => x.testBit j) h
    simp only [Nat.testBit_and] at this
    rw [Nat.testBit_and, Nat.zero_testBit, Nat.testBit_two_pow_sub_succ (by omega)]
    cases q : a.testBit j
    · rfl
    · rw [q] at this
      have : b.testBit j = true := by simpa using this
      rw [this]; simp
def allT (b w : Nat) : Nat := 256 * (2 ^ w - 1) + (2 ^ b - 1)
theorem allT_lt {b w : Nat} (hb : b ≤ 6) (hw : w ≤ 6) : allT b w < 16384 := by
  obtain ⟨p0, p6⟩ := pow6 hb
  obtain ⟨q0, q6⟩ := pow6 hw
  unfold allT
  omega
theorem sub_and {b w aw : Nat} (hb : b ≤ 6) (hw : w ≤ 6) : aw &&& allT b w = aw ↔ subT b w aw := by
  obtain ⟨p0, p6⟩ := pow6 hb
  obtain ⟨q0, q6⟩ := pow6 hw
  have e : aw = 2 ^ 8 * (aw / 256) + aw % 256 := by show aw = 256 * (aw / 256) + aw % 256; omega
  have s := and_split (lo := aw % 256) (A := 2 ^ b - 1) (hi := aw / 256) (W := 2 ^ w - 1) (by omega) (by omega)
  rw [← e] at s
  unfold allT subT
  rw [show 256 * (2 ^ w - 1) + (2 ^ b - 1) = 2 ^ 8 * (2 ^ w - 1) + (2 ^ b - 1) from rfl, s, Nat.and_two_pow_sub_one_eq_mod, Nat.and_two_pow_sub_one_eq_mod]
  have m1 := Nat.mod_lt (aw % 256) p0
  have m2 := Nat.mod_lt (aw / 256) q0
  have l1 := Nat.mod_le (aw % 256) (2 ^ b)
  have l2 := Nat.mod_le (aw / 256) (2 ^ w)
  rw [show (2 : Nat) ^ 8 = 256 from rfl]
  constructor
  · intro h
    have e1 : aw / 256 % 2 ^ w = aw / 256 := by omega
    have e2 : aw % 256 % 2 ^ b = aw % 256 := by omega
    omega
  · rintro ⟨h1, h2⟩
    rw [Nat.mod_eq_of_lt h1, Nat.mod_eq_of_lt h2]
    omega
theorem sub_le {b w aw : Nat} (hb : b ≤ 6) (hw : w ≤ 6) (h : subT b w aw) : aw ≤ allT b w := by
  rw [← sub_and hb hw] at h
  rw [← h]
  exact Nat.and_le_right
theorem all_I {b w : Nat} (hb : b ≤ 6) (hw : w ≤ 6) : ((shl (1 : Int32) (nI b)) - (1 : Int32)) ||| (shl ((shl (1 : Int32) (nI w)) - (1 : Int32)) (8 : Int32)) = nI (allT b w) := by
  obtain ⟨p0, p6⟩ := pow6 hb
  obtain ⟨q0, q6⟩ := pow6 hw
  have e1 : shl (1 : Int32) (nI b) - (1 : Int32) = nI (2 ^ b - 1) := by
    rw [shl_1 b (by omega)]
    exact pk_sub (a := 2 ^ b) (b := 1) p0
  have e2 : shl (1 : Int32) (nI w) - (1 : Int32) = nI (2 ^ w - 1) := by
    rw [shl_1 w (by omega)]
    exact pk_sub (a := 2 ^ w) (b := 1) q0
  have e3 : shl (nI (2 ^ w - 1)) (8 : Int32) = nI ((2 ^ w - 1) * 2 ^ 8) := by
    unfold shl
    exact pk_shlN _ 8 (by decide) (by omega)
  rw [e1, e2, e3, fa_or, show (2 : Nat) ^ 8 = 256 from rfl, or_256 (by omega)]
  congr 1
  unfold allT
  omega
