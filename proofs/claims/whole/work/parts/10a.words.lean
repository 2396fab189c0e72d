/-! WORDS of the mathematics: branches as ifs, small numbers, bits -/
theorem iteI {c : Prop} [Decidable c] {A B : Prop} : ((c → A) ∧ (¬ c → B)) ↔ (if c then A else B) := by
  by_cases h : c
  · simp [h]
  · simp [h]
theorem ab_sq (x : Int32) : ab x * ab x = x * x := by
  unfold ab
  split
  · rfl
  · grind
theorem shl_1 : ∀ k, k < 31 → shl (1 : Int32) (nI k) = nI (2 ^ k) := by decide +kernel
theorem shr_N {n j : Nat} (hn : n < 2 ^ 31) (hj : j < 32) : shr (nI n) (nI j) = nI (n / 2 ^ j) := by
  unfold shr
  refine pk_shrN hn _ j ?_
  revert j
  decide +kernel
theorem ush_N {n j : Nat} (hn : n < 2 ^ 31) (hj : j < 32) : ush (nI n) (nI j) = nI (n / 2 ^ j) := by
  unfold ush
  refine pk_ushrN (by omega) _ j ?_
  revert j
  decide +kernel
theorem and_1 {n : Nat} (hn : n < 2 ^ 31) : nI n &&& (1 : Int32) = nI (n % 2) := pk_andN (by omega) 1 (by decide)
theorem tb_mod (n j : Nat) : (n / 2 ^ j) % 2 = if n.testBit j then 1 else 0 := by
  rw [Nat.testBit_eq_decide_div_mod_eq]
  rcases Nat.mod_two_eq_zero_or_one (n / 2 ^ j) with h | h <;> simp [h]
/-- a bit, by the arithmetic shift -/
theorem bit_s {n j : Nat} (hn : n < 2 ^ 31) (hj : j < 32) : shr (nI n) (nI j) &&& (1 : Int32) = if n.testBit j then 1 else 0 := by
  rw [shr_N hn hj, and_1 (Nat.lt_of_le_of_lt (Nat.div_le_self _ _) hn), tb_mod]
  split <;> rfl
/-- a bit, by the other shift -/
theorem bit_u {n j : Nat} (hn : n < 2 ^ 31) (hj : j < 32) : ush (nI n) (nI j) &&& (1 : Int32) = if n.testBit j then 1 else 0 := by
  rw [ush_N hn hj, and_1 (Nat.lt_of_le_of_lt (Nat.div_le_self _ _) hn), tb_mod]
  split <;> rfl
/-- bits, as many as told -/
def bts (f : Nat → Bool) : Nat → Nat
  | 0 => 0
  | n + 1 => bts f n + (if f n then 2 ^ n else 0)
theorem bts_lt (f : Nat → Bool) : ∀ n, bts f n < 2 ^ n
  | 0 => by simp [bts]
  | n + 1 => by
    have := bts_lt f n
    rw [bts, Nat.pow_succ]
    split <;> omega
theorem bts_or {f : Nat → Bool} {n : Nat} : bts f n ||| 2 ^ n = bts f n + 2 ^ n := by
  have := Nat.two_pow_add_eq_or_of_lt (bts_lt f n) 1
  rw [Nat.mul_one] at this
  rw [Nat.or_comm, ← this, Nat.add_comm]
theorem bts_bit (f : Nat → Bool) : ∀ n j, (bts f n).testBit j = (decide (j < n) && f j)
  | 0, j => by simp [bts]
  | n + 1, j => by
    have ih := bts_bit f n j
    have hl := bts_lt f n
    rw [bts]
    by_cases h : f n
    · rw [if_pos h, ← bts_or, Nat.testBit_or, ih, Nat.testBit_two_pow]
      by_cases e : n = j
      · subst e; simp [h]
      · have : (j < n + 1) ↔ (j < n) := by omega
        simp [e, this]
    · rw [if_neg h, Nat.add_zero, ih]
      by_cases e : j = n
      · subst e; simp [h]
      · have : (j < n + 1) ↔ (j < n) := by omega
        simp [this]
/-- a tone, a year: told by bounds -/
def bI (b : Bool) : Int32 := if b then 1 else 0
theorem bI_0 {b : Bool} : bI b = 0 ↔ b = false := by cases b <;> decide
theorem bI_01 (b : Bool) : bI b = 0 ∨ bI b = 1 := by cases b <;> decide
theorem nI_litS (n : Nat) (x : Nat) : (OfNat.ofNat n : Int32) + nI x = nI (n + x) := nI_add n x
theorem nI_litM (n : Nat) (x : Nat) : (OfNat.ofNat n : Int32) * nI x = nI (n * x) := pk_mul n x
theorem nI_litR (n : Nat) (x : Nat) : nI x * (OfNat.ofNat n : Int32) = nI (x * n) := pk_mul x n
theorem nI_litA (n : Nat) (x : Nat) : nI x + (OfNat.ofNat n : Int32) = nI (x + n) := nI_add x n
