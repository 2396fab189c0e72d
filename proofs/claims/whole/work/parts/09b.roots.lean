/-! roots, cut down -/
theorem sq_succ (a : Nat) : (a + 1) * (a + 1) = a * a + 2 * a + 1 := by rw [Nat.add_mul, Nat.mul_add]; omega
theorem sq_mono {a b : Nat} (h : a ≤ b) : a * a ≤ b * b := Nat.mul_le_mul h h
def isq : Nat → Nat
  | 0 => 0
  | v + 1 => if (isq v + 1) * (isq v + 1) ≤ v + 1 then isq v + 1 else isq v
theorem isq_spec : ∀ v, isq v * isq v ≤ v ∧ v < (isq v + 1) * (isq v + 1)
  | 0 => by simp [isq]
  | v + 1 => by
    obtain ⟨h1, h2⟩ := isq_spec v
    have e1 := sq_succ (isq v)
    have e2 := sq_succ (isq v + 1)
    unfold isq
    by_cases c : (isq v + 1) * (isq v + 1) ≤ v + 1
    · rw [if_pos c]
      exact ⟨c, by omega⟩
    · rw [if_neg c]
      exact ⟨by omega, by omega⟩
theorem isq_uniq {v r : Nat} (h1 : r * r ≤ v) (h2 : v < (r + 1) * (r + 1)) : isq v = r := by
  obtain ⟨a1, a2⟩ := isq_spec v
  rcases Nat.lt_trichotomy (isq v) r with q | q | q
  · have := sq_mono (show isq v + 1 ≤ r from q)
    omega
  · exact q
  · have := sq_mono (show r + 1 ≤ isq v from q)
    omega
theorem isq_le {v n : Nat} (h : v < (n + 1) * (n + 1)) : isq v ≤ n := by
  obtain ⟨a1, a2⟩ := isq_spec v
  rcases Nat.lt_or_ge n (isq v) with q | q
  · have := sq_mono (show n + 1 ≤ isq v from q)
    omega
  · exact q
theorem isq_sq (n : Nat) : isq (n * n) = n := isq_uniq (Nat.le_refl _) (by have := sq_succ n; omega)
theorem shr1 {n : Nat} (h : n < 2 ^ 31) : shr (nI n) (1 : Int32) = nI (n / 2) := by
  unfold shr
  exact pk_shrN h _ 1 (by decide)
theorem wr_loop {G : Gx} {Q : Int32 → Mm → Prop} {u : Mm} {v : Nat} (hv : v < 16384 * 16384) (hQ : Q (nI (isq v)) u) : ∀ (t r : Nat), t ≤ 13 → r % 2 ^ (t + 1) = 0 → r + 2 ^ (t + 1) ≤ 16384 → r * r ≤ v → v < (r + 2 ^ (t + 1)) * (r + 2 ^ (t + 1)) → V_X11_wayRoot_12 G Q (t + 2) (nI v) (nI r) (nI (2 ^ t)) u := by
  intro t
  induction t with
  | zero =>
    intro r _ h1 h2 h3 h4
    have fin : ∀ r' : Nat, r' * r' ≤ v → v < (r' + 1) * (r' + 1) → V_X11_wayRoot_33 G Q (V_X11_wayRoot_12 G Q 1) (nI v) (nI r') (nI (2 ^ 0)) u := by
      intro r' a1 a2
      unfold V_X11_wayRoot_33
      intro y hy
      have ey : y = nI 0 := by rw [hy]; exact shr1 (by decide)
      subst ey
      show V_X11_wayRoot_12_B G Q (V_X11_wayRoot_12 G Q 0) (nI v) (nI r') (nI 0) u
      unfold V_X11_wayRoot_12_B
      refine ⟨fun _ => ?_, fun c => absurd (by decide) c⟩
      rw [← isq_uniq a1 a2]
      exact hQ
    show V_X11_wayRoot_12_B G Q (V_X11_wayRoot_12 G Q 1) (nI v) (nI r) (nI (2 ^ 0)) u
    unfold V_X11_wayRoot_12_B
    refine ⟨fun c => absurd c (by decide), fun _ x hx => ?_⟩
    have ex : x = nI (r + 1) := by
      rw [hx, show r = 2 ^ 1 * (r / 2) by omega]
      exact fa_or_sum (r / 2) (by decide)
    subst ex
    have e1 := sq_mono (show r + 1 ≤ 16383 by omega)
    rw [pk_mul]
    refine ⟨fun c => ?_, fun c => ?_⟩
    · exact fin r h3 ((nI_ltI (by omega) (by omega)).mp c)
    · exact fin (r + 1) (by have := mt (nI_ltI (a := v) (b := (r + 1) * (r + 1)) (by omega) (by omega)).mpr c; omega) h4
  | succ t ih =>
    intro r ht h1 h2 h3 h4
    have p1 : 2 ^ (t + 1) = 2 * 2 ^ t := by rw [Nat.pow_succ]; omega
    have p2 : 2 ^ (t + 1 + 1) = 2 * 2 ^ (t + 1) := by rw [Nat.pow_succ]; omega
    have p3 : 0 < 2 ^ t := Nat.pow_pos (by decide)
    have fin : ∀ r' : Nat, r' % 2 ^ (t + 1) = 0 → r' + 2 ^ (t + 1) ≤ 16384 → r' * r' ≤ v → v < (r' + 2 ^ (t + 1)) * (r' + 2 ^ (t + 1)) → V_X11_wayRoot_33 G Q (V_X11_wayRoot_12 G Q (t + 2)) (nI v) (nI r') (nI (2 ^ (t + 1))) u := by
      intro r' a0 a1 a2 a3
      unfold V_X11_wayRoot_33
      intro y hy
      have ey : y = nI (2 ^ t) := by rw [hy, shr1 (by omega), show 2 ^ (t + 1) / 2 = 2 ^ t by omega]
      subst ey
      exact ih r' (by omega) a0 a1 a2 a3
    show V_X11_wayRoot_12_B G Q (V_X11_wayRoot_12 G Q (t + 2)) (nI v) (nI r) (nI (2 ^ (t + 1))) u
    unfold V_X11_wayRoot_12_B
    refine ⟨fun c => absurd c (nI_nle (by omega) (by omega)), fun _ x hx => ?_⟩
    have hr : r = 2 ^ (t + 1 + 1) * (r / 2 ^ (t + 1 + 1)) := by
      have := Nat.div_add_mod r (2 ^ (t + 1 + 1))
      omega
    have ex : x = nI (r + 2 ^ (t + 1)) := by
      rw [hx]
      conv => lhs; rw [hr]
      rw [fa_or_sum (r / 2 ^ (t + 1 + 1)) (show 2 ^ (t + 1) < 2 ^ (t + 1 + 1) by omega), ← hr]
    subst ex
    have e1 := sq_mono (show r + 2 ^ (t + 1) ≤ 16383 by omega)
    rw [pk_mul]
    have hm0 : r % 2 ^ (t + 1) = 0 := by rw [hr, p2, Nat.mul_assoc, Nat.mul_comm 2, Nat.mul_assoc, Nat.mul_mod_right]
    refine ⟨fun c => ?_, fun c => ?_⟩
    · exact fin r hm0 (by omega) h3 ((nI_ltI (by omega) (by omega)).mp c)
    · refine fin (r + 2 ^ (t + 1)) (by rw [Nat.add_mod_right]; exact hm0) (by omega) (by have := mt (nI_ltI (a := v) (b := (r + 2 ^ (t + 1)) * (r + 2 ^ (t + 1))) (by omega) (by omega)).mpr c; omega) ?_
      rw [show r + 2 ^ (t + 1) + 2 ^ (t + 1) = r + 2 ^ (t + 1 + 1) by omega]
      exact h4
theorem s_X11_wayRoot {G : Gx} {Q : Int32 → Mm → Prop} {u : Mm} {q : Nat} (hq : q ≤ 12800) (h : Q (nI (isq (10000 * q))) u) : V_X11_wayRoot G (nI q) u Q := by
  unfold V_X11_wayRoot
  intro x hx
  have ex : x = nI (10000 * q) := by rw [hx]; exact pk_mul 10000 q
  subst ex
  exact ⟨15, wr_loop (by omega) h 13 0 (by decide) (by decide) (by decide) (Nat.zero_le _) (by omega)⟩
theorem rt_loop {G : Gx} {Q : Int32 → Mm → Prop} {u : Mm} {v : Nat} (hv : v < 2 ^ 30) (hQ : Q (nI (isq v)) u) : ∀ (n lo hi : Nat), hi - lo < n → lo ≤ hi → hi ≤ 32767 → lo * lo ≤ v → v < (hi + 1) * (hi + 1) → V_X12_root_6 G Q n (nI v) (nI lo) (nI hi) u := by
  intro n
  induction n with
  | zero => intro lo hi h; omega
  | succ n ih =>
    intro lo hi h1 h2 h3 h4 h5
    show V_X12_root_6_B G Q (V_X12_root_6 G Q n) (nI v) (nI lo) (nI hi) u
    unfold V_X12_root_6_B
    refine ⟨fun c => ?_, fun c x hx => ?_⟩
    · have := (nI_leI (by omega) (by omega)).mp c
      rw [← isq_uniq h4 (by rwa [show hi = lo by omega] at h5)]
      exact hQ
    · have hlt : lo < hi := Nat.not_le.mp (mt (nI_leI (a := hi) (b := lo) (by omega) (by omega)).mpr c)
      have ex : x = nI ((lo + hi + 1) / 2) := by
        rw [hx, nI_add, nI_1]
        exact pk_div (by omega) (by decide) (by decide)
      subst ex
      have e1 := sq_mono (show (lo + hi + 1) / 2 ≤ 32767 by omega)
      rw [pk_mul]
      refine ⟨fun c => ?_, fun c => ?_⟩
      · intro y hy
        have ey : y = nI ((lo + hi + 1) / 2 - 1) := by rw [hy]; exact pk_sub (a := (lo + hi + 1) / 2) (b := 1) (by omega)
        subst ey
        have := (nI_ltI (by omega) (by omega)).mp c
        exact ih lo ((lo + hi + 1) / 2 - 1) (by omega) (by omega) (by omega) h4 (by rwa [show (lo + hi + 1) / 2 - 1 + 1 = (lo + hi + 1) / 2 by omega])
      · have := mt (nI_ltI (a := v) (b := (lo + hi + 1) / 2 * ((lo + hi + 1) / 2)) (by omega) (by omega)).mpr c
        exact ih ((lo + hi + 1) / 2) hi (by omega) (by omega) h3 (by omega) h5
theorem s_X12_root {G : Gx} {Q : Int32 → Mm → Prop} {u : Mm} {v : Nat} (hv : v < 2 ^ 30) (h : Q (nI (isq v)) u) : V_X12_root G (nI v) u Q :=
  ⟨32768, rt_loop hv h 32768 0 32767 (by decide) (by decide) (by decide) (Nat.zero_le _) (by omega)⟩
