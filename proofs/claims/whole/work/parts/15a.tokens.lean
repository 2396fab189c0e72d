/-! TOKENS of a text: bytes c, their number n -/
def kB (b : Nat) : Nat := if 97 ≤ b ∧ b ≤ 122 then 0 else if 48 ≤ b ∧ b ≤ 57 then 1 else if b = 59 then 2 else 3
def skF (c : Nat → Nat) : Nat → Nat → Nat
  | 0, e => e
  | f + 1, e => if c e = 32 ∨ c e = 10 then skF c f (e + 1) else e
def rnF (c : Nat → Nat) (k : Nat) : Nat → Nat → Nat
  | 0, e => e
  | f + 1, e => if kB (c e) = k then rnF c k f (e + 1) else e
def tS (c : Nat → Nat) (n e : Nat) : Nat := skF c (n - e) e
def tK (c : Nat → Nat) (n e : Nat) : Nat := if tS c n e < n then kB (c (tS c n e)) else 4
def tE (c : Nat → Nat) (n e : Nat) : Nat := if tK c n e < 2 then rnF c (tK c n e) (n - tS c n e) (tS c n e) else if tK c n e = 4 then tS c n e else tS c n e + 1
def vl (c : Nat → Nat) (s : Nat) : Nat → Nat
  | 0 => 0
  | j + 1 => vl c s j * 10 + (c (s + j) - 48)
def tV (c : Nat → Nat) (n e : Nat) : Nat := vl c (tS c n e) (tE c n e - tS c n e)
theorem skF_bd (c : Nat → Nat) : ∀ f e, e ≤ skF c f e ∧ skF c f e ≤ e + f
  | 0, e => ⟨Nat.le_refl _, Nat.le_refl _⟩
  | f + 1, e => by
    unfold skF
    split
    · have := skF_bd c f (e + 1); omega
    · omega
theorem rnF_bd (c : Nat → Nat) (k : Nat) : ∀ f e, e ≤ rnF c k f e ∧ rnF c k f e ≤ e + f
  | 0, e => ⟨Nat.le_refl _, Nat.le_refl _⟩
  | f + 1, e => by
    unfold rnF
    split
    · have := rnF_bd c k f (e + 1); omega
    · omega
theorem rnF_in (c : Nat → Nat) (k : Nat) : ∀ f e j, e ≤ j → j < rnF c k f e → kB (c j) = k
  | 0, e, j, h1, h2 => by unfold rnF at h2; omega
  | f + 1, e, j, h1, h2 => by
    unfold rnF at h2
    split at h2
    · rename_i q
      by_cases e2 : j = e
      · rw [e2]; exact q
      · exact rnF_in c k f (e + 1) j (by omega) h2
    · omega
theorem tS_bd {c : Nat → Nat} {n e : Nat} (h : e ≤ n) : e ≤ tS c n e ∧ tS c n e ≤ n := by
  have := skF_bd c (n - e) e
  unfold tS
  omega
theorem kB_le (b : Nat) : kB b ≤ 3 := by unfold kB; split <;> (try split) <;> (try split) <;> omega
theorem tK_le (c : Nat → Nat) (n e : Nat) : tK c n e ≤ 4 := by
  unfold tK
  split
  · have := kB_le (c (tS c n e)); omega
  · omega
theorem tE_bd {c : Nat → Nat} {n e : Nat} (h : e ≤ n) : tS c n e ≤ tE c n e ∧ tE c n e ≤ n ∧ (tK c n e ≠ 4 → tS c n e < tE c n e) := by
  have hs := tS_bd (c := c) h
  unfold tE
  by_cases k2 : tK c n e < 2
  · rw [if_pos k2]
    have b := rnF_bd c (tK c n e) (n - tS c n e) (tS c n e)
    refine ⟨b.1, by omega, fun _ => ?_⟩
    have lt : tS c n e < n := by
      unfold tK at k2
      split at k2
      · rename_i q; exact q
      · omega
    obtain ⟨f, hf⟩ : ∃ f, n - tS c n e = f + 1 := ⟨n - tS c n e - 1, by omega⟩
    rw [hf]
    unfold rnF
    rw [if_pos (by unfold tK; rw [if_pos lt])]
    have := rnF_bd c (tK c n e) f (tS c n e + 1)
    omega
  · rw [if_neg k2]
    by_cases k4 : tK c n e = 4
    · rw [if_pos k4]
      exact ⟨Nat.le_refl _, hs.2, fun q => absurd k4 q⟩
    · rw [if_neg k4]
      have lt : tS c n e < n := by
        unfold tK at k4
        split at k4
        · rename_i q; exact q
        · exact absurd rfl k4
      exact ⟨by omega, by omega, fun _ => by omega⟩
theorem tok_in {c : Nat → Nat} {n e : Nat} (k2 : tK c n e < 2) {j : Nat} (h1 : tS c n e ≤ j) (h2 : j < tE c n e) : kB (c j) = tK c n e := by
  unfold tE at h2
  rw [if_pos k2] at h2
  exact rnF_in c _ _ _ _ h1 h2
theorem kB_0 {b : Nat} (h : kB b = 0) : 97 ≤ b ∧ b ≤ 122 := by
  unfold kB at h
  split at h
  · assumption
  · split at h
    · omega
    · split at h <;> omega
theorem kB_1 {b : Nat} (h : kB b = 1) : 48 ≤ b ∧ b ≤ 57 := by
  unfold kB at h
  split at h
  · omega
  · split at h
    · assumption
    · split at h <;> omega
theorem vl_lt {c : Nat → Nat} {s : Nat} : ∀ j, (∀ i, i < j → kB (c (s + i)) = 1) → vl c s j < 10 ^ j
  | 0, _ => by show 0 < 10 ^ 0; rw [Nat.pow_zero]; omega
  | j + 1, h => by
    have ih := vl_lt j (fun i hi => h i (by omega))
    have := kB_1 (h j (by omega))
    unfold vl
    rw [Nat.pow_succ]
    omega
/-! the class's kinds -/
def kI28 (x : Int32) : Int32 := if x = 59 then 2 else 3
def kI14 (x : Int32) : Int32 := if x < 48 then kI28 x else if 57 < x then kI28 x else 1
def kI (x : Int32) : Int32 := if x < 97 then kI14 x else if 122 < x then kI14 x else 0
theorem kI_all : ∀ b, b < 256 → kI (i8 (nI b)) = nI (kB b) ∧ (i8 (nI b) = 32 ↔ b = 32) ∧ (i8 (nI b) = 10 ↔ b = 10) := by decide +kernel
theorem i8_small {b : Nat} (h : b < 128) : i8 (nI b) = nI b := fb_byte (by rw [nI_toInt (by omega)]; omega) (by rw [nI_toInt (by omega)]; omega)
section TOK
variable {G : Gx} {u : Mm}
theorem s_kindOf {Q : Int32 → Mm → Prop} {x : Int32} (h : Q (kI x) u) : V_X8_kindOf G x u Q := by
  unfold V_X8_kindOf V_X8_kindOf_14 V_X8_kindOf_28
  simp only [iteI]
  unfold kI kI14 kI28 at h
  simpa only [apply_ite (fun v => Q v u)] using h
theorem c_kindOf {Q : Int32 → Mm → Prop} {b : Nat} (hb : b < 256) (h : Q (nI (kB b)) u) : V_X8_kindOf G (i8 (nI b)) u Q := by
  refine s_kindOf ?_
  rw [(kI_all b hb).1]
  exact h
/-- the bytes of the class's tape -/
def TB (z : Nat) (c : Nat → Nat) (n : Nat) (u : Mm) : Prop := gI u (z + 1) 2 = nI n ∧ ∀ i, i < n → gI u (z + 2) i = i8 (nI (c i))
def vC (c : Nat → Nat) (s j : Nat) : Int32 := if j ≤ 4 then nI (vl c s j) else 10000
def inK2 (z : Nat) : Nat → Nat → Prop := fun a j => a = z + 1 ∧ 6 ≤ j ∧ j ≤ 9
theorem TB.fx {z n : Nat} {c : Nat → Nat} {v : Mm} (h : TB z c n u) (f : Fx (inK2 z) u v) : TB z c n v := ⟨by rw [f.2 _ _ (by unfold inK2; omega)]; exact h.1, fun i hi => by rw [f.2 _ _ (by unfold inK2; omega)]; exact h.2 i hi⟩
theorem c_takeToken {Q : Mm → Prop} {z n e : Nat} {c : Nat → Nat} (h : HC0 G u z) (hn : n ≤ 700) (hc : ∀ i, c i < 256) (hT : TB z c n u) (he : e ≤ n) (h8 : gI u (z + 1) 8 = nI e) (hQ : ∀ u', Fx (inK2 z) u u' → gI u' (z + 1) 6 = nI (tK c n e) → gI u' (z + 1) 7 = nI (tS c n e) → gI u' (z + 1) 8 = nI (tE c n e) → (tK c n e = 1 → gI u' (z + 1) 9 = vC c (tS c n e) (tE c n e - tS c n e)) → Q u') : V_X8_takeToken G (z + 1) u Q := by
  have k8 : kd G (z + 1) = 8 := h.2.1.2.1
  obtain ⟨_, _, b1, b2, b3⟩ := id h.2.1
  refine ⟨k8, fun x hx => ⟨n - e + 1, ?_⟩⟩
  rw [hx, h8]
  have hS := tS_bd (c := c) he
  have hE := tE_bd (c := c) he
  -- the run of letters or digits
  have run : tK c n e < 2 → ∀ (f p : Nat) (w : Mm), p + f = n → tS c n e ≤ p → Fx (inK2 z) u w → gI w (z + 1) 6 = nI (tK c n e) → gI w (z + 1) 7 = nI (tS c n e) → (∀ j, tS c n e ≤ j → j < p → kB (c j) = tK c n e) → (tK c n e = 1 → gI w (z + 1) 9 = vC c (tS c n e) (p - tS c n e)) → rnF c (tK c n e) f p = tE c n e → V_X8_takeToken_95 G Q (f + 1) (z + 1) (nI p) w := by
    intro k2 f
    induction f with
    | zero =>
      intro p w hp hsp fw w6 w7 hin w9 hr
      have hp' : p = n := by omega
      have hr : p = tE c n e := hr
      have hTw := hT.fx fw
      show V_X8_takeToken_95_B G Q (V_X8_takeToken_95 G Q 0) (z + 1) (nI p) w
      unfold V_X8_takeToken_95_B
      rw [hTw.1]
      refine ⟨k8, fun _ w2 ew2 => ?_, fun q => absurd (nI_le (by omega) (by omega)) q⟩
      refine hQ w2 (by rw [ew2]; exact fw.trans (Fx.put (by unfold inK2; omega))) ?_ ?_ ?_ (fun q => ?_)
      · rw [ew2, gI_sI, if_neg (by omega)]; exact w6
      · rw [ew2, gI_sI, if_neg (by omega)]; exact w7
      · rw [ew2, gI_sI, if_pos ⟨rfl, rfl⟩, hr]
      · rw [ew2, gI_sI, if_neg (by omega), ← hr]; exact w9 q
    | succ f ih =>
      intro p w hp hsp fw w6 w7 hin w9 hr
      have hTw := hT.fx fw
      have hw := h.fx fw
      obtain ⟨_, _, r1, _⟩ := id hw.2.1
      have fin : kB (c p) ≠ tK c n e → ∀ w2, w2 = sI w (z + 1) 8 (nI p) → Q w2 := by
        intro q w2 ew2
        have hr : p = tE c n e := by
          unfold rnF at hr
          rw [if_neg q] at hr
          exact hr
        refine hQ w2 (by rw [ew2]; exact fw.trans (Fx.put (by unfold inK2; omega))) ?_ ?_ ?_ (fun q => ?_)
        · rw [ew2, gI_sI, if_neg (by omega)]; exact w6
        · rw [ew2, gI_sI, if_neg (by omega)]; exact w7
        · rw [ew2, gI_sI, if_pos ⟨rfl, rfl⟩, hr]
        · rw [ew2, gI_sI, if_neg (by omega), ← hr]; exact w9 q
      have body : V_X8_takeToken_118 G Q (V_X8_takeToken_95 G Q (f + 1)) (z + 1) (nI p) w := by
        unfold V_X8_takeToken_118
        rw [r1, b2, b3, nI_clamp (by omega), hTw.2 p (by omega)]
        refine ⟨k8, by omega, rfl, vp_in_nI (by omega) (by omega), c_kindOf (hc p) ⟨fun q => ?_, fun q => fin ?_⟩⟩
        · rw [w6] at q
          have q : kB (c p) = tK c n e := nI_inj (by have := kB_le (c p); omega) (by omega) q
          have hr2 : rnF c (tK c n e) f (p + 1) = tE c n e := by
            unfold rnF at hr
            rw [if_pos q] at hr
            exact hr
          have go : ∀ t1 : Int32, (tK c n e = 1 → t1 = vC c (tS c n e) (p + 1 - tS c n e)) → V_X8_takeToken_168 G Q (V_X8_takeToken_95 G Q (f + 1)) (z + 1) (nI p) (z + 1) t1 w := by
            intro t1 ht1
            unfold V_X8_takeToken_168
            refine ⟨k8, fun w2 ew2 y hy => ?_⟩
            rw [hy, nI_1]
            refine ih (p + 1) w2 (by omega) (by omega) (by rw [ew2]; exact fw.trans (Fx.put (by unfold inK2; omega))) ?_ ?_ (fun j h1 h2 => ?_) (fun q1 => ?_) hr2
            · rw [ew2, gI_sI, if_neg (by omega)]; exact w6
            · rw [ew2, gI_sI, if_neg (by omega)]; exact w7
            · by_cases e2 : j = p
              · rw [e2]; exact q
              · exact hin j h1 (by omega)
            · rw [ew2, gI_sI, if_pos ⟨rfl, rfl⟩]; exact ht1 q1
          rw [w7, pk_sub (by omega)]
          refine ⟨fun c4 => go _ (fun _ => ?_), fun c4 => ?_⟩
          · have c4 := (nI_leI (a := 4) (by omega) (by omega)).mp c4
            unfold vC
            rw [if_neg (by omega)]
          · have c4 : ¬ 4 ≤ p - tS c n e := fun q => c4 (nI_le (a := 4) q (by omega))
            rw [r1, b2, b3, hTw.2 p (by omega)]
            refine ⟨by omega, rfl, vp_in_nI (by omega) (by omega), go _ (fun q1 => ?_)⟩
            rw [w9 q1]
            rw [q1] at q
            have dg := kB_1 q
            unfold vC
            rw [if_pos (by omega), if_pos (by omega), i8_small (by omega), show p + 1 - tS c n e = (p - tS c n e) + 1 by omega]
            show nI (vl c (tS c n e) (p - tS c n e)) * 10 + nI (c p) - 48 = nI (vl c (tS c n e) (p - tS c n e) * 10 + (c (tS c n e + (p - tS c n e)) - 48))
            rw [show tS c n e + (p - tS c n e) = p by omega]
            have e10 : nI (vl c (tS c n e) (p - tS c n e)) * (10 : Int32) = nI (vl c (tS c n e) (p - tS c n e) * 10) := nI_litR 10 _
            rw [e10, nI_add]
            have := pk_sub (a := vl c (tS c n e) (p - tS c n e) * 10 + c p) (b := 48) (by omega)
            rw [show vl c (tS c n e) (p - tS c n e) * 10 + c p - 48 = vl c (tS c n e) (p - tS c n e) * 10 + (c p - 48) by omega] at this
            exact this
        · rw [w6] at q
          exact fun e2 => q (by rw [e2])
      show V_X8_takeToken_95_B G Q (V_X8_takeToken_95 G Q (f + 1)) (z + 1) (nI p) w
      unfold V_X8_takeToken_95_B
      rw [hTw.1, w6]
      refine ⟨k8, fun q => absurd ((nI_leI (by omega) (by omega)).mp q) (by omega), fun _ => ⟨fun _ => body, fun q0 => ⟨fun _ => body, fun q1 => ?_⟩⟩⟩
      have : tK c n e = 0 ∨ tK c n e = 1 := by omega
      rcases this with q | q
      · exact absurd (by rw [q]; rfl) q0
      · exact absurd (by rw [q]; rfl) q1
  -- the token's head
  have head : ∀ w, Fx (inK2 z) u w → V_X8_takeToken_41 G Q (z + 1) (nI (tS c n e)) w := by
    intro w fw
    unfold V_X8_takeToken_41
    refine ⟨k8, fun w1 e1 w2 e2 => ?_⟩
    have f2 : Fx (inK2 z) u w2 := by
      rw [e2, e1]
      exact fw.trans ((Fx.put (by unfold inK2; omega)).trans (Fx.put (by unfold inK2; omega)))
    have v7 : gI w2 (z + 1) 7 = nI (tS c n e) := by rw [e2, gI_sI, if_neg (by omega), e1, gI_sI, if_pos ⟨rfl, rfl⟩]
    have v9 : gI w2 (z + 1) 9 = 0 := by rw [e2, gI_sI, if_pos ⟨rfl, rfl⟩]
    clear e1 e2
    have hT2 := hT.fx f2
    obtain ⟨_, _, r1, _⟩ := id (h.fx f2).2.1
    have kind : V_X8_takeToken_73 G Q (z + 1) (nI (tS c n e)) (z + 1) (nI (tK c n e)) w2 := by
      unfold V_X8_takeToken_73
      refine ⟨k8, fun w3 e3 => ?_⟩
      have f3 : Fx (inK2 z) u w3 := by rw [e3]; exact f2.trans (Fx.put (by unfold inK2; omega))
      have v6 : gI w3 (z + 1) 6 = nI (tK c n e) := by rw [e3, gI_sI, if_pos ⟨rfl, rfl⟩]
      have v7' : gI w3 (z + 1) 7 = nI (tS c n e) := by rw [e3, gI_sI, if_neg (by omega)]; exact v7
      have v9' : gI w3 (z + 1) 9 = 0 := by rw [e3, gI_sI, if_neg (by omega)]; exact v9
      clear e3
      have hT3 := hT.fx f3
      have k4 := tK_le c n e
      have stop : 2 ≤ tK c n e → ∀ q, tE c n e = q → V_X8_takeToken_95 G Q 1 (z + 1) (nI q) w3 := by
        intro hk2 q eq
        have fin : ∀ w4, w4 = sI w3 (z + 1) 8 (nI q) → Q w4 := by
          intro w4 e4
          refine hQ w4 (by rw [e4]; exact f3.trans (Fx.put (by unfold inK2; omega))) ?_ ?_ ?_ (fun q => by omega)
          · rw [e4, gI_sI, if_neg (by omega)]; exact v6
          · rw [e4, gI_sI, if_neg (by omega)]; exact v7'
          · rw [e4, gI_sI, if_pos ⟨rfl, rfl⟩, eq]
        show V_X8_takeToken_95_B G Q (V_X8_takeToken_95 G Q 0) (z + 1) (nI q) w3
        unfold V_X8_takeToken_95_B
        rw [hT3.1, v6]
        refine ⟨k8, fun _ => fin, fun _ => ⟨fun q0 => ?_, fun _ => ⟨fun q1 => ?_, fun _ => fin⟩⟩⟩
        · have := nI_inj (b := 0) (by omega) (by omega) q0
          omega
        · have := nI_inj (b := 1) (by omega) (by omega) q1
          omega
      have one : 2 ≤ tK c n e → tK c n e ≠ 4 → V_X8_takeToken_92 G Q (z + 1) (nI (tS c n e)) w3 := by
        intro h2 h4 y hy
        rw [hy, nI_1]
        exact ⟨1, stop h2 _ (by unfold tE; rw [if_neg (by omega), if_neg h4])⟩
      rw [v6]
      refine ⟨k8, fun q => one ?_ ?_, fun q2 => ⟨fun q => one ?_ ?_, fun q3 => ?_⟩⟩
      · have := nI_inj (b := 2) (by omega) (by omega) q; omega
      · have := nI_inj (b := 2) (by omega) (by omega) q; omega
      · have := nI_inj (b := 3) (by omega) (by omega) q; omega
      · have := nI_inj (b := 3) (by omega) (by omega) q; omega
      · have n2 : tK c n e ≠ 2 := fun q => q2 (by rw [q]; rfl)
        have n3 : tK c n e ≠ 3 := fun q => q3 (by rw [q]; rfl)
        by_cases k2 : tK c n e < 2
        · refine ⟨n - tS c n e + 1, run k2 (n - tS c n e) (tS c n e) w3 (by omega) (Nat.le_refl _) f3 v6 v7' (fun j h1 h2 => absurd h2 (by omega)) (fun _ => ?_) ?_⟩
          · rw [v9', Nat.sub_self]; rfl
          · unfold tE; rw [if_pos k2]
        · exact ⟨1, stop (by omega) _ (by unfold tE; rw [if_neg k2, if_pos (by omega)])⟩
    rw [hT2.1, r1, b2, b3, nI_clamp (by omega)]
    refine ⟨fun q => ?_, fun q => ?_⟩
    · have q := (nI_leI (by omega) (by omega)).mp q
      have e4 : tK c n e = 4 := by unfold tK; rw [if_neg (by omega)]
      rw [e4] at kind
      exact kind
    · have lt : tS c n e < n := by
        rcases Nat.lt_or_ge (tS c n e) n with r | r
        · exact r
        · exact absurd (nI_le r (by omega)) q
      rw [hT2.2 _ lt]
      refine ⟨by omega, rfl, vp_in_nI (by omega) (by omega), c_kindOf (hc _) ?_⟩
      have ek : tK c n e = kB (c (tS c n e)) := by unfold tK; rw [if_pos lt]
      rw [ek] at kind
      exact kind
  -- the blanks
  have skip : ∀ (f p : Nat), p + f = n → skF c f p = tS c n e → V_X8_takeToken_5 G Q (f + 1) (z + 1) (nI p) u := by
    intro f
    induction f with
    | zero =>
      intro p hp hs
      have hs : p = tS c n e := hs
      show V_X8_takeToken_5_B G Q (V_X8_takeToken_5 G Q 0) (z + 1) (nI p) u
      unfold V_X8_takeToken_5_B
      rw [hT.1, hs]
      exact ⟨k8, fun _ => head u Fx.rfl', fun q => absurd (nI_le (by omega) (by omega)) q⟩
    | succ f ih =>
      intro p hp hs
      show V_X8_takeToken_5_B G Q (V_X8_takeToken_5 G Q (f + 1)) (z + 1) (nI p) u
      unfold V_X8_takeToken_5_B V_X8_takeToken_35
      rw [hT.1, b1, b2, b3, nI_clamp (by omega), hT.2 p (by omega)]
      obtain ⟨_, k32, k10⟩ := kI_all (c p) (hc p)
      have on : (c p = 32 ∨ c p = 10) → ∀ y : Int32, y = nI p + 1 → V_X8_takeToken_5 G Q (f + 1) (z + 1) y u := by
        intro q y hy
        rw [hy, nI_1]
        unfold skF at hs
        rw [if_pos q] at hs
        exact ih (p + 1) (by omega) hs
      refine ⟨k8, fun q => absurd ((nI_leI (by omega) (by omega)).mp q) (by omega), fun _ => ⟨by omega, rfl, vp_in_nI (by omega) (by omega), fun q => on (Or.inl (k32.mp q)), fun q => ⟨fun q2 => on (Or.inr (k10.mp q2)), fun q2 => ?_⟩⟩⟩
      unfold skF at hs
      rw [if_neg (fun r => r.elim (fun r => q (k32.mpr r)) (fun r => q2 (k10.mpr r)))] at hs
      rw [hs]
      exact head u Fx.rfl'
  exact skip (n - e) e (by omega) rfl
end TOK
