/-! HOW FAR a text is read: the fault's code (0: none), its place, from where the token was taken -/
abbrev Tk : Type := Nat × Nat × Nat
def kC (t : Tk) : Nat := t.1
def kP (t : Tk) : Nat := t.2.1
def kE (t : Tk) : Nat := t.2.2
def okT (n : Nat) (t : Tk) : Prop := kE t ≤ n ∧ kC t ≤ 4 ∧ kP t ≤ n
def nxt (c : Nat → Nat) (n : Nat) (t : Tk) : Tk := (0, 0, tE c n (kE t))
def flt4 (c : Nat → Nat) (n k : Nat) (t : Tk) : Tk := (k, tS c n (kE t), kE t)
theorem nxt_ok {c : Nat → Nat} {n : Nat} {t : Tk} (h : okT n t) : okT n (nxt c n t) := ⟨(tE_bd h.1).2.1, Nat.zero_le _, Nat.zero_le _⟩
theorem flt4_ok {c : Nat → Nat} {n k : Nat} {t : Tk} (h : okT n t) (hk : k ≤ 4) : okT n (flt4 c n k t) := ⟨h.1, hk, (tS_bd h.1).2⟩
def isW (c : Nat → Nat) (n i : Nat) (t : Tk) : Bool := decide (kC t = 0 ∧ tK c n (kE t) = 0 ∧ tE c n (kE t) - tS c n (kE t) = kLen i ∧ ∀ j, j < kLen i → nI (c (tS c n (kE t) + j)) = (kByt i).getD j 0)
def rdV (c : Nat → Nat) (n : Nat) (t : Tk) : Nat := tV c n (kE t)
def rdT (c : Nat → Nat) (n lo hi fl : Nat) (t : Tk) : Tk := if kC t = 0 then (if tK c n (kE t) = 1 then (if tE c n (kE t) - tS c n (kE t) ≤ 4 ∧ lo ≤ rdV c n t ∧ rdV c n t ≤ hi then (if fl ≤ rdV c n t then nxt c n t else flt4 c n 3 t) else flt4 c n 2 t) else flt4 c n 1 t) else t
def sgT (c : Nat → Nat) (n : Nat) (t : Tk) : Tk := if kC t = 0 then (if tK c n (kE t) = 2 then nxt c n t else flt4 c n 1 t) else t
theorem rdT_0 {c : Nat → Nat} {n lo hi fl : Nat} {t : Tk} (h : kC (rdT c n lo hi fl t) = 0) : kC t = 0 ∧ lo ≤ rdV c n t ∧ rdV c n t ≤ hi ∧ fl ≤ rdV c n t := by
  unfold rdT at h
  by_cases h0 : kC t = 0
  · rw [if_pos h0] at h
    split at h
    · split at h
      · split at h
        · rename_i g1 g2; exact ⟨h0, g1.2.1, g1.2.2, g2⟩
        · exact absurd h (by unfold kC flt4; omega)
      · exact absurd h (by unfold kC flt4; omega)
    · exact absurd h (by unfold kC flt4; omega)
  · rw [if_neg h0] at h
    exact absurd h h0
theorem rdT_ok {c : Nat → Nat} {n lo hi fl : Nat} {t : Tk} (h : okT n t) : okT n (rdT c n lo hi fl t) := by
  unfold rdT
  split
  · split
    · split
      · split
        · exact nxt_ok h
        · exact flt4_ok h (by omega)
      · exact flt4_ok h (by omega)
    · exact flt4_ok h (by omega)
  · exact h
theorem sgT_0 {c : Nat → Nat} {n : Nat} {t : Tk} (h : kC (sgT c n t) = 0) : kC t = 0 := by
  unfold sgT at h
  by_cases h0 : kC t = 0
  · exact h0
  · rw [if_neg h0] at h
    exact h
theorem sgT_ok {c : Nat → Nat} {n : Nat} {t : Tk} (h : okT n t) : okT n (sgT c n t) := by
  unfold sgT
  split
  · split
    · exact nxt_ok h
    · exact flt4_ok h (by omega)
  · exact h
theorem kByt_lt : ∀ i, i < 36 → ∀ j, j < kLen i → ((kByt i).getD j 0).toInt < 256 := by decide +kernel
/-! the class -/
def inC6 (z : Nat) : Nat → Nat → Prop := fun a j => a = z + 1 ∧ 6 ≤ j ∧ j ≤ 11
def CT (z : Nat) (c : Nat → Nat) (n : Nat) (t : Tk) (u : Mm) : Prop := TB z c n u ∧ okT n t ∧ gI u (z + 1) 10 = nI (kC t) ∧ (kC t ≠ 0 → gI u (z + 1) 11 = nI (kP t))
  ∧ (kC t = 0 → gI u (z + 1) 11 = -1 ∧ gI u (z + 1) 6 = nI (tK c n (kE t)) ∧ gI u (z + 1) 7 = nI (tS c n (kE t)) ∧ gI u (z + 1) 8 = nI (tE c n (kE t)) ∧ (tK c n (kE t) = 1 → gI u (z + 1) 9 = vC c (tS c n (kE t)) (tE c n (kE t) - tS c n (kE t))))
theorem CT.fx {z n : Nat} {c : Nat → Nat} {t : Tk} {u v : Mm} {P : Nat → Nat → Prop} (h : CT z c n t u) (f : Fx P u v) (hp : ∀ a j, P a j → a ≠ z + 2 ∧ (a = z + 1 → j < 2 ∨ j = 3 ∨ j = 4 ∨ j = 5)) : CT z c n t v := by
  have e1 : ∀ j, (j = 2 ∨ 6 ≤ j) → gI v (z + 1) j = gI u (z + 1) j := fun j hj => f.2 _ _ (fun q => by have := (hp _ _ q).2 rfl; omega)
  have e2 : ∀ j, gI v (z + 2) j = gI u (z + 2) j := fun j => f.2 _ _ (fun q => (hp _ _ q).1 rfl)
  obtain ⟨⟨h1, h2⟩, h3, h4, h5, h6⟩ := h
  refine ⟨⟨(e1 2 (by omega)).trans h1, fun i hi => (e2 i).trans (h2 i hi)⟩, h3, (e1 10 (by omega)).trans h4, fun q => (e1 11 (by omega)).trans (h5 q), fun q => ?_⟩
  obtain ⟨g1, g2, g3, g4, g5⟩ := h6 q
  exact ⟨(e1 11 (by omega)).trans g1, (e1 6 (by omega)).trans g2, (e1 7 (by omega)).trans g3, (e1 8 (by omega)).trans g4, fun r => (e1 9 (by omega)).trans (g5 r)⟩
section STAT
variable {G : Gx} {u : Mm} {c : Nat → Nat} {n : Nat}
theorem c_step {Q : Mm → Prop} {z : Nat} {t : Tk} (h : HC0 G u z) (hn : n ≤ 700) (hc : ∀ i, c i < 256) (hT : CT z c n t u) (h0 : kC t = 0) (hQ : ∀ u', Fx (inC6 z) u u' → CT z c n (nxt c n t) u' → Q u') : V_X8_takeToken G (z + 1) u Q := by
  obtain ⟨h1, h2, h3, h4, h5⟩ := id hT
  obtain ⟨g1, g2, g3, g4, g5⟩ := h5 h0
  refine c_takeToken h hn hc h1 (tE_bd h2.1).2.1 g4 (fun u' f v6 v7 v8 v9 => ?_)
  refine hQ u' (f.mono (fun a j q => by unfold inK2 at q; unfold inC6; omega)) ⟨h1.fx f, nxt_ok h2, ?_, fun q => absurd rfl q, fun _ => ⟨?_, v6, v7, v8, v9⟩⟩
  · rw [f.2 _ _ (by unfold inK2; omega), h3, h0]; rfl
  · rw [f.2 _ _ (by unfold inK2; omega)]; exact g1
theorem c_refuse {Q : Mm → Prop} {z k : Nat} {t : Tk} (h : HC0 G u z) (hT : CT z c n t u) (h0 : kC t = 0) (hk : 1 ≤ k) (hk4 : k ≤ 4) (hQ : ∀ u', Fx (inC6 z) u u' → CT z c n (flt4 c n k t) u' → Q u') : V_X8_refuse G (z + 1) (nI k) u Q := by
  obtain ⟨⟨b1, b2⟩, h2, h3, h4, h5⟩ := id hT
  obtain ⟨g1, g2, g3, g4, g5⟩ := h5 h0
  refine ⟨h.2.1.2.1, fun w e w2 e2 => ?_⟩
  have e7 : gI w (z + 1) 7 = nI (tS c n (kE t)) := by rw [e, gI_sI, if_neg (by omega)]; exact g3
  rw [e7] at e2
  have f : Fx (inC6 z) u w2 := by rw [e2, e]; exact (Fx.put (by unfold inC6; omega)).trans (Fx.put (by unfold inC6; omega))
  refine hQ w2 f ⟨⟨?_, fun i hi => ?_⟩, flt4_ok h2 hk4, ?_, fun _ => ?_, fun q => absurd q (by unfold kC flt4; omega)⟩
  · rw [f.2 _ _ (by unfold inC6; omega)]; exact b1
  · rw [f.2 _ _ (by unfold inC6; omega)]; exact b2 i hi
  · rw [e2, gI_sI, if_neg (by omega), e, gI_sI, if_pos ⟨rfl, rfl⟩]; rfl
  · rw [e2, gI_sI, if_pos ⟨rfl, rfl⟩]; rfl
theorem c_isWord {Q : Int32 → Mm → Prop} {z i : Nat} {t : Tk} (hi : i < 36) (h : HC0 G u z) (hn : n ≤ 700) (hc : ∀ i, c i < 256) (hT : CT z c n t u) (h1 : isW c n i t = true → Q 1 u) (h0 : isW c n i t = false → Q 0 u) : V_X8_isWord G (z + 1) (gS G i) u Q := by
  obtain ⟨⟨b1, b2⟩, ok, t3, t4, t5⟩ := id hT
  obtain ⟨_, k8, r1, r2, r3⟩ := id h.2.1
  have hE := tE_bd (c := c) ok.1
  have hl := kLen_ok i hi
  refine ⟨k8, ?_⟩
  rw [t3]
  refine ⟨fun q => ?_, fun q => h0 ?_⟩
  · have q0 : kC t = 0 := nI_inj (b := 0) (by have := ok.2.1; omega) (by omega) q
    obtain ⟨g1, g2, g3, g4, g5⟩ := t5 q0
    rw [g2]
    refine ⟨fun q => ?_, fun q => h0 ?_⟩
    · have qk : tK c n (kE t) = 0 := nI_inj (b := 0) (by have := tK_le c n (kE t); omega) (by omega) q
      refine ⟨i, hi, rfl, ?_⟩
      rw [g3, g4, pk_sub hE.1]
      refine ⟨fun q => ?_, fun q => h0 ?_⟩
      · have ql : tE c n (kE t) - tS c n (kE t) = kLen i := nI_inj (by omega) (by omega) q
        have low : ∀ j, j < kLen i → c (tS c n (kE t) + j) < 128 := by
          intro j hj
          have := kB_0 ((tok_in (c := c) (n := n) (e := kE t) (by omega) (j := tS c n (kE t) + j) (by omega) (by omega)).trans qk)
          omega
        suffices go : ∀ f j, j + f = kLen i → (∀ k, k < j → nI (c (tS c n (kE t) + k)) = (kByt i).getD k 0) → V_X8_isWord_34 G Q (f + 1) (z + 1) (gS G i) (nI j) u from ⟨kLen i + 1, go _ 0 (by omega) (fun k hk => absurd hk (by omega))⟩
        intro f
        induction f with
        | zero =>
          intro j hj hh
          have hj : j = kLen i := by omega
          show V_X8_isWord_34_B G Q (V_X8_isWord_34 G Q 0) (z + 1) (gS G i) (nI j) u
          unfold V_X8_isWord_34_B
          refine ⟨i, hi, rfl, fun _ => h1 ?_, fun q => absurd (nI_le (by omega) (by omega)) q⟩
          unfold isW
          rw [hj] at hh
          exact decide_eq_true ⟨q0, qk, ql, hh⟩
        | succ f ih =>
          intro j hj hh
          show V_X8_isWord_34_B G Q (V_X8_isWord_34 G Q (f + 1)) (z + 1) (gS G i) (nI j) u
          unfold V_X8_isWord_34_B
          refine ⟨i, hi, rfl, fun q => absurd ((nI_leI (by omega) (by omega)).mp q) (by omega), fun _ => ?_⟩
          rw [g3, nI_add, r1, r2, r3, nI_clamp (by omega), b2 _ (by omega), i8_small (low j (by omega))]
          refine ⟨k8, by omega, rfl, vp_in_nI (by omega) (by omega), i, hi, rfl, vp_in_nI (by omega) (by omega), ?_⟩
          rw [nI_clamp (by omega)]
          refine ⟨fun q y hy => ?_, fun q => h0 ?_⟩
          · rw [hy, nI_1]
            refine ih (j + 1) (by omega) (fun k hk => ?_)
            by_cases e : k = j
            · rw [e]; exact q
            · exact hh k (by omega)
          · unfold isW
            exact decide_eq_false (fun r => q (r.2.2.2 j (by omega)))
      · unfold isW
        exact decide_eq_false (fun r => q (by rw [r.2.2.1]))
    · unfold isW
      exact decide_eq_false (fun r => q (by rw [r.2.1]; rfl))
  · unfold isW
    exact decide_eq_false (fun r => q (by rw [r.1]; rfl))
theorem vC_cases {s j : Nat} (hd : ∀ i, i < j → kB (c (s + i)) = 1) : (j ≤ 4 → vC c s j = nI (vl c s j) ∧ vl c s j < 10000) ∧ (¬ j ≤ 4 → vC c s j = nI 10000) := by
  unfold vC
  refine ⟨fun h => ?_, fun h => ?_⟩
  · rw [if_pos h]
    exact ⟨rfl, Nat.lt_of_lt_of_le (vl_lt j hd) (Nat.pow_le_pow_right (j := 4) (by omega) h)⟩
  · rw [if_neg h]; rfl
theorem c_readNumber {Q : Int32 → Mm → Prop} {z lo hi fl : Nat} {t : Tk} {p1 p2 p3 : Int32} (h : HC0 G u z) (hn : n ≤ 700) (hc : ∀ i, c i < 256) (hT : CT z c n t u) (hp1 : p1 = nI lo) (hp2 : p2 = nI hi) (hlo : lo < 10000) (hhi : hi < 10000) (hfl : kC t = 0 → ∀ v, lo ≤ v → v < 10000 → (p3 ≤ nI v ↔ fl ≤ v)) (hQ : ∀ v u', Fx (inC6 z) u u' → CT z c n (rdT c n lo hi fl t) u' → (kC (rdT c n lo hi fl t) = 0 → v = nI (rdV c n t)) → Q v u') : V_X8_readNumber G (z + 1) p1 p2 p3 u Q := by
  obtain ⟨⟨b1, b2⟩, ok, t3, t4, t5⟩ := id hT
  obtain ⟨_, k8, r1, r2, r3⟩ := id h.2.1
  refine ⟨k8, ?_⟩
  rw [t3]
  refine ⟨fun q => ?_, fun q => ?_⟩
  · have q0 : kC t = 0 := nI_inj (b := 0) (by have := ok.2.1; omega) (by omega) q
    obtain ⟨g1, g2, g3, g4, g5⟩ := t5 q0
    have hfl := hfl q0
    have bad : ∀ k, 1 ≤ k → k ≤ 4 → rdT c n lo hi fl t = flt4 c n k t → V_X8_refuse G (z + 1) (nI k) u (fun w => Q p1 w) := by
      intro k k1 k4 e
      refine c_refuse h hT q0 k1 k4 (fun u' f T' => hQ _ u' f (by rw [e]; exact T') (fun r => ?_))
      rw [e] at r
      exact absurd r (by unfold kC flt4; omega)
    rw [g2]
    refine ⟨fun q => ?_, fun q => ?_⟩
    · have k1 : tK c n (kE t) = 1 := nI_inj (b := 1) (by have := tK_le c n (kE t); omega) (by omega) q
      have vc := vC_cases (c := c) (s := tS c n (kE t)) (j := tE c n (kE t) - tS c n (kE t)) (fun i hi => (tok_in (by omega) (by omega) (by omega)).trans k1)
      rw [g5 k1, hp1, hp2]
      have two : ¬ (tE c n (kE t) - tS c n (kE t) ≤ 4 ∧ lo ≤ rdV c n t ∧ rdV c n t ≤ hi) → V_X8_readNumber_40 G Q (z + 1) (nI lo) u := by
        intro r
        unfold V_X8_readNumber_40
        rw [← hp1]
        exact ⟨k8, bad 2 (by omega) (by omega) (by unfold rdT; rw [if_pos q0, if_pos k1, if_neg r])⟩
      by_cases l4 : tE c n (kE t) - tS c n (kE t) ≤ 4
      · have v1 : vC c (tS c n (kE t)) (tE c n (kE t) - tS c n (kE t)) = nI (rdV c n t) := (vc.1 l4).1
        have v2 : rdV c n t < 10000 := (vc.1 l4).2
        rw [v1]
        refine ⟨fun q => two (fun r => ?_), fun ql => ⟨fun qh => ⟨fun qf y hy => ?_, fun qf => ?_⟩, fun q => two (fun r => q (nI_le r.2.2 (by omega)))⟩⟩
        · have := (nI_ltI (by omega) (by omega)).mp q
          have := r.2.1
          omega
        · have l1 : lo ≤ rdV c n t := Nat.le_of_not_lt (fun r => ql ((nI_ltI (by omega) (by omega)).mpr r))
          have l2 : rdV c n t ≤ hi := (nI_leI (by omega) (by omega)).mp qh
          have l3 : fl ≤ rdV c n t := (hfl _ l1 v2).mp qf
          have e : rdT c n lo hi fl t = nxt c n t := by unfold rdT; rw [if_pos q0, if_pos k1, if_pos ⟨l4, l1, l2⟩, if_pos l3]
          refine c_step h hn hc hT q0 (fun u' f T' => hQ _ u' f (by rw [e]; exact T') (fun _ => hy))
        · have l1 : lo ≤ rdV c n t := Nat.le_of_not_lt (fun r => ql ((nI_ltI (by omega) (by omega)).mpr r))
          have l2 : rdV c n t ≤ hi := (nI_leI (by omega) (by omega)).mp qh
          have l3 : ¬ fl ≤ rdV c n t := fun r => qf ((hfl _ l1 v2).mpr r)
          rw [← hp1]
          exact bad 3 (by omega) (by omega) (by unfold rdT; rw [if_pos q0, if_pos k1, if_pos ⟨l4, l1, l2⟩, if_neg l3])
      · rw [vc.2 l4]
        refine ⟨fun q => two (fun r => l4 r.1), fun _ => ⟨fun q => ?_, fun _ => two (fun r => l4 r.1)⟩⟩
        have := (nI_leI (by omega) (by omega)).mp q
        omega
    · refine bad 1 (by omega) (by omega) ?_
      unfold rdT
      rw [if_pos q0, if_neg (fun r => q (by rw [r]; rfl))]
  · have n0 : kC t ≠ 0 := fun r => q (by rw [r]; rfl)
    have e : rdT c n lo hi fl t = t := by unfold rdT; rw [if_neg n0]
    exact hQ _ u Fx.rfl' (by rw [e]; exact hT) (fun r => absurd (e ▸ r) n0)
theorem c_readSign {Q : Mm → Prop} {z : Nat} {t : Tk} (h : HC0 G u z) (hn : n ≤ 700) (hc : ∀ i, c i < 256) (hT : CT z c n t u) (hQ : ∀ u', Fx (inC6 z) u u' → CT z c n (sgT c n t) u' → Q u') : V_X8_readSign G (z + 1) u Q := by
  obtain ⟨⟨b1, b2⟩, ok, t3, t4, t5⟩ := id hT
  obtain ⟨_, k8, r1, r2, r3⟩ := id h.2.1
  refine ⟨k8, ?_⟩
  rw [t3]
  unfold sgT at hQ
  refine ⟨fun q => ?_, fun q => ?_⟩
  · have q0 : kC t = 0 := nI_inj (b := 0) (by have := ok.2.1; omega) (by omega) q
    obtain ⟨g1, g2, g3, g4, g5⟩ := t5 q0
    rw [if_pos q0] at hQ
    rw [g2]
    refine ⟨fun q => ?_, fun q => ?_⟩
    · have k2 : tK c n (kE t) = 2 := nI_inj (b := 2) (by have := tK_le c n (kE t); omega) (by omega) q
      rw [if_pos k2] at hQ
      exact c_step h hn hc hT q0 hQ
    · rw [if_neg (fun r => q (by rw [r]; rfl))] at hQ
      exact c_refuse (k := 1) h hT q0 (by omega) (by omega) hQ
  · rw [if_neg (fun r => q (by rw [r]; rfl))] at hQ
    exact hQ u Fx.rfl' hT
end STAT
