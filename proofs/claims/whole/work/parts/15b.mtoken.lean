/-! TOKENS of the model -/
def inM2 (m : Nat) : Nat → Nat → Prop := fun a j => a = m ∧ (j = 13 ∨ (15 ≤ j ∧ j ≤ 18))
def MB (m : Nat) (c : Nat → Nat) (n : Nat) (u : Mm) : Prop := gI u m 14 = nI n ∧ ∀ i, i < n → gI u (m + 11) i = nI (c i)
theorem MB.fx {m n : Nat} {c : Nat → Nat} {u v : Mm} (h : MB m c n u) (f : Fx (inM2 m) u v) : MB m c n v := ⟨by rw [f.2 _ _ (by unfold inM2; omega)]; exact h.1, fun i hi => by rw [f.2 _ _ (by unfold inM2; omega)]; exact h.2 i hi⟩
def bX (c : Nat → Nat) (n p : Nat) : Int32 := if p < n then nI (c p) else -1
def tkM (k : Nat) : Nat := (k + 1) % 5
/-- the model's row of bytes -/
def R11 (G : Gx) (u : Mm) (m : Nat) : Prop := 0 < m ∧ kd G m = 12 ∧ AR G u m 11 11 700
theorem R11.fx {G : Gx} {u v : Mm} {m : Nat} {P : Nat → Nat → Prop} (h : R11 G u m) (f : Fx P u v) : R11 G v m := ⟨h.1, h.2.1, h.2.2.keep (f.gR _ _)⟩
section MTOK
variable {G : Gx} {u : Mm}
theorem m_byteAt {Q : Int32 → Mm → Prop} {m n p : Nat} {c : Nat → Nat} (hr : R11 G u m) (hb : MB m c n u) (hn : n ≤ 700) (hp : p ≤ n) {x : Int32} (hx : x = nI p) (h : Q (bX c n p) u) : V_X12_byteAt G m x u Q := by
  rw [hx]
  obtain ⟨m0, mk, a1, a2, a3⟩ := id hr
  refine ⟨mk, ?_⟩
  rw [hb.1, a3, a1, a2, nI_clamp (by omega)]
  unfold bX at h
  refine ⟨fun q => ?_, fun q => ?_⟩
  · have q := (nI_leI (by omega) (by omega)).mp q
    rw [if_neg (by omega)] at h
    exact h
  · have lt : p < n := by
      rcases Nat.lt_or_ge p n with r | r
      · exact r
      · exact absurd (nI_le r (by omega)) q
    rw [if_pos lt] at h
    refine ⟨by omega, rfl, vp_in_nI (by omega) (by omega), ?_⟩
    rw [hb.2 p lt]
    exact h
theorem kB_0i {b : Nat} : kB b = 0 ↔ 97 ≤ b ∧ b ≤ 122 := ⟨kB_0, fun h => by unfold kB; rw [if_pos h]⟩
theorem kB_1i {b : Nat} : kB b = 1 ↔ 48 ≤ b ∧ b ≤ 57 := ⟨kB_1, fun h => by unfold kB; rw [if_neg (by omega), if_pos h]⟩
theorem bX_lt {c : Nat → Nat} {n p : Nat} (hc : ∀ i, c i < 256) {q : Nat} (hq : q < 256) : (bX c n p < nI q ↔ (p < n → c p < q)) ∧ (nI q < bX c n p ↔ (p < n ∧ q < c p)) := by
  unfold bX
  have hcp := hc p
  by_cases h : p < n
  · rw [if_pos h, nI_ltI (by omega) (by omega), nI_ltI (by omega) (by omega)]
    exact ⟨⟨fun r _ => r, fun r => r h⟩, ⟨fun r => ⟨h, r⟩, fun r => r.2⟩⟩
  · rw [if_neg h]
    have e : (nI q).toInt = q := nI_toInt (by omega)
    have e2 : (-1 : Int32).toInt = -1 := by decide
    rw [Int32.lt_iff_toInt_lt, Int32.lt_iff_toInt_lt, e, e2]
    exact ⟨⟨fun _ r => absurd r h, fun _ => by omega⟩, ⟨fun r => absurd r (by omega), fun r => absurd r.1 h⟩⟩
theorem bX_eq {c : Nat → Nat} {n p : Nat} (hc : ∀ i, c i < 256) {q : Nat} (hq : q < 256) : (bX c n p = nI q ↔ (p < n ∧ c p = q)) := by
  unfold bX
  have hcp := hc p
  by_cases h : p < n
  · rw [if_pos h, nI_eq (by omega) (by omega)]
    exact ⟨fun r => ⟨h, r⟩, fun r => r.2⟩
  · rw [if_neg h]
    refine ⟨fun r => ?_, fun r => absurd r.1 h⟩
    have := congrArg Int32.toInt r
    rw [nI_toInt (by omega)] at this
    have e2 : (-1 : Int32).toInt = -1 := by decide
    rw [e2] at this
    omega
theorem bX_none {c : Nat → Nat} {n p : Nat} (hc : ∀ i, c i < 256) : (bX c n p = -1 ↔ ¬ p < n) := by
  unfold bX
  have hcp := hc p
  by_cases h : p < n
  · rw [if_pos h]
    refine ⟨fun r => ?_, fun r => absurd h r⟩
    have := congrArg Int32.toInt r
    rw [nI_toInt (by omega)] at this
    have e2 : (-1 : Int32).toInt = -1 := by decide
    rw [e2] at this
    omega
  · rw [if_neg h]
    exact ⟨fun _ => h, fun _ => rfl⟩
theorem m_isLetter {Q : Int32 → Mm → Prop} {n p : Nat} {c : Nat → Nat} (hc : ∀ i, c i < 256) (h1 : p < n → kB (c p) = 0 → Q 1 u) (h0 : ¬ (p < n ∧ kB (c p) = 0) → Q 0 u) : V_X12_isLetter G (bX c n p) u Q := by
  have l1 : bX c n p < 97 ↔ (p < n → c p < 97) := (bX_lt hc (q := 97) (by omega)).1
  have l2 : 122 < bX c n p ↔ (p < n ∧ 122 < c p) := (bX_lt hc (q := 122) (by omega)).2
  refine ⟨fun q => h0 (fun r => ?_), fun q => ⟨fun q2 => h0 (fun r => ?_), fun q2 => ?_⟩⟩
  · have := l1.mp q r.1
    have := kB_0 r.2
    omega
  · have := l2.mp q2
    have := kB_0 r.2
    omega
  · by_cases lt : p < n
    · exact h1 lt (kB_0i.mpr ⟨Nat.le_of_not_lt (fun r => q (l1.mpr (fun _ => r))), Nat.le_of_not_lt (fun r => q2 (l2.mpr ⟨lt, r⟩))⟩)
    · exact absurd (l1.mpr (fun r => absurd r lt)) q
theorem m_isDigit {Q : Int32 → Mm → Prop} {n p : Nat} {c : Nat → Nat} (hc : ∀ i, c i < 256) (h1 : p < n → kB (c p) = 1 → Q 1 u) (h0 : ¬ (p < n ∧ kB (c p) = 1) → Q 0 u) : V_X12_isDigit G (bX c n p) u Q := by
  have l1 : bX c n p < 48 ↔ (p < n → c p < 48) := (bX_lt hc (q := 48) (by omega)).1
  have l2 : 57 < bX c n p ↔ (p < n ∧ 57 < c p) := (bX_lt hc (q := 57) (by omega)).2
  refine ⟨fun q => h0 (fun r => ?_), fun q => ⟨fun q2 => h0 (fun r => ?_), fun q2 => ?_⟩⟩
  · have := l1.mp q r.1
    have := kB_1 r.2
    omega
  · have := l2.mp q2
    have := kB_1 r.2
    omega
  · by_cases lt : p < n
    · exact h1 lt (kB_1i.mpr ⟨Nat.le_of_not_lt (fun r => q (l1.mpr (fun _ => r))), Nat.le_of_not_lt (fun r => q2 (l2.mpr ⟨lt, r⟩))⟩)
    · exact absurd (l1.mpr (fun r => absurd r lt)) q
theorem m_stepOn {Q : Mm → Prop} {m n e : Nat} {c : Nat → Nat} (hr : R11 G u m) (hn : n ≤ 700) (hc : ∀ i, c i < 256) (hb : MB m c n u) (he : e ≤ n) (h13 : gI u m 13 = nI e) (hQ : ∀ u', Fx (inM2 m) u u' → gI u' m 13 = nI (tE c n e) → gI u' m 15 = nI (tkM (tK c n e)) → gI u' m 17 = nI (tS c n e) → gI u' m 18 = nI (tE c n e) → (tK c n e = 1 → tE c n e - tS c n e ≤ 4 → gI u' m 16 = nI (tV c n e)) → Q u') : V_X12_stepOn G m u Q := by
  obtain ⟨m0, mk, _⟩ := id hr
  have hS := tS_bd (c := c) he
  have hE := tE_bd (c := c) he
  refine ⟨n - e + 1, ?_⟩
  -- the end of a token
  have fin : ∀ w, Fx (inM2 m) u w → gI w m 13 = nI (tE c n e) → gI w m 17 = nI (tS c n e) → (tK c n e = 1 → tE c n e - tS c n e ≤ 4 → gI w m 16 = nI (tV c n e)) → ∀ t w2, t = nI (tkM (tK c n e)) → w2 = sI w m 15 t → V_X12_stepOn_211 G Q m w2 := by
    intro w fw w13 w17 w16 t w2 et e2
    rw [et] at e2
    unfold V_X12_stepOn_211
    refine ⟨mk, fun w3 e3 => ?_⟩
    have y13 : gI w2 m 13 = nI (tE c n e) := by rw [e2, gI_sI, if_neg (by omega)]; exact w13
    refine hQ w3 ?_ ?_ ?_ ?_ ?_ (fun q1 q2 => ?_)
    · rw [e3, e2]
      exact fw.trans ((Fx.put (by unfold inM2; omega)).trans (Fx.put (by unfold inM2; omega)))
    · rw [e3, gI_sI, if_neg (by omega)]; exact y13
    · rw [e3, gI_sI, if_neg (by omega), e2, gI_sI, if_pos ⟨rfl, rfl⟩]
    · rw [e3, gI_sI, if_neg (by omega), e2, gI_sI, if_neg (by omega)]; exact w17
    · rw [e3, gI_sI, if_pos ⟨rfl, rfl⟩]; exact y13
    · rw [e3, gI_sI, if_neg (by omega), e2, gI_sI, if_neg (by omega)]; exact w16 q1 q2
  -- letters
  have lets : tK c n e = 0 → ∀ (f p : Nat) (w : Mm), p + f = n → Fx (inM2 m) u w → gI w m 13 = nI p → gI w m 17 = nI (tS c n e) → rnF c 0 f p = tE c n e → V_X12_stepOn_76 G Q (f + 1) m w := by
    intro k0 f
    induction f with
    | zero =>
      intro p w hp fw w13 w17 hr'
      have hr' : p = tE c n e := hr'
      show V_X12_stepOn_76_B G Q (V_X12_stepOn_76 G Q 0) m w
      unfold V_X12_stepOn_76_B
      refine ⟨mk, ?_⟩
      refine m_byteAt (hr.fx fw) (hb.fx fw) hn (p := p) (by omega) w13 (m_isLetter hc (fun q _ => absurd q (by omega)) (fun _ => ⟨fun _ => ?_, fun q => absurd rfl q⟩))
      intro w2 e2
      exact fin w fw (by rw [w13, hr']) w17 (fun q _ => absurd (k0.symm.trans q) (by omega)) _ w2 (by rw [k0]; rfl) e2
    | succ f ih =>
      intro p w hp fw w13 w17 hr'
      show V_X12_stepOn_76_B G Q (V_X12_stepOn_76 G Q (f + 1)) m w
      unfold V_X12_stepOn_76_B
      refine ⟨mk, ?_⟩
      unfold rnF at hr'
      refine m_byteAt (hr.fx fw) (hb.fx fw) hn (p := p) (by omega) w13 (m_isLetter hc (fun _ q => ⟨fun r => absurd r (by decide), fun _ => ?_⟩) (fun q => ⟨fun _ => ?_, fun q => absurd rfl q⟩))
      · intro w2 e2
        rw [if_pos q] at hr'
        rw [w13, nI_1] at e2
        exact ih (p + 1) w2 (by omega) (by rw [e2]; exact fw.trans (Fx.put (by unfold inM2; omega))) (by rw [e2, gI_sI, if_pos ⟨rfl, rfl⟩]) (by rw [e2, gI_sI, if_neg (by omega)]; exact w17) hr'
      · intro w2 e2
        rw [if_neg (fun r => q ⟨by omega, r⟩)] at hr'
        exact fin w fw (by rw [w13, hr']) w17 (fun q _ => absurd (k0.symm.trans q) (by omega)) _ w2 (by rw [k0]; rfl) e2
  -- digits
  have digs : tK c n e = 1 → ∀ (f p : Nat) (w : Mm), p + f = n → tS c n e ≤ p → Fx (inM2 m) u w → gI w m 13 = nI p → gI w m 17 = nI (tS c n e) → (∀ j, tS c n e ≤ j → j < p → kB (c j) = 1) → (p - tS c n e ≤ 4 → gI w m 16 = nI (vl c (tS c n e) (p - tS c n e))) → rnF c 1 f p = tE c n e → V_X12_stepOn_123 G Q (f + 1) m w := by
    intro k1 f
    induction f with
    | zero =>
      intro p w hp hsp fw w13 w17 hin w16 hr'
      have hr' : p = tE c n e := hr'
      show V_X12_stepOn_123_B G Q (V_X12_stepOn_123 G Q 0) m w
      unfold V_X12_stepOn_123_B
      refine ⟨mk, ?_⟩
      refine m_byteAt (hr.fx fw) (hb.fx fw) hn (p := p) (by omega) w13 (m_isDigit hc (fun q _ => absurd q (by omega)) (fun _ => ⟨fun _ => ?_, fun q => absurd rfl q⟩))
      intro w2 e2
      exact fin w fw (by rw [w13, hr']) w17 (fun _ q => by unfold tV; rw [← hr'] at q ⊢; exact w16 q) _ w2 (by rw [k1]; rfl) e2
    | succ f ih =>
      intro p w hp hsp fw w13 w17 hin w16 hr'
      show V_X12_stepOn_123_B G Q (V_X12_stepOn_123 G Q (f + 1)) m w
      unfold V_X12_stepOn_123_B
      refine ⟨mk, ?_⟩
      unfold rnF at hr'
      refine m_byteAt (hr.fx fw) (hb.fx fw) hn (p := p) (by omega) w13 (m_isDigit hc (fun lt q => ⟨fun r => absurd r (by decide), fun _ => ?_⟩) (fun q => ⟨fun _ => ?_, fun q => absurd rfl q⟩))
      · rw [if_pos q] at hr'
        refine m_byteAt (hr.fx fw) (hb.fx fw) hn (p := p) (by omega) w13 (fun w1 e1 w2 e2 => ?_)
        have y13 : gI w1 m 13 = nI p := by rw [e1, gI_sI, if_neg (by omega)]; exact w13
        rw [y13, nI_1] at e2
        refine ih (p + 1) w2 (by omega) (by omega) ?_ ?_ ?_ (fun j q1 q2 => ?_) (fun q4 => ?_) hr'
        · rw [e2, e1]; exact fw.trans ((Fx.put (by unfold inM2; omega)).trans (Fx.put (by unfold inM2; omega)))
        · rw [e2, gI_sI, if_pos ⟨rfl, rfl⟩]
        · rw [e2, gI_sI, if_neg (by omega), e1, gI_sI, if_neg (by omega)]; exact w17
        · by_cases e3 : j = p
          · rw [e3]; exact q
          · exact hin j q1 (by omega)
        · rw [e2, gI_sI, if_neg (by omega), e1, gI_sI, if_pos ⟨rfl, rfl⟩, w16 (by omega), show p + 1 - tS c n e = (p - tS c n e) + 1 by omega]
          have dg := kB_1 q
          have lt4 := vl_lt (c := c) (s := tS c n e) (p - tS c n e) (fun i hi => hin _ (by omega) (by omega))
          have lt5 : vl c (tS c n e) (p - tS c n e) < 1000 := Nat.lt_of_lt_of_le lt4 (Nat.pow_le_pow_right (j := 3) (by omega) (by omega))
          show mn (100000 : Int32) (10 * nI (vl c (tS c n e) (p - tS c n e)) + bX c n p - 48) = nI (vl c (tS c n e) (p - tS c n e) * 10 + (c (tS c n e + (p - tS c n e)) - 48))
          rw [show tS c n e + (p - tS c n e) = p by omega]
          have ebx : bX c n p = nI (c p) := by unfold bX; rw [if_pos lt]
          have e10 : (10 : Int32) * nI (vl c (tS c n e) (p - tS c n e)) = nI (10 * vl c (tS c n e) (p - tS c n e)) := nI_litM 10 _
          rw [ebx, e10, nI_add]
          have e48 : nI (10 * vl c (tS c n e) (p - tS c n e) + c p) - 48 = nI (10 * vl c (tS c n e) (p - tS c n e) + c p - 48) := pk_sub (b := 48) (by omega)
          rw [e48]
          have := mn_N (a := 100000) (b := 10 * vl c (tS c n e) (p - tS c n e) + c p - 48) (by omega) (by omega)
          rw [show min 100000 (10 * vl c (tS c n e) (p - tS c n e) + c p - 48) = vl c (tS c n e) (p - tS c n e) * 10 + (c p - 48) by omega] at this
          exact this
      · intro w2 e2
        rw [if_neg (fun r => q ⟨by omega, r⟩)] at hr'
        exact fin w fw (by rw [w13, hr']) w17 (fun _ q => by unfold tV; rw [← hr'] at q ⊢; exact w16 q) _ w2 (by rw [k1]; rfl) e2
  -- the blanks
  suffices go : ∀ (f p : Nat) (w : Mm), p + f = n → Fx (inM2 m) u w → gI w m 13 = nI p → skF c f p = tS c n e → V_X12_stepOn_0 G Q (f + 1) m w from go (n - e) e u (by omega) Fx.rfl' h13 rfl
  intro f
  have head : ∀ w, Fx (inM2 m) u w → gI w m 13 = nI (tS c n e) → ∀ w1, w1 = sI w m 17 (nI (tS c n e)) → V_X12_byteAt G m (gI w1 m 13) w1 (fun (v_52 : Int32) (u_52 : Mm) => ((v_52 = (-1 : Int32) → ∀ u_63 : Mm, u_63 = sI u_52 m 15 (0 : Int32) → V_X12_stepOn_211 G Q m u_63) ∧ (¬ v_52 = (-1 : Int32) → V_X12_isLetter G v_52 u_52 (fun (v_70 : Int32) (u_70 : Mm) => ((v_70 = 0 → V_X12_isDigit G v_52 u_70 (fun (v_112 : Int32) (u_112 : Mm) => ((v_112 = 0 → ∀ u_193 : Mm, u_193 = sI u_112 m 13 ((gI u_112 m 13) + (1 : Int32)) → ((v_52 = (59 : Int32) → V_X12_stepOn_208 G Q m m (3 : Int32) u_193) ∧ (¬ v_52 = (59 : Int32) → V_X12_stepOn_208 G Q m m (4 : Int32) u_193))) ∧ (¬ v_112 = 0 → ∀ u_120 : Mm, u_120 = sI u_112 m 16 (0 : Int32) → ∃ n : Nat, V_X12_stepOn_123 G Q n m u_120)))) ∧ (¬ v_70 = 0 → ∃ n : Nat, V_X12_stepOn_76 G Q n m u_70)))))) := by
    intro w fw w13 w1 e1
    have f1 : Fx (inM2 m) u w1 := by rw [e1]; exact fw.trans (Fx.put (by unfold inM2; omega))
    have y13 : gI w1 m 13 = nI (tS c n e) := by rw [e1, gI_sI, if_neg (by omega)]; exact w13
    have y17 : gI w1 m 17 = nI (tS c n e) := by rw [e1, gI_sI, if_pos ⟨rfl, rfl⟩]
    clear e1
    refine m_byteAt (hr.fx f1) (hb.fx f1) hn hS.2 y13 ⟨fun q => ?_, fun q => ?_⟩
    · have q := (bX_none hc).mp q
      have k4 : tK c n e = 4 := by unfold tK; rw [if_neg q]
      intro w2 e2
      refine fin w1 f1 ?_ y17 (fun r _ => absurd (k4.symm.trans r) (by omega)) _ w2 (by rw [k4]; rfl) e2
      rw [y13]
      congr 1
      unfold tE
      rw [if_neg (by omega), if_pos k4]
    · have lt : tS c n e < n := by
        rcases Nat.lt_or_ge (tS c n e) n with r | r
        · exact r
        · exact absurd ((bX_none hc).mpr (by omega)) q
      have ek : tK c n e = kB (c (tS c n e)) := by unfold tK; rw [if_pos lt]
      refine m_isLetter hc (fun _ q0 => ⟨fun r => absurd r (by decide), fun _ => ?_⟩) (fun q0 => ⟨fun _ => ?_, fun r => absurd rfl r⟩)
      · have k0 : tK c n e = 0 := ek.trans q0
        exact ⟨n - tS c n e + 1, lets k0 _ _ w1 (by omega) f1 y13 y17 (by unfold tE; rw [if_pos (by omega), k0])⟩
      · refine m_isDigit hc (fun _ q1 => ⟨fun r => absurd r (by decide), fun _ => ?_⟩) (fun q1 => ⟨fun _ => ?_, fun r => absurd rfl r⟩)
        · have k1 : tK c n e = 1 := ek.trans q1
          intro w2 e2
          refine ⟨n - tS c n e + 1, digs k1 _ _ w2 (by omega) (Nat.le_refl _) ?_ ?_ ?_ (fun j r1 r2 => absurd r2 (by omega)) (fun _ => ?_) (by unfold tE; rw [if_pos (by omega), k1])⟩
          · rw [e2]; exact f1.trans (Fx.put (by unfold inM2; omega))
          · rw [e2, gI_sI, if_neg (by omega)]; exact y13
          · rw [e2, gI_sI, if_neg (by omega)]; exact y17
          · rw [e2, gI_sI, if_pos ⟨rfl, rfl⟩, Nat.sub_self]; rfl
        · have n0 : tK c n e ≠ 0 := fun r => q0 ⟨lt, ek.symm.trans r⟩
          have n1 : tK c n e ≠ 1 := fun r => q1 ⟨lt, ek.symm.trans r⟩
          have le3 := kB_le (c (tS c n e))
          intro w2 e2
          rw [y13, nI_1] at e2
          have f2 : Fx (inM2 m) u w2 := by rw [e2]; exact f1.trans (Fx.put (by unfold inM2; omega))
          have x13 : gI w2 m 13 = nI (tE c n e) := by
            rw [e2, gI_sI, if_pos ⟨rfl, rfl⟩]
            congr 1
            unfold tE
            rw [if_neg (by omega), if_neg (by omega)]
          have x17 : gI w2 m 17 = nI (tS c n e) := by rw [e2, gI_sI, if_neg (by omega)]; exact y17
          have b59 : bX c n (tS c n e) = 59 ↔ (tS c n e < n ∧ c (tS c n e) = 59) := bX_eq hc (q := 59) (by omega)
          have last : ∀ t, t = nI (tkM (tK c n e)) → V_X12_stepOn_208 G Q m m t w2 := by
            intro t ht
            unfold V_X12_stepOn_208
            exact ⟨mk, fun w3 e3 => fin w2 f2 x13 x17 (fun r _ => absurd r n1) t w3 ht e3⟩
          refine ⟨fun r => last _ ?_, fun r => last _ ?_⟩
          · have := (b59.mp r).2
            rw [ek, this]; decide
          · have k2 : kB (c (tS c n e)) ≠ 2 := by
              intro k2
              refine r (b59.mpr ⟨lt, ?_⟩)
              unfold kB at k2
              split at k2
              · omega
              · split at k2
                · omega
                · split at k2
                  · assumption
                  · omega
            rw [show tK c n e = 3 by omega]; rfl
  induction f with
  | zero =>
    intro p w hp fw w13 hs
    have hs : p = tS c n e := hs
    show V_X12_stepOn_0_B G Q (V_X12_stepOn_0 G Q 0) m w
    unfold V_X12_stepOn_0_B
    have e32 : bX c n p = 32 ↔ (p < n ∧ c p = 32) := bX_eq hc (q := 32) (by omega)
    have e10 : bX c n p = 10 ↔ (p < n ∧ c p = 10) := bX_eq hc (q := 10) (by omega)
    refine ⟨mk, ?_⟩
    refine m_byteAt (hr.fx fw) (hb.fx fw) hn (p := p) (by omega) w13 ⟨fun q => absurd (e32.mp q).1 (by omega), fun _ => m_byteAt (hr.fx fw) (hb.fx fw) hn (p := p) (by omega) w13 ⟨fun q => absurd (e10.mp q).1 (by omega), fun _ w1 e1 => ?_⟩⟩
    rw [w13, hs] at e1
    rw [hs] at w13
    exact head w fw w13 w1 e1
  | succ f ih =>
    intro p w hp fw w13 hs
    show V_X12_stepOn_0_B G Q (V_X12_stepOn_0 G Q (f + 1)) m w
    unfold V_X12_stepOn_0_B
    have e32 : bX c n p = 32 ↔ (p < n ∧ c p = 32) := bX_eq hc (q := 32) (by omega)
    have e10 : bX c n p = 10 ↔ (p < n ∧ c p = 10) := bX_eq hc (q := 10) (by omega)
    unfold skF at hs
    have on : (c p = 32 ∨ c p = 10) → V_X12_stepOn_26 G Q (V_X12_stepOn_0 G Q (f + 1)) m w := by
      intro q
      rw [if_pos q] at hs
      unfold V_X12_stepOn_26
      refine ⟨mk, fun w2 e2 => ?_⟩
      rw [w13, nI_1] at e2
      exact ih (p + 1) w2 (by omega) (by rw [e2]; exact fw.trans (Fx.put (by unfold inM2; omega))) (by rw [e2, gI_sI, if_pos ⟨rfl, rfl⟩]) hs
    refine ⟨mk, ?_⟩
    refine m_byteAt (hr.fx fw) (hb.fx fw) hn (p := p) (by omega) w13 ⟨fun q => on (Or.inl (e32.mp q).2), fun q => m_byteAt (hr.fx fw) (hb.fx fw) hn (p := p) (by omega) w13 ⟨fun q => on (Or.inr (e10.mp q).2), fun q2 w1 e1 => ?_⟩⟩
    rw [if_neg (fun r => r.elim (fun r => q (e32.mpr ⟨by omega, r⟩)) (fun r => q2 (e10.mpr ⟨by omega, r⟩)))] at hs
    rw [w13, hs] at e1
    rw [hs] at w13
    exact head w fw w13 w1 e1
end MTOK
