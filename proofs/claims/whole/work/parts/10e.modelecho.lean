/-! THE MODEL: echoes -/
/-- all but some cells is as it was -/
def Fx (S : Nat → Nat → Prop) (u u' : Mm) : Prop := u'.2 = u.2 ∧ ∀ a j, ¬ S a j → gI u' a j = gI u a j
theorem Fx.rfl' {S : Nat → Nat → Prop} {u : Mm} : Fx S u u := ⟨rfl, fun _ _ _ => rfl⟩
theorem Fx.trans {S : Nat → Nat → Prop} {u v w : Mm} (h : Fx S u v) (h2 : Fx S v w) : Fx S u w := ⟨h2.1.trans h.1, fun a j q => (h2.2 a j q).trans (h.2 a j q)⟩
theorem Fx.mono {S T : Nat → Nat → Prop} {u v : Mm} (h : Fx S u v) (hs : ∀ a j, S a j → T a j) : Fx T u v := ⟨h.1, fun a j q => h.2 a j (fun c => q (hs a j c))⟩
theorem Fx.put {S : Nat → Nat → Prop} {u : Mm} {a j : Nat} {v : Int32} (hs : S a j) : Fx S u (sI u a j v) := by
  refine ⟨rfl, fun b k q => ?_⟩
  rw [gI_sI]
  split
  · rename_i c; rw [c.1, c.2] at q; exact absurd hs q
  · rfl
theorem Fx.gR {S : Nat → Nat → Prop} {u v : Mm} (h : Fx S u v) (a j : Nat) : gR v a j = gR u a j := by
  show v.2.1 a j = u.2.1 a j
  rw [h.1]
theorem Fx.kMR {S : Nat → Nat → Prop} {G : Gx} {u v : Mm} {m : Nat} (h : Fx S u v) (hM : MR G u m) : MR G v m := by
  unfold MR at *
  simp only [h.gR]
  exact hM
theorem Fx.kLR {S : Nat → Nat → Prop} {G : Gx} {u v : Mm} {a : Nat} (h : Fx S u v) (hM : LR G u a) : LR G v a := by
  unfold LR at *
  simp only [h.gR]
  exact hM
def AR (G : Gx) (u : Mm) (m j o n : Nat) : Prop := kd G (m + o) = 13 ∧ ln G (m + o) = n ∧ gR u m j = m + o
theorem Fx.kAR {S : Nat → Nat → Prop} {G : Gx} {u v : Mm} {m j o n : Nat} (h : Fx S u v) (hM : AR G u m j o n) : AR G v m j o n := by
  unfold AR at *
  rw [h.gR]
  exact hM
/-- the model's rows for a clap -/
def MR2 (G : Gx) (u : Mm) (m : Nat) : Prop := AR G u m 22 12 80 ∧ AR G u m 23 13 80 ∧ AR G u m 24 14 80 ∧ AR G u m 25 15 80
theorem Fx.kMR2 {S : Nat → Nat → Prop} {G : Gx} {u v : Mm} {m : Nat} (h : Fx S u v) (hM : MR2 G u m) : MR2 G v m := ⟨h.kAR hM.1, h.kAR hM.2.1, h.kAR hM.2.2.1, h.kAR hM.2.2.2⟩
def ftX (D : Ld) (k : Nat) (x : Int32) : Int32 := if dW D k 0 = 1 then x else dW D k 1
def ftY (D : Ld) (k : Nat) (y : Int32) : Int32 := if dW D k 0 = 1 then dW D k 1 else y
def fS (D : Ld) (k : Nat) (x y : Int32) (tn : Nat) : Int32 := wds D x y (ftX D k x) (ftY D k y) tn 2 (nO D) (1000 * (100 - dW D k 4) / 100)
def bS (D : Ld) (k : Nat) (x y : Int32) (tn : Nat) : Int32 := wds D x y (dB D k 0) (dB D k 1) tn 2 (nO D) (1000 * (100 - dB D k 2) / 100)
/-- a wall o that puts wall k out -/
def beats (D : Ld) (aw k : Nat) (x y : Int32) (o : Nat) : Bool := decide (o ≠ k ∧ aw.testBit (8 + o) = false ∧ dW D o 0 = dW D k 0 ∧ rch D o x y ≠ 0 ∧ (rch D o x y ≤ 0 ↔ rch D k x y ≤ 0) ∧ (ab (rch D o x y) < ab (rch D k x y) ∨ rch D o x y = rch D k x y ∧ o < k))
def isO (D : Ld) (aw k : Nat) (x y : Int32) : Bool := decide (rch D k x y = 0) || aw.testBit (8 + k) || (List.range (nW D)).any (beats D aw k x y)
def stF (D : Ld) (aw : Nat) (x y : Int32) (tn k : Nat) : Int32 := if isO D aw k x y then -1 else fS D k x y tn
def thB (D : Ld) (aw : Nat) (x y yr : Int32) (k : Nat) : Bool := decide (aw.testBit k = false ∧ ¬ yr < dB D k 3 ∧ ¬ dB D k 4 < yr ∧ ¬ (dB D k 0 = x ∧ dB D k 1 = y) ∧ hdn D aw x y (dB D k 0) (dB D k 1) = false)
def stB (D : Ld) (aw : Nat) (x y yr : Int32) (tn k : Nat) : Int32 := if thB D aw x y yr k then bS D k x y tn else -1
def sqF (D : Ld) (x y : Int32) (k : Nat) : Int32 := 4 * rch D k x y * rch D k x y
def sqB (D : Ld) (x y : Int32) (k : Nat) : Int32 := 4 * ((dB D k 0 - x) * (dB D k 0 - x) + (dB D k 1 - y) * (dB D k 1 - y))
def stS (D : Ld) (aw : Nat) (x y : Int32) (tn i j : Nat) : Int32 := if stF D aw x y tn i = -1 ∨ stF D aw x y tn j = -1 ∨ (dW D i 0 = dW D j 0 ∧ (rch D i x y ≤ 0 ↔ rch D j x y ≤ 0)) then -1 else stF D aw x y tn i * stF D aw x y tn j / 1000
def sqS (D : Ld) (x y : Int32) (i j : Nat) : Int32 := if dW D i 0 = dW D j 0 then (2 * ab (rch D i x y) + 2 * ab (rch D j x y)) * (2 * ab (rch D i x y) + 2 * ab (rch D j x y)) else sqF D x y i + sqF D x y j
/-- of each echo: what is left of it (-1: there is none), and the square of its way -/
def stE (D : Ld) (aw : Nat) (x y yr : Int32) (tn e : Nat) : Int32 :=
  if e < 8 then (if e < nW D then stF D aw x y tn e else -1) else if e < 16 then (if e - 8 < nB D then stB D aw x y yr tn (e - 8) else -1)
  else if (e - 16) / 8 < (e - 16) % 8 ∧ (e - 16) % 8 < nW D then stS D aw x y tn ((e - 16) / 8) ((e - 16) % 8) else -1
def sqE (D : Ld) (x y : Int32) (e : Nat) : Int32 :=
  if e < 8 then sqF D x y e else if e < 16 then sqB D x y (e - 8) else sqS D x y ((e - 16) / 8) ((e - 16) % 8)
section ME
variable {G : Gx}
theorem io_loop {u : Mm} {Q : Int32 → Mm → Prop} {m l aw k : Nat} {D : Ld} {x y : Int32} (hM : MR G u m) (hl : l < 7) (hD : okD D) (hC : ML u m l D) (ha : aw < 2 ^ 31) (hk : k < nW D) (hr : rch D k x y ≠ 0) (hg : aw.testBit (8 + k) = false) (hQ : Q (bI (isO D aw k x y)) u) : ∀ (n o : Nat), o + n = nW D → (∀ j, j < o → beats D aw k x y j = false) → V_X12_isOut_34 G Q (n + 1) m (nI l) (nI aw) (nI k) x y (rch D k x y) (nI o) u := by
  have hM' := hM
  obtain ⟨m0, mk, ⟨a1, a2, a3⟩, _⟩ := hM'
  have c1 := hC.1
  have d1 := hD.1
  have el : (nI l).toNatClampNeg = l := nI_clamp (by omega)
  have ei : isO D aw k x y = (List.range (nW D)).any (beats D aw k x y) := by
    unfold isO
    rw [hg]
    simp [hr]
  rw [ei] at hQ
  intro n
  induction n with
  | zero =>
    intro o ho hn
    show V_X12_isOut_34_B G Q (V_X12_isOut_34 G Q 0) m (nI l) (nI aw) (nI k) x y (rch D k x y) (nI o) u
    unfold V_X12_isOut_34_B
    rw [a3, a1, a2, el, c1]
    refine ⟨mk, by omega, rfl, vp_in_nI hl (by omega), fun _ => ?_, fun c => absurd (nI_le (by omega) (by omega)) c⟩
    have : (List.range (nW D)).any (beats D aw k x y) = false := by
      rw [List.any_eq_false]
      intro j hj
      rw [List.mem_range] at hj
      rw [hn j (by omega)]
      decide
    rw [this] at hQ
    exact hQ
  | succ n ih =>
    intro o ho hn
    have how : o < nW D := by omega
    have go : beats D aw k x y o = false → V_X12_isOut_154 G Q (V_X12_isOut_34 G Q (n + 1)) m (nI l) (nI aw) (nI k) x y (rch D k x y) (nI o) u := by
      intro hf
      unfold V_X12_isOut_154
      intro y' hy'
      rw [hy', nI_1]
      refine ih (o + 1) (by omega) (fun j hj => ?_)
      by_cases e : j = o
      · rw [e]; exact hf
      · exact hn j (by omega)
    have yes : beats D aw k x y o = true → Q 1 u := by
      intro ht
      have : (List.range (nW D)).any (beats D aw k x y) = true := by
        rw [List.any_eq_true]
        exact ⟨o, List.mem_range.mpr how, ht⟩
      rw [this] at hQ
      exact hQ
    show V_X12_isOut_34_B G Q (V_X12_isOut_34 G Q (n + 1)) m (nI l) (nI aw) (nI k) x y (rch D k x y) (nI o) u
    unfold V_X12_isOut_34_B
    rw [a3, a1, a2, el, c1, l8_add, bit_s ha (by omega)]
    refine ⟨mk, by omega, rfl, vp_in_nI hl (by omega), fun c => ?_, fun _ => s_X12_reach hM hl hD hC how ⟨fun c => ?_, fun c => ⟨fun c2 => ?_, fun c2 => ?_⟩⟩⟩
    · rw [nI_leI (by omega) (by omega)] at c
      omega
    · rw [nI_eq (by omega) (by omega)] at c
      exact go (by simp [beats, c])
    · refine go ?_
      by_cases q : aw.testBit (8 + o) = true
      · simp [beats, q]
      · rw [if_neg q] at c2
        exact absurd c2 (by decide)
    · rw [nI_eq (by omega) (by omega)] at c
      have q : aw.testBit (8 + o) = false := by
        cases q : aw.testBit (8 + o)
        · rfl
        · rw [q] at c2
          exact absurd rfl c2
      refine m_wall (f := 0) hM hl hD hC how (by decide) (m_wall (f := 0) hM hl hD hC hk (by decide) ⟨fun c3 => ⟨fun c4 => ?_, fun c4 => ?_⟩, fun c3 => ?_⟩)
      · exact go (by simp [beats, c4])
      · have fin : ∀ s t : Int32, ((s = t) ↔ (rch D o x y ≤ 0 ↔ rch D k x y ≤ 0)) → V_X12_isOut_120 G Q (V_X12_isOut_34 G Q (n + 1)) m (nI l) (nI aw) (nI k) x y (rch D k x y) (nI o) (rch D o x y) s t u := by
          intro s t hst
          unfold V_X12_isOut_120
          refine ⟨fun c5 => ⟨fun c6 => ?_, fun c6 => ⟨fun c7 => ⟨fun c8 => ?_, fun c8 => ?_⟩, fun c7 => ?_⟩⟩, fun c5 => ?_⟩
          · exact yes (decide_eq_true ⟨c, q, c3, c4, hst.mp c5, Or.inl c6⟩)
          · refine go (decide_eq_false (fun w => ?_))
            rw [nI_leI (by omega) (by omega)] at c8
            rcases w.2.2.2.2.2 with w | w
            · exact c6 w
            · omega
          · rw [nI_leI (by omega) (by omega)] at c8
            exact yes (decide_eq_true ⟨c, q, c3, c4, hst.mp c5, Or.inr ⟨c7, by omega⟩⟩)
          · refine go (decide_eq_false (fun w => ?_))
            rcases w.2.2.2.2.2 with w | w
            · exact c6 w
            · exact c7 w.1
          · exact go (decide_eq_false (fun w => c5 (hst.mpr w.2.2.2.2.1)))
        unfold V_X12_isOut_110
        refine ⟨fun g1 => ⟨fun g2 => fin 0 0 ?_, fun g2 => fin 0 1 ?_⟩, fun g1 => ⟨fun g2 => fin 1 0 ?_, fun g2 => fin 1 1 ?_⟩⟩
        · simp [g1, g2]
        · simp only [g1, g2]; decide
        · simp only [g1, g2]; decide
        · simp [g1, g2]
      · exact go (decide_eq_false (fun w => c3 w.2.2.1))
theorem s_X12_isOut {u : Mm} {Q : Int32 → Mm → Prop} {m l aw k : Nat} {D : Ld} {x y : Int32} (hM : MR G u m) (hl : l < 7) (hD : okD D) (hC : ML u m l D) (ha : aw < 2 ^ 31) (hk : k < nW D) (hQ : Q (bI (isO D aw k x y)) u) : V_X12_isOut G m (nI l) (nI aw) (nI k) x y u Q := by
  have d1 := hD.1
  unfold V_X12_isOut
  rw [l8_add, bit_s ha (by omega)]
  refine ⟨hM.2.1, s_X12_reach hM hl hD hC hk ⟨fun c => ?_, fun c => ⟨fun c2 => ?_, fun c2 => ?_⟩⟩⟩
  · have : isO D aw k x y = true := by simp [isO, c]
    rw [this] at hQ
    exact hQ
  · have q : aw.testBit (8 + k) = true := by
      cases q : aw.testBit (8 + k)
      · rw [q] at c2
        exact absurd c2 (by decide)
      · rfl
    have : isO D aw k x y = true := by simp [isO, q]
    rw [this] at hQ
    exact hQ
  · have q : aw.testBit (8 + k) = false := by
      cases q : aw.testBit (8 + k)
      · rfl
      · rw [q] at c2
        exact absurd rfl c2
    exact ⟨nW D + 1, io_loop hM hl hD hC ha hk c q hQ (nW D) 0 (by omega) (fun j hj => absurd hj (by omega))⟩
/-- the first echo of a wall -/
theorem s_X12_firstOf {u : Mm} {Q : Mm → Prop} {m l k tn : Nat} {D : Ld} {x y : Int32} (hM : MR G u m) (hM2 : MR2 G u m) (hl : l < 7) (hD : okD D) (hC : ML u m l D) (hx : btw 0 40 x) (hy : btw 0 40 y) (ht : tn < 3) (hk : k < nW D) (hQ : Q (sI (sI u (m + 13) k (sqF D x y k)) (m + 12) k (fS D k x y tn))) : V_X12_firstOf G m (nI l) (nI k) x y (nI tn) u Q := by
  have d1 := hD.1
  have mk := hM.2.1
  obtain ⟨⟨s1, s2, s3⟩, ⟨q1, q2, q3⟩, _⟩ := hM2
  have m0 := hM.1
  obtain ⟨lv, b1, b2, b3, b4⟩ := hD.2.2.2.2.2.1 k hk
  have ek : (nI k).toNatClampNeg = k := nI_clamp (by omega)
  unfold V_X12_firstOf
  refine ⟨mk, s_X12_reach hM hl hD hC hk (m_wall (f := 0) hM hl hD hC hk (by decide) ?_)⟩
  have hC2 : ML (sI u (m + 13) k (4 * rch D k x y * rch D k x y)) m l D := hC.same (fun b j h1 h2 => by rw [gI_sI, if_neg (by omega)])
  have fin : ∀ fx fy : Int32, fx = ftX D k x → fy = ftY D k y → btw 0 40 fx → btw 0 40 fy → V_X12_firstOf_105 G Q (m + 12) (nI k) m (nI l) (nI tn) (1000 * (100 - dW D k 4) / 100) 2 x y fx fy (sI u (m + 13) k (4 * rch D k x y * rch D k x y)) := by
    intro fx fy e1 e2 h1 h2
    unfold V_X12_firstOf_105
    refine ⟨mk, s_X12_throughWoods (times := 2) hM hl hD hC2 hx hy h1 h2 ht (by decide) ⟨s1, by rw [s2]; exact vp_in_nI (by omega) (by omega), fun w hw => ?_⟩⟩
    rw [hw, ek, e1, e2]
    exact hQ
  have lv2 : ∀ t : Int32, (t = 0 ∧ ¬ dW D k 0 = 1) ∨ (¬ t = 0 ∧ dW D k 0 = 1) → V_X12_firstOf_27 G Q m (nI l) (nI k) x y (nI tn) (rch D k x y) t u := by
    intro t hT
    unfold V_X12_firstOf_27
    rw [q3, q1, q2, ek]
    refine ⟨mk, by omega, rfl, vp_in_nI (by omega) (by omega), fun w hw => ?_⟩
    subst hw
    rw [gR_sI, s3]
    refine ⟨by omega, m_wall (f := 4) hM hl hD hC2 hk (by decide) ?_⟩
    rcases hT with ⟨t0, t1⟩ | ⟨t0, t1⟩
    · refine ⟨fun _ => m_wall (f := 1) hM hl hD hC2 hk (by decide) ?_, fun c => absurd t0 c⟩
      unfold V_X12_firstOf_88
      exact ⟨fun _ => fin _ _ (by unfold ftX; rw [if_neg t1]) (by unfold ftY; rw [if_neg t1]) b1 hy, fun c => absurd t0 c⟩
    · refine ⟨fun c => absurd c t0, fun _ => ?_⟩
      unfold V_X12_firstOf_88
      exact ⟨fun c => absurd c t0, fun _ => ⟨mk, m_wall (f := 1) hM hl hD hC2 hk (by decide) (fin _ _ (by unfold ftX; rw [if_pos t1]) (by unfold ftY; rw [if_pos t1]) hx b1)⟩⟩
  exact ⟨fun c => lv2 1 (Or.inr ⟨by decide, c⟩), fun c => lv2 0 (Or.inl ⟨rfl, c⟩)⟩
/-- the echo of a barn -/
theorem s_X12_barnOf {u : Mm} {Q : Mm → Prop} {m l k aw tn : Nat} {D : Ld} {x y yr : Int32} (hM : MR G u m) (hM2 : MR2 G u m) (hl : l < 7) (hD : okD D) (hC : ML u m l D) (hx : btw 0 40 x) (hy : btw 0 40 y) (ht : tn < 3) (ha : aw < 2 ^ 31) (hk : k < nB D) (hQ1 : thB D aw x y yr k = true → Q (sI (sI u (m + 13) (8 + k) (sqB D x y k)) (m + 12) (8 + k) (bS D k x y tn))) (hQ0 : thB D aw x y yr k = false → Q u) : V_X12_barnOf G m (nI l) (nI aw) (nI k) x y yr (nI tn) u Q := by
  have d2 := hD.2.1
  have mk := hM.2.1
  obtain ⟨⟨s1, s2, s3⟩, ⟨q1, q2, q3⟩, _⟩ := hM2
  have m0 := hM.1
  obtain ⟨b0, b1, b2⟩ := hD.2.2.2.2.2.2.1 k hk
  have ek : (nI (8 + k)).toNatClampNeg = 8 + k := nI_clamp (by omega)
  have B : ∀ f, f < 5 → ∀ {P : Int32 → Mm → Prop}, P (dB D k f) u → V_X12_ofBarn G m (nI l) (nI k) (nI f) u P := fun f hf _ hp => m_barn hM hl hD hC hk hf hp
  have no : thB D aw x y yr k = false → V_X12_barnOf_66 G Q m (nI l) (nI aw) (nI k) x y (nI tn) (dB D k 0) (dB D k 1) u := by
    intro hf
    unfold V_X12_barnOf_66 V_X12_barnOf_67
    exact ⟨fun _ => hQ0 hf, fun c => absurd rfl c⟩
  unfold V_X12_barnOf
  rw [bit_s ha (by omega)]
  refine ⟨mk, B 0 (by decide) (B 1 (by decide) ⟨fun c => B 3 (by decide) (B 4 (by decide) (s_X12_isIn ?_)), fun c => no ?_⟩)⟩
  · have q : aw.testBit k = false := by
      cases q : aw.testBit k
      · rfl
      · rw [q] at c
        exact absurd c (by decide)
    by_cases c1 : yr < dB D k 3
    · rw [if_pos c1]
      exact ⟨fun _ => no (by simp [thB, c1]), fun c => absurd rfl c⟩
    · rw [if_neg c1]
      by_cases c2 : dB D k 4 < yr
      · rw [if_pos c2]
        exact ⟨fun _ => no (by simp [thB, c2]), fun c => absurd rfl c⟩
      · rw [if_neg c2]
        have yes : ¬ (dB D k 0 = x ∧ dB D k 1 = y) → V_X12_barnOf_62 G Q m (nI l) (nI aw) (nI k) x y (nI tn) (dB D k 0) (dB D k 1) u := by
          intro hne
          unfold V_X12_barnOf_62 V_X12_barnOf_67
          refine ⟨fun c => absurd c (by decide), fun _ => ⟨mk, s_X12_isHidden hM hl hD hC ha ⟨fun c3 => ?_, fun c3 => ?_⟩⟩⟩
          · rw [bI_0] at c3
            rw [l8_add, ek, q3, q1, q2]
            refine ⟨by omega, rfl, vp_in_nI (by omega) (by omega), fun w hw => ?_⟩
            subst hw
            rw [gR_sI, s3, s1, s2]
            have hC2 : ML (sI u (m + 13) (8 + k) (4 * ((dB D k 0 - x) * (dB D k 0 - x) + (dB D k 1 - y) * (dB D k 1 - y)))) m l D := hC.same (fun b j h1 h2 => by rw [gI_sI, if_neg (by omega)])
            refine ⟨by omega, m_barn (f := 2) hM hl hD hC2 hk (by decide) (s_X12_throughWoods (times := 2) hM hl hD hC2 hx hy b0 b1 ht (by decide) ⟨rfl, vp_in_nI (by omega) (by omega), fun w hw => ?_⟩)⟩
            rw [hw]
            exact hQ1 (decide_eq_true ⟨q, c1, c2, hne, c3⟩)
          · refine hQ0 (decide_eq_false (fun w => ?_))
            exact c3 (bI_0.mpr w.2.2.2.2)
        refine ⟨fun c => absurd c (by decide), fun _ => ⟨fun g1 => ⟨fun g2 => no ?_, fun g2 => yes (fun w => g2 w.2)⟩, fun g1 => yes (fun w => g1 w.1)⟩⟩
        exact decide_eq_false (fun w => w.2.2.2.1 ⟨g1, g2⟩)
  · have q : aw.testBit k = true := by
      cases q : aw.testBit k
      · rw [q] at c
        exact absurd rfl c
      · rfl
    exact decide_eq_false (fun w => by rw [q] at w; exact absurd w.1 (by decide))
end ME
