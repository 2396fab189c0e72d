/-! THE CLASS: a scene -/
def SR (G : Gx) (u : Mm) (s : Nat) : Prop := 0 < s ∧ kd G s = 6 ∧ AR G u s 3 1 6 ∧ AR G u s 4 2 6 ∧ AR G u s 5 3 6 ∧ AR G u s 6 4 6 ∧ AR G u s 7 5 6 ∧ AR G u s 8 6 6
theorem Fx.kSR {S : Nat → Nat → Prop} {G : Gx} {u v : Mm} {s : Nat} (h : Fx S u v) (hM : SR G u s) : SR G v s := by
  obtain ⟨a, b, c1, c2, c3, c4, c5, c6⟩ := hM
  exact ⟨a, b, h.kAR c1, h.kAR c2, h.kAR c3, h.kAR c4, h.kAR c5, h.kAR c6⟩
theorem CL.fx {S : Nat → Nat → Prop} {u v : Mm} {a : Nat} {D : Ld} (h : CL u a D) (hD : okD D) (hf : Fx S u v) (hs : ∀ b j, S b j → b < a ∨ a + 24 ≤ b) : CL v a D := h.same hD (fun b j h1 h2 => hf.2 b j (fun c => by have := hs b j c; omega))
/-- the side of a wall -/
def sdC (D : Ld) (k : Nat) (x y : Int32) : Int32 := if rch D k x y = 0 then -1 else if dW D k 0 = 1 then (if 0 ≤ rch D k x y then 3 else 2) else (if 0 ≤ rch D k x y then 1 else 0)
def bsq (D : Ld) (x y yr : Int32) (k : Nat) : Int32 := if yr < dB D k 3 then 0 else if dB D k 4 < yr then 0 else (dB D k 0 - x) * (dB D k 0 - x) + (dB D k 1 - y) * (dB D k 1 - y)
def hds (D : Ld) (x y yr : Int32) (k : Nat) : Int32 := if bsq D x y yr k = 0 then 0 else nI (bts (fun w => hidW D w x y (dB D k 0) (dB D k 1)) (nW D))
/-- what is written of walls below w, of barns below b -/
def SC (D : Ld) (x y yr : Int32) (tn s w b : Nat) (u : Mm) : Prop := gI u s 0 = x ∧ gI u s 1 = y ∧ gI u s 2 = nI tn
  ∧ (∀ k, k < w → gI u (s + 1) k = sdC D k x y ∧ (sdC D k x y ≠ -1 → gI u (s + 2) k = ab (rch D k x y)) ∧ (gI u (s + 5) k = -1 ∨ gI u (s + 5) k = fS D k x y tn))
  ∧ (∀ k, k < b → gI u (s + 3) k = bsq D x y yr k ∧ gI u (s + 4) k = hds D x y yr k ∧ (gI u (s + 6) k = -1 ∨ gI u (s + 6) k = bS D k x y tn))
def inS (s : Nat) : Nat → Nat → Prop := fun a _ => s ≤ a ∧ a < s + 7
section SCN
variable {G : Gx}
theorem s_X6_lookAtWall {u : Mm} {Q : Mm → Prop} {a s w : Nat} {D : Ld} {x y : Int32} (hD : okD D) (hL : LR G u a) (hC : CL u a D) (hS : SR G u s) (hw : w < nW D) (hx : gI u s 0 = x) (hy : gI u s 1 = y) (has : a + 24 ≤ s) (hQ0 : rch D w x y = 0 → Q (sI u (s + 1) w (-1))) (hQ1 : rch D w x y ≠ 0 → Q (sI (sI u (s + 1) w (sdC D w x y)) (s + 2) w (ab (rch D w x y)))) : V_X6_lookAtWall G s (a + 2 + w) (nI w) u Q := by
  have d1 := hD.1
  obtain ⟨s0, sk, ⟨t1, t2, t3⟩, ⟨r1, r2, r3⟩, _⟩ := hS
  obtain ⟨pk, _⟩ := hL.2.2.2.2.2.2.2.2.2.2.2.1 w (by omega)
  obtain ⟨w0, w1⟩ := hC.2.2.2.2.2.1 w hw
  have ew : (nI w).toNatClampNeg = w := nI_clamp (by omega)
  have e1 := w1 1 (by decide) (by decide)
  have e2 := w1 2 (by decide) (by decide)
  have e3 := w1 3 (by decide) (by decide)
  have p53 : rch D w x y = 0 → V_X6_lookAtWall_53 G Q s (nI w) u := by
    intro h
    unfold V_X6_lookAtWall_53
    rw [t3, t1, t2, ew]
    refine ⟨sk, by omega, rfl, vp_in_nI (by omega) (by omega), fun v hv => ?_⟩
    rw [hv]
    exact hQ0 h
  have p96 : rch D w x y ≠ 0 → ∀ sd z : Int32, sd = sdC D w x y → z = rch D w x y → V_X6_lookAtWall_96 G Q s (nI w) z (s + 1) (nI w) sd u := by
    intro h sd z e ez
    unfold V_X6_lookAtWall_96
    rw [t1, t2, ew]
    refine ⟨rfl, vp_in_nI (by omega) (by omega), fun v hv => ?_⟩
    subst hv
    rw [gR_sI, r3, r1, r2]
    refine ⟨sk, by omega, rfl, vp_in_nI (by omega) (by omega), fun v hv => ?_⟩
    rw [hv, e, ez]
    exact hQ1 h
  unfold V_X6_lookAtWall V_X6_lookAtWall_22 V_X6_lookAtWall_47
  simp only [forall_eq]
  rw [hx, hy, w0, e1]
  by_cases g : dW D w 0 = 1
  · rw [if_pos g]
    refine ⟨pk, fun _ => ⟨sk, fun c => p53 ?_, fun c => ⟨pk, fun _ => ⟨sk, pk, s_X9_holds pk ?_⟩, fun c => absurd rfl c⟩⟩, fun c => absurd rfl c⟩
    · unfold rch
      rw [if_pos g, c]
      split
      · rfl
      · split <;> rfl
    · skip
      rw [t3, w0, if_pos g, e2, e3]
      by_cases c1 : x < dW D w 2
      · rw [if_pos c1]
        exact ⟨fun _ => p53 (by unfold rch; rw [if_pos g, if_pos c1]), fun q => absurd rfl q⟩
      · rw [if_neg c1]
        by_cases c2 : dW D w 3 < x
        · rw [if_pos c2]
          exact ⟨fun _ => p53 (by unfold rch; rw [if_pos g, if_neg c1, if_pos c2]), fun q => absurd rfl q⟩
        · rw [if_neg c2]
          have er : rch D w x y = dW D w 1 - y := by unfold rch; rw [if_pos g, if_neg c1, if_neg c2]
          have hr : rch D w x y ≠ 0 := by rw [er]; exact c
          refine ⟨fun q => absurd q (by decide), fun _ => ⟨sk, by omega, pk, fun _ => ⟨fun c3 => p96 hr _ _ ?_ er.symm, fun c3 => p96 hr _ _ ?_ er.symm⟩, fun q => absurd rfl q⟩⟩
          · unfold sdC; rw [if_neg hr, if_pos g, er, if_pos c3]
          · unfold sdC; rw [if_neg hr, if_pos g, er, if_neg c3]
  · rw [if_neg g]
    refine ⟨pk, fun c => absurd c (by decide), fun _ => ⟨sk, fun c => p53 ?_, fun c => ⟨pk, fun c => absurd c (by decide), fun _ => ⟨sk, pk, s_X9_holds pk ?_⟩⟩⟩⟩
    · unfold rch
      rw [if_neg g, c]
      split
      · rfl
      · split <;> rfl
    · skip
      rw [t3, w0, if_neg g, e2, e3]
      by_cases c1 : y < dW D w 2
      · rw [if_pos c1]
        exact ⟨fun _ => p53 (by unfold rch; rw [if_neg g, if_pos c1]), fun q => absurd rfl q⟩
      · rw [if_neg c1]
        by_cases c2 : dW D w 3 < y
        · rw [if_pos c2]
          exact ⟨fun _ => p53 (by unfold rch; rw [if_neg g, if_neg c1, if_pos c2]), fun q => absurd rfl q⟩
        · rw [if_neg c2]
          have er : rch D w x y = dW D w 1 - x := by unfold rch; rw [if_neg g, if_neg c1, if_neg c2]
          have hr : rch D w x y ≠ 0 := by rw [er]; exact c
          refine ⟨fun q => absurd q (by decide), fun _ => ⟨sk, by omega, pk, fun q => absurd q (by decide), fun _ => ⟨fun c3 => p96 hr _ _ ?_ er.symm, fun c3 => p96 hr _ _ ?_ er.symm⟩⟩⟩
          · unfold sdC; rw [if_neg hr, if_neg g, er, if_pos c3]
          · unfold sdC; rw [if_neg hr, if_neg g, er, if_neg c3]
theorem look_b {Q : Mm → Prop} {u0 : Mm} {a s tn : Nat} {D : Ld} {x y yr : Int32} (hD : okD D) (hL : LR G u0 a) (hC : CL u0 a D) (hS : SR G u0 s) (has : a + 24 ≤ s) (hQ : ∀ u, Fx (inS s) u0 u → SC D x y yr tn s (nW D) (nB D) u → Q u) : ∀ (n k : Nat) (u : Mm), k + n = nB D → Fx (inS s) u0 u → SC D x y yr tn s (nW D) k u → V_X6_look_58 G Q (n + 1) s a yr (nI k) u := by
  have d1 := hD.1
  have d2 := hD.2.1
  intro n
  induction n with
  | zero =>
    intro k u hk hF hc
    have hC' := hC.fx hD hF (fun b j h => by unfold inS at h; omega)
    show V_X6_look_58_B G Q (V_X6_look_58 G Q 0) s a yr (nI k) u
    unfold V_X6_look_58_B
    rw [hC'.2.1]
    refine ⟨hL.2.1, fun _ => ?_, fun c => absurd (nI_le (by omega) (by omega)) c⟩
    rw [show k = nB D by omega] at hc
    exact hQ u hF hc
  | succ n ih =>
    intro k u hk hF hc
    have hC' := hC.fx hD hF (fun b j h => by unfold inS at h; omega)
    have hL' := hF.kLR hL
    have hS' := hF.kSR hS
    obtain ⟨s0, sk, _, _, ⟨t1, t2, t3⟩, ⟨r1, r2, r3⟩, _, ⟨v1, v2, v3⟩⟩ := hS'
    have hL'' := hL'
    obtain ⟨l0, lk, l1, l1n, l1r, l2, l2n, l2r, l3, l3n, l3r, lw, lo⟩ := hL''
    obtain ⟨_, _, q3, q4⟩ := lw k (by omega)
    have cb := hC'.2.2.2.2.2.2.1 k (by omega)
    have ek : (nI k).toNatClampNeg = k := nI_clamp (by omega)
    obtain ⟨hx, hy, htn, hws, hbs⟩ := hc
    show V_X6_look_58_B G Q (V_X6_look_58 G Q (n + 1)) s a yr (nI k) u
    unfold V_X6_look_58_B
    rw [hC'.2.1, l2r, l2, l2n, ek, q4]
    refine ⟨lk, fun c => ?_, fun _ => ⟨by omega, rfl, vp_in_nI (by omega) (by omega), by omega, fun p hp => ?_⟩⟩
    · rw [nI_leI (by omega) (by omega)] at c
      omega
    · subst hp
      -- the last write, and the next turn
      have p190 : ∀ (v1' v2' : Int32), v1' = bsq D x y yr k → v2' = hds D x y yr k → V_X6_look_190 G Q (V_X6_look_58 G Q (n + 1)) s a yr (nI k) (s + 4) (nI k) v2' (sI (sI u (s + 6) k (-1)) (s + 3) k v1') := by
        intro v1' v2' e1 e2
        unfold V_X6_look_190
        rw [r1, r2, ek]
        refine ⟨rfl, vp_in_nI (by omega) (by omega), fun w hw z hz => ?_⟩
        subst hw
        rw [hz, nI_1]
        refine ih (k + 1) _ (by omega) (((hF.trans (Fx.put ?_)).trans (Fx.put ?_)).trans (Fx.put ?_)) ⟨?_, ?_, ?_, fun i hi => ?_, fun i hi => ?_⟩
        · unfold inS; omega
        · unfold inS; omega
        · unfold inS; omega
        · simp only [gI_sI]; rw [if_neg (by omega), if_neg (by omega), if_neg (by omega)]; exact hx
        · simp only [gI_sI]; rw [if_neg (by omega), if_neg (by omega), if_neg (by omega)]; exact hy
        · simp only [gI_sI]; rw [if_neg (by omega), if_neg (by omega), if_neg (by omega)]; exact htn
        · simp only [gI_sI]
          rw [if_neg (by omega), if_neg (by omega), if_neg (by omega), if_neg (by omega), if_neg (by omega), if_neg (by omega), if_neg (by omega), if_neg (by omega), if_neg (by omega)]
          exact hws i hi
        · simp only [gI_sI]
          by_cases g : i = k
          · subst g
            rw [if_neg (by omega), if_pos (by simp), if_pos (by simp), if_neg (by omega), if_neg (by omega), if_pos (by simp)]
            exact ⟨e1, e2, Or.inl rfl⟩
          · rw [if_neg (by omega), if_neg (by omega), if_neg (by omega), if_neg (by omega), if_neg (by omega), if_neg (by omega), if_neg (by omega), if_neg (by omega), if_neg (by omega)]
            exact hbs i (by omega)
      have hC1 : ∀ (v' : Int32), CL (sI (sI u (s + 6) k (-1)) (s + 3) k v') a D := by
        intro v'
        refine hC'.same hD (fun b j h1 h2 => ?_)
        rw [gI_sI, gI_sI, if_neg (by omega), if_neg (by omega)]
      have p147 : ∀ v' : Int32, v' = bsq D x y yr k → V_X6_look_147 G Q (V_X6_look_58 G Q (n + 1)) s a yr (nI k) (a + 9 + k) (s + 3) (nI k) v' (sI u (s + 6) k (-1)) := by
        intro v' e1
        unfold V_X6_look_147
        rw [t1, t2, ek]
        refine ⟨rfl, vp_in_nI (by omega) (by omega), fun w hw => ?_⟩
        subst hw
        have E0 : gI (sI (sI u (s + 6) k (-1)) (s + 3) k v') (s + 3) k = v' := by rw [gI_sI, if_pos ⟨rfl, rfl⟩]
        have E1 : gI (sI (sI u (s + 6) k (-1)) (s + 3) k v') s 0 = x := by rw [gI_sI, gI_sI, if_neg (by omega), if_neg (by omega)]; exact hx
        have E2 : gI (sI (sI u (s + 6) k (-1)) (s + 3) k v') s 1 = y := by rw [gI_sI, gI_sI, if_neg (by omega), if_neg (by omega)]; exact hy
        have E3 : gI (sI (sI u (s + 6) k (-1)) (s + 3) k v') (a + 9 + k) 0 = dB D k 0 := by rw [gI_sI, gI_sI, if_neg (by omega), if_neg (by omega)]; exact cb 0 (by decide)
        have E4 : gI (sI (sI u (s + 6) k (-1)) (s + 3) k v') (a + 9 + k) 1 = dB D k 1 := by rw [gI_sI, gI_sI, if_neg (by omega), if_neg (by omega)]; exact cb 1 (by decide)
        simp only [gR_sI]
        rw [r3, t3, t1, t2, E0, E1, E2, E3, E4]
        refine ⟨sk, by omega, by omega, rfl, vp_in_nI (by omega) (by omega), fun c => p190 _ _ e1 ?_, fun c => ⟨q3, lk, s_X4_hidersBetween hD hL' (hC1 v') (p190 _ _ e1 ?_)⟩⟩
        · unfold hds
          rw [← e1, if_pos c]
        · unfold hds
          rw [← e1, if_neg c]
      have p101 : ∀ t : Int32, ((t = 0 ∧ bsq D x y yr k = 0) ∨ (¬ t = 0 ∧ bsq D x y yr k = (dB D k 0 - x) * (dB D k 0 - x) + (dB D k 1 - y) * (dB D k 1 - y))) → V_X6_look_101 G Q (V_X6_look_58 G Q (n + 1)) s a yr (nI k) (a + 9 + k) t u := by
        intro t hT
        unfold V_X6_look_101 V_X11_distanceSquare
        rw [v3, v1, v2, ek]
        refine ⟨sk, by omega, rfl, vp_in_nI (by omega) (by omega), fun w hw => ?_⟩
        subst hw
        have E1 : gI (sI u (s + 6) k (-1)) s 0 = x := by rw [gI_sI, if_neg (by omega)]; exact hx
        have E2 : gI (sI u (s + 6) k (-1)) s 1 = y := by rw [gI_sI, if_neg (by omega)]; exact hy
        have E3 : gI (sI u (s + 6) k (-1)) (a + 9 + k) 0 = dB D k 0 := by rw [gI_sI, if_neg (by omega)]; exact cb 0 (by decide)
        have E4 : gI (sI u (s + 6) k (-1)) (a + 9 + k) 1 = dB D k 1 := by rw [gI_sI, if_neg (by omega)]; exact cb 1 (by decide)
        rw [gR_sI, t3, E1, E2, E3, E4]
        refine ⟨by omega, fun c => ?_, fun c => ⟨q3, ?_⟩⟩
        · rcases hT with h | h
          · exact p147 0 h.2.symm
          · exact absurd c h.1
        · rcases hT with h | h
          · exact absurd h.1 c
          · exact p147 _ h.2.symm
      rw [cb 3 (by decide), cb 4 (by decide)]
      unfold V_X6_look_100
      refine ⟨q3, fun c => p101 0 (Or.inl ⟨rfl, ?_⟩), fun c => ⟨fun c2 => p101 0 (Or.inl ⟨rfl, ?_⟩), fun c2 => p101 1 (Or.inr ⟨by decide, ?_⟩)⟩⟩
      · unfold bsq; rw [if_pos c]
      · unfold bsq; rw [if_neg c, if_pos c2]
      · unfold bsq; rw [if_neg c, if_neg c2]
theorem look_w {Q : Mm → Prop} {u0 : Mm} {a s tn : Nat} {D : Ld} {x y yr : Int32} (hD : okD D) (hL : LR G u0 a) (hC : CL u0 a D) (hS : SR G u0 s) (has : a + 24 ≤ s) (hQ : ∀ u, Fx (inS s) u0 u → SC D x y yr tn s (nW D) (nB D) u → Q u) : ∀ (n k : Nat) (u : Mm), k + n = nW D → Fx (inS s) u0 u → SC D x y yr tn s k 0 u → V_X6_look_19 G Q (n + 1) s a yr (nI k) u := by
  have d1 := hD.1
  have d2 := hD.2.1
  intro n
  induction n with
  | zero =>
    intro k u hk hF hc
    have hC' := hC.fx hD hF (fun b j h => by unfold inS at h; omega)
    show V_X6_look_19_B G Q (V_X6_look_19 G Q 0) s a yr (nI k) u
    unfold V_X6_look_19_B
    rw [hC'.1]
    refine ⟨hL.2.1, fun _ => ?_, fun c => absurd (nI_le (by omega) (by omega)) c⟩
    rw [show k = nW D by omega] at hc
    exact ⟨nB D + 1, look_b hD hL hC hS has hQ (nB D) 0 u (by omega) hF hc⟩
  | succ n ih =>
    intro k u hk hF hc
    have hC' := hC.fx hD hF (fun b j h => by unfold inS at h; omega)
    have hL' := hF.kLR hL
    have hS' := hF.kSR hS
    have hS'' := hS'
    obtain ⟨s0, sk, _, _, _, _, ⟨v1, v2, v3⟩, _⟩ := hS''
    have hL'' := hL'
    obtain ⟨l0, lk, l1, l1n, l1r, l2, l2n, l2r, l3, l3n, l3r, lw, lo⟩ := hL''
    obtain ⟨q1, q2, _, _⟩ := lw k (by omega)
    have ek : (nI k).toNatClampNeg = k := nI_clamp (by omega)
    obtain ⟨hx, hy, htn, hws, hbs⟩ := hc
    show V_X6_look_19_B G Q (V_X6_look_19 G Q (n + 1)) s a yr (nI k) u
    unfold V_X6_look_19_B
    rw [hC'.1, v3, v1, v2, ek]
    refine ⟨lk, fun c => ?_, fun _ => ⟨sk, by omega, rfl, vp_in_nI (by omega) (by omega), fun w hw => ?_⟩⟩
    · rw [nI_leI (by omega) (by omega)] at c
      omega
    · subst hw
      simp only [gR_sI]
      rw [l1r, l1, l1n, q2]
      have hC1 : CL (sI u (s + 5) k (-1)) a D := hC'.same hD (fun b j h1 h2 => by rw [gI_sI, if_neg (by omega)])
      refine ⟨by omega, rfl, vp_in_nI (by omega) (by omega), by omega, s_X6_lookAtWall (x := x) (y := y) hD hL' hC1 hS' (by omega) (by rw [gI_sI, if_neg (by omega)]; exact hx) (by rw [gI_sI, if_neg (by omega)]; exact hy) has (fun hr => ?_) (fun hr => ?_)⟩
      · intro z hz
        rw [hz, nI_1]
        refine ih (k + 1) _ (by omega) ((hF.trans (Fx.put ?_)).trans (Fx.put ?_)) ⟨?_, ?_, ?_, fun i hi => ?_, fun i hi => absurd hi (by omega)⟩
        · unfold inS; omega
        · unfold inS; omega
        · simp only [gI_sI]; rw [if_neg (by omega), if_neg (by omega)]; exact hx
        · simp only [gI_sI]; rw [if_neg (by omega), if_neg (by omega)]; exact hy
        · simp only [gI_sI]; rw [if_neg (by omega), if_neg (by omega)]; exact htn
        · simp only [gI_sI]
          have e : sdC D k x y = -1 := by unfold sdC; rw [if_pos hr]
          by_cases g : i = k
          · subst g
            rw [if_pos (by simp), if_neg (by omega), if_neg (by omega), if_neg (by omega), if_pos (by simp)]
            exact ⟨e.symm, fun c => absurd e c, Or.inl rfl⟩
          · rw [if_neg (by omega), if_neg (by omega), if_neg (by omega), if_neg (by omega), if_neg (by omega), if_neg (by omega)]
            exact hws i (by omega)
      · intro z hz
        rw [hz, nI_1]
        refine ih (k + 1) _ (by omega) (((hF.trans (Fx.put ?_)).trans (Fx.put ?_)).trans (Fx.put ?_)) ⟨?_, ?_, ?_, fun i hi => ?_, fun i hi => absurd hi (by omega)⟩
        · unfold inS; omega
        · unfold inS; omega
        · unfold inS; omega
        · simp only [gI_sI]; rw [if_neg (by omega), if_neg (by omega), if_neg (by omega)]; exact hx
        · simp only [gI_sI]; rw [if_neg (by omega), if_neg (by omega), if_neg (by omega)]; exact hy
        · simp only [gI_sI]; rw [if_neg (by omega), if_neg (by omega), if_neg (by omega)]; exact htn
        · simp only [gI_sI]
          by_cases g : i = k
          · subst g
            rw [if_neg (by omega), if_pos (by simp), if_pos (by simp), if_neg (by omega), if_neg (by omega), if_pos (by simp)]
            exact ⟨rfl, fun _ => rfl, Or.inl rfl⟩
          · rw [if_neg (by omega), if_neg (by omega), if_neg (by omega), if_neg (by omega), if_neg (by omega), if_neg (by omega), if_neg (by omega), if_neg (by omega), if_neg (by omega)]
            exact hws i (by omega)
theorem s_X6_look {Q : Mm → Prop} {u : Mm} {a s tn : Nat} {D : Ld} {x y yr : Int32} (hD : okD D) (hL : LR G u a) (hC : CL u a D) (hS : SR G u s) (has : a + 24 ≤ s) (hQ : ∀ u', Fx (inS s) u u' → SC D x y yr tn s (nW D) (nB D) u' → Q u') : V_X6_look G s a x y yr (nI tn) u Q := by
  unfold V_X6_look
  refine ⟨hS.2.1, fun w1 h1 w2 h2 w3 h3 => ⟨nW D + 1, ?_⟩⟩
  subst h1 h2 h3
  refine look_w hD hL hC hS has hQ (nW D) 0 _ (by omega) (((Fx.rfl'.trans (Fx.put ?_)).trans (Fx.put ?_)).trans (Fx.put ?_)) ⟨?_, ?_, ?_, fun i hi => absurd hi (by omega), fun i hi => absurd hi (by omega)⟩
  · unfold inS; omega
  · unfold inS; omega
  · unfold inS; omega
  · simp [gI_sI]
  · simp [gI_sI]
  · simp [gI_sI]
end SCN
