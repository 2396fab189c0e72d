/-! THE CLASS: walls, woods -/
section CG
variable {G : Gx} {u : Mm}
theorem s_X9_holds {Q : Int32 → Mm → Prop} {p : Nat} {x : Int32} (hk : kd G p = 9) (h : Q (if x < gI u p 2 then 0 else if gI u p 3 < x then 0 else 1) u) : V_X9_holds G p x u Q := by
  simp only [V_X9_holds, hk, true_and, iteI]
  simpa only [apply_ite (fun v => Q v u)] using h
theorem s_X9_stands {Q : Int32 → Mm → Prop} {p : Nat} {a b c d : Int32} (hk : kd G p = 9) (h : Q (bI (if gI u p 0 = 0 then hid (gI u p 1) (gI u p 2) (gI u p 3) b d a c else hid (gI u p 1) (gI u p 2) (gI u p 3) a c b d)) u) : V_X9_standsBetween G p a b c d u Q := by
  simp only [V_X9_standsBetween, V_X9_standsBetween_12, V_X9_standsBetween_27, V_X9_standsBetween_71, V_X9_standsBetween_86, hk, true_and, iteI, forall_eq]
  by_cases h0 : gI u p 0 = 0
  · simp only [h0, if_true, hid] at h ⊢
    simpa only [apply_ite bI, apply_ite (fun v => Q v u), show bI false = 0 from rfl, show bI true = 1 from rfl] using h
  · simp only [h0, if_false, hid] at h ⊢
    simpa only [apply_ite bI, apply_ite (fun v => Q v u), show bI false = 0 from rfl, show bI true = 1 from rfl] using h
theorem s_X9_footX {Q : Int32 → Mm → Prop} {p : Nat} {x : Int32} (hk : kd G p = 9) (h : Q (if gI u p 0 = 0 then x else gI u p 1) u) : V_X9_footX G p x u Q := by
  simp only [V_X9_footX, hk, true_and, iteI]
  simpa only [apply_ite (fun v => Q v u)] using h
theorem s_X9_footY {Q : Int32 → Mm → Prop} {p : Nat} {x : Int32} (hk : kd G p = 9) (h : Q (if gI u p 0 = 0 then gI u p 1 else x) u) : V_X9_footY G p x u Q := by
  simp only [V_X9_footY, hk, true_and, iteI]
  simpa only [apply_ite (fun v => Q v u)] using h
theorem s_X10_meets {Q : Int32 → Mm → Prop} {p : Nat} {a b c d : Int32} (hk : kd G p = 10) (h : Q (bI (mts (gI u p 0) (gI u p 1) (gI u p 2) (gI u p 3) a b c d)) u) : V_X10_meets G p a b c d u Q := by
  simp only [V_X10_meets, hk, true_and, iteI, forall_eq]
  simp only [mts] at h
  simpa only [apply_ite bI, apply_ite (fun v => Q v u), show bI false = 0 from rfl, show bI true = 1 from rfl] using h
/-- the walls between two places, as bits -/
theorem hb_loop {Q : Int32 → Mm → Prop} {a : Nat} {D : Ld} {x y x2 y2 : Int32} (hD : okD D) (hL : LR G u a) (hC : CL u a D) (hQ : Q (nI (bts (fun k => hidW D k x y x2 y2) (nW D))) u) : ∀ (n k : Nat), k + n = nW D → V_X4_hidersBetween_6 G Q (n + 1) a x y x2 y2 (nI (bts (fun k => hidW D k x y x2 y2) k)) (nI k) u := by
  obtain ⟨l0, lk, l1, l1n, l1r, l2, l2n, l2r, l3, l3n, l3r, lw, lo⟩ := hL
  have c1 := hC.1
  have cw := hC.2.2.2.2.2.1
  have d1 := hD.1
  intro n
  induction n with
  | zero =>
    intro k hk
    show V_X4_hidersBetween_6_B G Q (V_X4_hidersBetween_6 G Q 0) a x y x2 y2 _ (nI k) u
    unfold V_X4_hidersBetween_6_B
    refine ⟨lk, fun _ => ?_, fun c => absurd (by rw [c1]; exact nI_le (by omega) (by omega)) c⟩
    rw [show k = nW D by omega]
    exact hQ
  | succ n ih =>
    intro k hk
    have hkw : k < nW D := by omega
    obtain ⟨q1, q2, _⟩ := lw k (by omega)
    obtain ⟨w0, w1⟩ := cw k hkw
    have e0 : (nI k).toNatClampNeg = k := nI_clamp (by omega)
    show V_X4_hidersBetween_6_B G Q (V_X4_hidersBetween_6 G Q (n + 1)) a x y x2 y2 _ (nI k) u
    unfold V_X4_hidersBetween_6_B
    refine ⟨lk, fun c => ?_, fun _ => ?_⟩
    · rw [c1, nI_leI (by omega) (by omega)] at c
      omega
    · rw [l1r, e0, q2]
      refine ⟨by omega, l1, by rw [l1n]; exact vp_in_nI (by omega) (by omega), by omega, q1, s_X9_stands q1 ?_⟩
      have e : (if gI u (a + 2 + k) 0 = 0 then hid (gI u (a + 2 + k) 1) (gI u (a + 2 + k) 2) (gI u (a + 2 + k) 3) y y2 x x2 else hid (gI u (a + 2 + k) 1) (gI u (a + 2 + k) 2) (gI u (a + 2 + k) 3) x x2 y y2) = hidW D k x y x2 y2 := by
        rw [w0, w1 1 (by omega) (by omega), w1 2 (by omega) (by omega), w1 3 (by omega) (by omega)]
        unfold hidW
        by_cases g : dW D k 0 = 1
        · simp [g]
        · simp [g]
      rw [e]
      have st := ih (k + 1) (by omega)
      have eb : bts (fun k => hidW D k x y x2 y2) (k + 1) = bts (fun k => hidW D k x y x2 y2) k + (if hidW D k x y x2 y2 then 2 ^ k else 0) := rfl
      refine ⟨fun c => ?_, fun c => ?_⟩
      · unfold V_X4_hidersBetween_42
        intro y' hy'
        rw [bI_0] at c
        rw [eb, if_neg (by rw [c]; decide), Nat.add_zero] at st
        rw [hy', nI_1]
        exact st
      · intro z hz
        unfold V_X4_hidersBetween_42
        intro y' hy'
        have c' : hidW D k x y x2 y2 = true := by
          cases hh : hidW D k x y x2 y2
          · exact absurd (bI_0.mpr hh) c
          · rfl
        rw [eb, if_pos c'] at st
        rw [hy', nI_1, hz, shl_1 k (by omega), fa_or, bts_or]
        exact st
theorem s_X4_hidersBetween {Q : Int32 → Mm → Prop} {a : Nat} {D : Ld} {x y x2 y2 : Int32} (hD : okD D) (hL : LR G u a) (hC : CL u a D) (hQ : Q (nI (bts (fun k => hidW D k x y x2 y2) (nW D))) u) : V_X4_hidersBetween G a x y x2 y2 u Q :=
  ⟨nW D + 1, hb_loop hD hL hC hQ (nW D) 0 (by omega)⟩
/-- through a wood, so many times -/
theorem sa_in {Q : Int32 → Mm → Prop} {K : Nat → Int32 → Int32 → Int32 → Int32 → Int32 → Int32 → Int32 → Int32 → Mm → Prop} {a k tone times : Nat} {D : Ld} {x y x2 y2 : Int32} (hD : okD D) (hL : LR G u a) (hC : CL u a D) (hk : k < nO D) (ht : tone < 3) (hm : times < 100) : ∀ (n j : Nat) (v : Int32), j + n = times → K a x y x2 y2 (nI tone) (nI times) (thr (dO D k (4 + tone)) n v) (nI (k + 1)) u → V_X4_strengthAlong_47 G Q K (n + 1) a x y x2 y2 (nI tone) (nI times) v (nI k) (nI j) u := by
  obtain ⟨l0, lk, l1, l1n, l1r, l2, l2n, l2r, l3, l3n, l3r, lw, lo⟩ := hL
  have co := hC.2.2.2.2.2.2.2
  have d3 := hD.2.2.1
  obtain ⟨q1, q2, q3, q4, q5⟩ := lo k (by omega)
  have e0 : (nI k).toNatClampNeg = k := nI_clamp (by omega)
  have e1 : (nI tone).toNatClampNeg = tone := nI_clamp (by omega)
  intro n
  induction n with
  | zero =>
    intro j v hj hK
    show V_X4_strengthAlong_47_B G Q K (V_X4_strengthAlong_47 G Q K 0) a x y x2 y2 (nI tone) (nI times) v (nI k) (nI j) u
    unfold V_X4_strengthAlong_47_B V_X4_strengthAlong_84
    refine ⟨fun _ y' hy' => ?_, fun c => absurd (nI_le (by omega) (by omega)) c⟩
    rw [hy', nI_1]
    exact hK
  | succ n ih =>
    intro j v hj hK
    show V_X4_strengthAlong_47_B G Q K (V_X4_strengthAlong_47 G Q K (n + 1)) a x y x2 y2 (nI tone) (nI times) v (nI k) (nI j) u
    unfold V_X4_strengthAlong_47_B
    refine ⟨fun c => ?_, fun _ => ?_⟩
    · rw [nI_leI (by omega) (by omega)] at c
      omega
    · rw [l3r, e0, q2, q3, e1]
      refine ⟨lk, by omega, l3, by rw [l3n]; exact vp_in_nI (by omega) (by omega), by omega, q1, by omega, q4, by rw [q5]; exact vp_in_nI ht (by omega), fun z hz w hw => ?_⟩
      rw [hw, nI_1, hz, (co k hk).2 tone ht]
      exact ih (j + 1) _ (by omega) hK
theorem sa_loop {Q : Int32 → Mm → Prop} {a tone times : Nat} {D : Ld} {x y x2 y2 v : Int32} (hD : okD D) (hL : LR G u a) (hC : CL u a D) (ht : tone < 3) (hm : times < 100) (hQ : Q (wds D x y x2 y2 tone times (nO D) v) u) : ∀ (n k : Nat), k + n = nO D → V_X4_strengthAlong_16 G Q (n + 1) a x y x2 y2 (nI tone) (nI times) (wds D x y x2 y2 tone times k v) (nI k) u := by
  have hL' := hL
  obtain ⟨l0, lk, l1, l1n, l1r, l2, l2n, l2r, l3, l3n, l3r, lw, lo⟩ := hL'
  have c3 := hC.2.2.1
  have co := hC.2.2.2.2.2.2.2
  have d3 := hD.2.2.1
  intro n
  induction n with
  | zero =>
    intro k hk
    show V_X4_strengthAlong_16_B G Q (V_X4_strengthAlong_16 G Q 0) a x y x2 y2 (nI tone) (nI times) _ (nI k) u
    unfold V_X4_strengthAlong_16_B
    refine ⟨lk, fun _ => ?_, fun c => absurd (by rw [c3]; exact nI_le (by omega) (by omega)) c⟩
    rw [show k = nO D by omega]
    exact hQ
  | succ n ih =>
    intro k hk
    obtain ⟨q1, q2, q3, q4, q5⟩ := lo k (by omega)
    have e0 : (nI k).toNatClampNeg = k := nI_clamp (by omega)
    have st := ih (k + 1) (by omega)
    show V_X4_strengthAlong_16_B G Q (V_X4_strengthAlong_16 G Q (n + 1)) a x y x2 y2 (nI tone) (nI times) _ (nI k) u
    unfold V_X4_strengthAlong_16_B
    refine ⟨lk, fun c => ?_, fun _ => ?_⟩
    · rw [c3, nI_leI (by omega) (by omega)] at c
      omega
    · rw [l3r, e0, q2]
      refine ⟨by omega, l3, by rw [l3n]; exact vp_in_nI (by omega) (by omega), by omega, q1, s_X10_meets q1 ?_⟩
      rw [(co k (by omega)).1 0 (by omega), (co k (by omega)).1 1 (by omega), (co k (by omega)).1 2 (by omega), (co k (by omega)).1 3 (by omega)]
      have ew : wds D x y x2 y2 tone times (k + 1) v = (if mtW D k x y x2 y2 then thr (dO D k (4 + tone)) times (wds D x y x2 y2 tone times k v) else wds D x y x2 y2 tone times k v) := rfl
      refine ⟨fun c => ?_, fun c => ?_⟩
      · unfold V_X4_strengthAlong_84
        intro y' hy'
        rw [bI_0] at c
        rw [ew, if_neg (by unfold mtW; rw [c]; decide)] at st
        rw [hy', nI_1]
        exact st
      · have c' : mtW D k x y x2 y2 = true := by
          cases hh : mtW D k x y x2 y2
          · exact absurd (bI_0.mpr hh) c
          · rfl
        rw [ew, if_pos c'] at st
        exact ⟨times + 1, sa_in hD hL hC (by omega) ht hm times 0 _ (by omega) st⟩
theorem s_X4_strengthAlong {Q : Int32 → Mm → Prop} {a tone times : Nat} {D : Ld} {loss x y x2 y2 : Int32} (hD : okD D) (hL : LR G u a) (hC : CL u a D) (ht : tone < 3) (hm : times < 100) (hQ : Q (wds D x y x2 y2 tone times (nO D) (1000 * (100 - loss) / 100)) u) : V_X4_strengthAlong G a loss x y x2 y2 (nI tone) (nI times) u Q := by
  unfold V_X4_strengthAlong
  intro w hw
  subst hw
  exact ⟨nO D + 1, sa_loop hD hL hC ht hm hQ (nO D) 0 (by omega)⟩
end CG
