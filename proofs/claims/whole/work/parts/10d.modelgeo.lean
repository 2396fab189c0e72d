/-! THE MODEL: walls, woods -/
section MG
variable {G : Gx} {u : Mm}
theorem l4_add (x : Nat) : (4 : Int32) + nI x = nI (4 + x) := nI_add 4 x
theorem l8_add (x : Nat) : (8 : Int32) + nI x = nI (8 + x) := nI_add 8 x
theorem s_X12_isIn {Q : Int32 → Mm → Prop} {x a b : Int32} (h : Q (if x < a then 0 else if b < x then 0 else 1) u) : V_X12_isIn G x a b u Q := by
  simp only [V_X12_isIn, iteI]
  simpa only [apply_ite (fun v => Q v u)] using h
theorem s_X12_ofWall {Q : Int32 → Mm → Prop} {m l k f : Nat} (hM : MR G u m) (hl : l < 7) (hk : k < 8) (hf : f < 5) (h : Q (gI u (m + 7) ((8 * l + k) * 5 + f)) u) : V_X12_ofWall G m (nI l) (nI k) (nI f) u Q := by
  obtain ⟨m0, mk, _, _, _, _, _, ⟨a1, a2, a3⟩, _⟩ := hM
  have e : ((8 : Int32) * nI l + nI k) * (5 : Int32) + nI f = nI ((8 * l + k) * 5 + f) := by
    rw [nI_litM, nI_add, nI_litR, nI_add]
  unfold V_X12_ofWall
  rw [e, a3, a1, a2, nI_clamp (by omega)]
  exact ⟨mk, by omega, rfl, vp_in_nI (by omega) (by omega), h⟩
theorem s_X12_ofBarn {Q : Int32 → Mm → Prop} {m l k f : Nat} (hM : MR G u m) (hl : l < 7) (hk : k < 8) (hf : f < 5) (h : Q (gI u (m + 8) ((8 * l + k) * 5 + f)) u) : V_X12_ofBarn G m (nI l) (nI k) (nI f) u Q := by
  obtain ⟨m0, mk, _, _, _, _, _, _, ⟨a1, a2, a3⟩, _⟩ := hM
  have e : ((8 : Int32) * nI l + nI k) * (5 : Int32) + nI f = nI ((8 * l + k) * 5 + f) := by
    rw [nI_litM, nI_add, nI_litR, nI_add]
  unfold V_X12_ofBarn
  rw [e, a3, a1, a2, nI_clamp (by omega)]
  exact ⟨mk, by omega, rfl, vp_in_nI (by omega) (by omega), h⟩
theorem s_X12_ofWood {Q : Int32 → Mm → Prop} {m l k f : Nat} (hM : MR G u m) (hl : l < 7) (hk : k < 4) (hf : f < 7) (h : Q (gI u (m + 9) ((4 * l + k) * 7 + f)) u) : V_X12_ofWood G m (nI l) (nI k) (nI f) u Q := by
  obtain ⟨m0, mk, _, _, _, _, _, _, _, ⟨a1, a2, a3⟩⟩ := hM
  have e : ((4 : Int32) * nI l + nI k) * (7 : Int32) + nI f = nI ((4 * l + k) * 7 + f) := by
    rw [nI_litM, nI_add, nI_litR, nI_add]
  unfold V_X12_ofWood
  rw [e, a3, a1, a2, nI_clamp (by omega)]
  exact ⟨mk, by omega, rfl, vp_in_nI (by omega) (by omega), h⟩
/-- of a land's own wall -/
theorem m_wall {Q : Int32 → Mm → Prop} {m l k f : Nat} {D : Ld} (hM : MR G u m) (hl : l < 7) (hD : okD D) (hC : ML u m l D) (hk : k < nW D) (hf : f < 5) (h : Q (dW D k f) u) : V_X12_ofWall G m (nI l) (nI k) (nI f) u Q :=
  s_X12_ofWall hM hl (by have := hD.1; omega) hf (by rw [hC.2.2.2.2.2.1 k hk f hf]; exact h)
theorem m_barn {Q : Int32 → Mm → Prop} {m l k f : Nat} {D : Ld} (hM : MR G u m) (hl : l < 7) (hD : okD D) (hC : ML u m l D) (hk : k < nB D) (hf : f < 5) (h : Q (dB D k f) u) : V_X12_ofBarn G m (nI l) (nI k) (nI f) u Q :=
  s_X12_ofBarn hM hl (by have := hD.2.1; omega) hf (by rw [hC.2.2.2.2.2.2.1 k hk f hf]; exact h)
theorem m_wood {Q : Int32 → Mm → Prop} {m l k f : Nat} {D : Ld} (hM : MR G u m) (hl : l < 7) (hD : okD D) (hC : ML u m l D) (hk : k < nO D) (hf : f < 7) (h : Q (dO D k f) u) : V_X12_ofWood G m (nI l) (nI k) (nI f) u Q :=
  s_X12_ofWood hM hl (by have := hD.2.2.1; omega) hf (by rw [hC.2.2.2.2.2.2.2 k hk f hf]; exact h)
def sgn (x y x2 y2 px py : Int32) : Int32 := if (x2 - x) * (py - y) - (y2 - y) * (px - x) ≤ 0 then (if 0 ≤ (x2 - x) * (py - y) - (y2 - y) * (px - x) then 0 else -1) else 1
theorem s_X12_side {Q : Int32 → Mm → Prop} {x y x2 y2 px py : Int32} (h : Q (sgn x y x2 y2 px py) u) : V_X12_side G x y x2 y2 px py u Q := by
  simp only [V_X12_side, iteI, forall_eq]
  simp only [sgn] at h
  simpa only [apply_ite (fun v => Q v u)] using h
/-- signs of four corners, and the least and greatest of them -/
theorem sgn_sum {x y x2 y2 a b c d : Int32} (hx : btw 0 40 x) (hy : btw 0 40 y) (hx2 : btw 0 40 x2) (hy2 : btw 0 40 y2) (ha : btw 0 40 a) (hb : btw 0 40 b) (hc : btw 0 40 c) (hd : btw 0 40 d) :
    (if sgn x y x2 y2 a b + sgn x y x2 y2 a d + sgn x y x2 y2 c b + sgn x y x2 y2 c d ≤ -4 then (0 : Int32) else if 4 ≤ sgn x y x2 y2 a b + sgn x y x2 y2 a d + sgn x y x2 y2 c b + sgn x y x2 y2 c d then 0 else 1)
    = (if mx ((y2 - y) * (a - x)) ((y2 - y) * (c - x)) < mn ((x2 - x) * (b - y)) ((x2 - x) * (d - y)) then 0 else if mx ((x2 - x) * (b - y)) ((x2 - x) * (d - y)) < mn ((y2 - y) * (a - x)) ((y2 - y) * (c - x)) then 0 else 1) := by
  have e1 := (btw_sub hx2 hx (by decide) (by decide)).1
  have e2 := (btw_sub hy2 hy (by decide) (by decide)).1
  have e3 := (btw_sub hb hy (by decide) (by decide)).1
  have e4 := (btw_sub hd hy (by decide) (by decide)).1
  have e5 := (btw_sub ha hx (by decide) (by decide)).1
  have e6 := (btw_sub hc hx (by decide) (by decide)).1
  have f1 := (mulI_bd (n := 40) e1 e3 (by decide) (by decide)).2
  have f2 := (mulI_bd (n := 40) e1 e4 (by decide) (by decide)).2
  have f3 := (mulI_bd (n := 40) e2 e5 (by decide) (by decide)).2
  have f4 := (mulI_bd (n := 40) e2 e6 (by decide) (by decide)).2
  unfold sgn
  generalize (x2 - x) * (b - y) = one at *
  generalize (x2 - x) * (d - y) = two at *
  generalize (y2 - y) * (a - x) = three at *
  generalize (y2 - y) * (c - x) = four at *
  have g1 := (btw_sub f1 f3 (by decide) (by decide)).2
  have g2 := (btw_sub f2 f3 (by decide) (by decide)).2
  have g3 := (btw_sub f1 f4 (by decide) (by decide)).2
  have g4 := (btw_sub f2 f4 (by decide) (by decide)).2
  have z : (0 : Int32).toInt = 0 := by decide
  have key : ∀ v : Int32, (if v ≤ 0 then (if 0 ≤ v then (0 : Int32) else -1) else 1).toInt = if v.toInt ≤ 0 then (if 0 ≤ v.toInt then 0 else -1) else 1 := by
    intro v
    simp only [fa_le, z]
    split
    · split <;> decide
    · decide
  have sm : ∀ p q r s : Int32, btw (-1) 1 p → btw (-1) 1 q → btw (-1) 1 r → btw (-1) 1 s → (p + q + r + s).toInt = p.toInt + q.toInt + r.toInt + s.toInt := by
    intro p q r s h1 h2 h3 h4
    unfold btw at h1 h2 h3 h4
    have i1 := fb_addI (x := p) (y := q) (by omega) (by omega)
    have i2 := fb_addI (x := p + q) (y := r) (by omega) (by omega)
    have i3 := fb_addI (x := p + q + r) (y := s) (by omega) (by omega)
    omega
  have kb : ∀ v : Int32, btw (-1) 1 (if v ≤ 0 then (if 0 ≤ v then (0 : Int32) else -1) else 1) := by
    intro v
    unfold btw
    rw [key]
    split
    · split <;> omega
    · omega
  have m4 : (-4 : Int32).toInt = -4 := by decide
  have p4 : (4 : Int32).toInt = 4 := by decide
  have tri : ∀ (v : Int32) (p q : Int), v.toInt = p - q → ((if v ≤ 0 then (if 0 ≤ v then (0 : Int32) else -1) else 1).toInt = 1 ∧ q < p ∨ (if v ≤ 0 then (if 0 ≤ v then (0 : Int32) else -1) else 1).toInt = 0 ∧ q = p ∨ (if v ≤ 0 then (if 0 ≤ v then (0 : Int32) else -1) else 1).toInt = -1 ∧ p < q) := by
    intro v p q hv
    rw [key]
    split
    · split <;> omega
    · omega
  have c1 := tri _ _ _ g1
  have c2 := tri _ _ _ g2
  have c3 := tri _ _ _ g3
  have c4 := tri _ _ _ g4
  have b1 := kb (one - three)
  have b2 := kb (two - three)
  have b3 := kb (one - four)
  have b4 := kb (two - four)
  clear tri kb key
  generalize (if one - three ≤ 0 then (if 0 ≤ one - three then (0 : Int32) else -1) else 1) = t1 at *
  generalize (if two - three ≤ 0 then (if 0 ≤ two - three then (0 : Int32) else -1) else 1) = t2 at *
  generalize (if one - four ≤ 0 then (if 0 ≤ one - four then (0 : Int32) else -1) else 1) = t3 at *
  generalize (if two - four ≤ 0 then (if 0 ≤ two - four then (0 : Int32) else -1) else 1) = t4 at *
  simp only [fa_le, fa_lt, mx_I, mn_I, sm _ _ _ _ b1 b2 b3 b4, m4, p4]
  clear sm b1 b2 b3 b4 g1 g2 g3 g4
  generalize t1.toInt = s1 at *
  generalize t2.toInt = s2 at *
  generalize t3.toInt = s3 at *
  generalize t4.toInt = s4 at *
  generalize one.toInt = i1 at *
  generalize two.toInt = i2 at *
  generalize three.toInt = i3 at *
  generalize four.toInt = i4 at *
  have d1 : s1 + s2 + s3 + s4 ≤ -4 ↔ max i1 i2 < min i3 i4 := by omega
  have d2 : 4 ≤ s1 + s2 + s3 + s4 ↔ max i3 i4 < min i1 i2 := by omega
  simp only [d1, d2]
  by_cases w1 : max i1 i2 < min i3 i4
  · by_cases w2 : max i3 i4 < min i1 i2
    · simp [w1, w2]
    · simp [w1, w2]
  · simp [w1]
theorem m_meets {Q : Int32 → Mm → Prop} {m l k : Nat} {D : Ld} {x y x2 y2 : Int32} (hM : MR G u m) (hl : l < 7) (hD : okD D) (hC : ML u m l D) (hk : k < nO D) (hx : btw 0 40 x) (hy : btw 0 40 y) (hx2 : btw 0 40 x2) (hy2 : btw 0 40 y2) (h : Q (bI (mtW D k x y x2 y2)) u) : V_X12_meets G m (nI l) (nI k) x y x2 y2 u Q := by
  obtain ⟨d0, d1, d2, d3, _⟩ := hD.2.2.2.2.2.2.2 k hk
  unfold V_X12_meets
  refine ⟨hM.2.1, m_wood (f := 0) hM hl hD hC hk (by decide) (m_wood (f := 1) hM hl hD hC hk (by decide) (m_wood (f := 2) hM hl hD hC hk (by decide) (m_wood (f := 3) hM hl hD hC hk (by decide) ?_)))⟩
  have key := sgn_sum hx hy hx2 hy2 d0 d1 d2 d3
  unfold mtW mts at h
  simp only [apply_ite bI, show bI false = 0 from rfl, show bI true = 1 from rfl] at h
  rw [← key] at h
  refine ⟨fun c => by rw [if_pos c] at h; exact h, fun c => ?_⟩
  rw [if_neg c] at h
  refine ⟨fun c => by rw [if_pos c] at h; exact h, fun c => ?_⟩
  rw [if_neg c] at h
  refine ⟨fun c => by rw [if_pos c] at h; exact h, fun c => ?_⟩
  rw [if_neg c] at h
  refine ⟨fun c => ?_, fun c => by rw [if_neg c] at h; exact h⟩
  rw [if_pos c] at h
  refine s_X12_side (s_X12_side (s_X12_side (s_X12_side ?_)))
  intro w hw
  subst hw
  refine ⟨fun c => by rw [if_pos c] at h; exact h, fun c => ?_⟩
  rw [if_neg c] at h
  refine ⟨fun c => by rw [if_pos c] at h; exact h, fun c => ?_⟩
  rw [if_neg c] at h
  exact h
/-- through a wood, so many times -/
theorem tw_in {Q : Int32 → Mm → Prop} {K : Nat → Int32 → Int32 → Int32 → Int32 → Int32 → Int32 → Int32 → Int32 → Int32 → Mm → Prop} {m l k tone times : Nat} {D : Ld} {x y x2 y2 : Int32} (hM : MR G u m) (hl : l < 7) (hD : okD D) (hC : ML u m l D) (hk : k < nO D) (ht : tone < 3) (hm : times < 100) : ∀ (n j : Nat) (v : Int32), j + n = times → K m (nI l) (nI tone) (nI times) x y x2 y2 (thr (dO D k (4 + tone)) n v) (nI (k + 1)) u → V_X12_throughWoods_41 G Q K (n + 1) m (nI l) (nI tone) (nI times) x y x2 y2 v (nI k) (nI j) u := by
  intro n
  induction n with
  | zero =>
    intro j v hj hK
    show V_X12_throughWoods_41_B G Q K (V_X12_throughWoods_41 G Q K 0) m (nI l) (nI tone) (nI times) x y x2 y2 v (nI k) (nI j) u
    unfold V_X12_throughWoods_41_B V_X12_throughWoods_75
    refine ⟨fun _ y' hy' => ?_, fun c => absurd (nI_le (by omega) (by omega)) c⟩
    rw [hy', nI_1]
    exact hK
  | succ n ih =>
    intro j v hj hK
    show V_X12_throughWoods_41_B G Q K (V_X12_throughWoods_41 G Q K (n + 1)) m (nI l) (nI tone) (nI times) x y x2 y2 v (nI k) (nI j) u
    unfold V_X12_throughWoods_41_B
    refine ⟨fun c => ?_, fun _ => ?_⟩
    · rw [nI_leI (by omega) (by omega)] at c
      omega
    · rw [l4_add]
      refine ⟨hM.2.1, m_wood hM hl hD hC hk (by omega) (fun z hz w hw => ?_)⟩
      rw [hw, nI_1, hz]
      exact ih (j + 1) _ (by omega) hK
theorem tw_loop {Q : Int32 → Mm → Prop} {m l tone times : Nat} {D : Ld} {x y x2 y2 v : Int32} (hM : MR G u m) (hl : l < 7) (hD : okD D) (hC : ML u m l D) (hx : btw 0 40 x) (hy : btw 0 40 y) (hx2 : btw 0 40 x2) (hy2 : btw 0 40 y2) (ht : tone < 3) (hm : times < 100) (hQ : Q (wds D x y x2 y2 tone times (nO D) v) u) : ∀ (n k : Nat), k + n = nO D → V_X12_throughWoods_6 G Q (n + 1) m (nI l) (nI tone) (nI times) x y x2 y2 (wds D x y x2 y2 tone times k v) (nI k) u := by
  have hM' := hM
  obtain ⟨m0, mk, _, _, ⟨a1, a2, a3⟩, _⟩ := hM'
  have c3 := hC.2.2.1
  have d3 := hD.2.2.1
  have el : (nI l).toNatClampNeg = l := nI_clamp (by omega)
  intro n
  induction n with
  | zero =>
    intro k hk
    show V_X12_throughWoods_6_B G Q (V_X12_throughWoods_6 G Q 0) m (nI l) (nI tone) (nI times) x y x2 y2 _ (nI k) u
    unfold V_X12_throughWoods_6_B
    rw [a3, a1, a2, el, c3]
    refine ⟨mk, by omega, rfl, vp_in_nI hl (by omega), fun _ => ?_, fun c => absurd (nI_le (by omega) (by omega)) c⟩
    rw [show k = nO D by omega]
    exact hQ
  | succ n ih =>
    intro k hk
    have st := ih (k + 1) (by omega)
    show V_X12_throughWoods_6_B G Q (V_X12_throughWoods_6 G Q (n + 1)) m (nI l) (nI tone) (nI times) x y x2 y2 _ (nI k) u
    unfold V_X12_throughWoods_6_B
    rw [a3, a1, a2, el, c3]
    refine ⟨mk, by omega, rfl, vp_in_nI hl (by omega), fun c => ?_, fun _ => ?_⟩
    · rw [nI_leI (by omega) (by omega)] at c
      omega
    · have ew : wds D x y x2 y2 tone times (k + 1) v = (if mtW D k x y x2 y2 then thr (dO D k (4 + tone)) times (wds D x y x2 y2 tone times k v) else wds D x y x2 y2 tone times k v) := rfl
      refine m_meets hM hl hD hC (by omega) hx hy hx2 hy2 ⟨fun c => ?_, fun c => ?_⟩
      · unfold V_X12_throughWoods_75
        intro y' hy'
        rw [bI_0] at c
        rw [ew, if_neg (by rw [c]; decide)] at st
        rw [hy', nI_1]
        exact st
      · have c' : mtW D k x y x2 y2 = true := by
          cases hh : mtW D k x y x2 y2
          · exact absurd (bI_0.mpr hh) c
          · rfl
        rw [ew, if_pos c'] at st
        exact ⟨times + 1, tw_in hM hl hD hC (by omega) ht hm times 0 _ (by omega) st⟩
theorem s_X12_throughWoods {Q : Int32 → Mm → Prop} {m l tone times : Nat} {D : Ld} {x y x2 y2 v : Int32} (hM : MR G u m) (hl : l < 7) (hD : okD D) (hC : ML u m l D) (hx : btw 0 40 x) (hy : btw 0 40 y) (hx2 : btw 0 40 x2) (hy2 : btw 0 40 y2) (ht : tone < 3) (hm : times < 100) (hQ : Q (wds D x y x2 y2 tone times (nO D) v) u) : V_X12_throughWoods G m (nI l) (nI tone) v (nI times) x y x2 y2 u Q :=
  ⟨nO D + 1, tw_loop hM hl hD hC hx hy hx2 hy2 ht hm hQ (nO D) 0 (by omega)⟩
/-- hidden by a wall that isn't gone -/
def hdn (D : Ld) (aw : Nat) (x y x2 y2 : Int32) : Bool := (List.range (nW D)).any (fun k => !aw.testBit (8 + k) && hidW D k x y x2 y2)
theorem ih_loop {Q : Int32 → Mm → Prop} {m l aw : Nat} {D : Ld} {x y x2 y2 : Int32} (hM : MR G u m) (hl : l < 7) (hD : okD D) (hC : ML u m l D) (ha : aw < 2 ^ 31) (hQ : Q (bI (hdn D aw x y x2 y2)) u) : ∀ (n k : Nat), k + n = nW D → (∀ j, j < k → (!aw.testBit (8 + j) && hidW D j x y x2 y2) = false) → V_X12_isHidden_3 G Q (n + 1) m (nI l) (nI aw) x y x2 y2 (nI k) u := by
  have hM' := hM
  obtain ⟨m0, mk, ⟨a1, a2, a3⟩, _⟩ := hM'
  have c1 := hC.1
  have d1 := hD.1
  have el : (nI l).toNatClampNeg = l := nI_clamp (by omega)
  intro n
  induction n with
  | zero =>
    intro k hk hn
    show V_X12_isHidden_3_B G Q (V_X12_isHidden_3 G Q 0) m (nI l) (nI aw) x y x2 y2 (nI k) u
    unfold V_X12_isHidden_3_B
    rw [a3, a1, a2, el, c1]
    refine ⟨mk, by omega, rfl, vp_in_nI hl (by omega), fun _ => ?_, fun c => absurd (nI_le (by omega) (by omega)) c⟩
    have : hdn D aw x y x2 y2 = false := by
      unfold hdn
      rw [List.any_eq_false]
      intro j hj
      rw [List.mem_range] at hj
      rw [hn j (by omega)]
      decide
    rw [this] at hQ
    exact hQ
  | succ n ih =>
    intro k hk hn
    have hkw : k < nW D := by omega
    have go : (!aw.testBit (8 + k) && hidW D k x y x2 y2) = false → V_X12_isHidden_206 G Q (V_X12_isHidden_3 G Q (n + 1)) m (nI l) (nI aw) x y x2 y2 (nI k) u := by
      intro hf
      unfold V_X12_isHidden_206
      intro y' hy'
      rw [hy', nI_1]
      refine ih (k + 1) (by omega) (fun j hj => ?_)
      by_cases e : j = k
      · rw [e]; exact hf
      · exact hn j (by omega)
    have yes : (!aw.testBit (8 + k) && hidW D k x y x2 y2) = true → Q 1 u := by
      intro ht
      have : hdn D aw x y x2 y2 = true := by
        unfold hdn
        rw [List.any_eq_true]
        exact ⟨k, List.mem_range.mpr hkw, ht⟩
      rw [this] at hQ
      exact hQ
    show V_X12_isHidden_3_B G Q (V_X12_isHidden_3 G Q (n + 1)) m (nI l) (nI aw) x y x2 y2 (nI k) u
    unfold V_X12_isHidden_3_B
    rw [a3, a1, a2, el, c1, l8_add, bit_s ha (by omega)]
    refine ⟨mk, by omega, rfl, vp_in_nI hl (by omega), fun c => ?_, fun _ => ⟨fun c => ?_, fun c => ?_⟩⟩
    · rw [nI_leI (by omega) (by omega)] at c
      omega
    · refine go ?_
      by_cases q : aw.testBit (8 + k) = true
      · rw [q]; rfl
      · rw [if_neg q] at c
        exact absurd c (by decide)
    · have q : aw.testBit (8 + k) = false := by
        cases q : aw.testBit (8 + k)
        · rfl
        · rw [q] at c
          exact absurd rfl c
      rw [q] at go yes
      simp only [Bool.not_false, Bool.true_and] at go yes
      have W : ∀ f, f < 5 → ∀ {P : Int32 → Mm → Prop}, P (dW D k f) u → V_X12_ofWall G m (nI l) (nI k) (nI f) u P := fun f hf _ hp => m_wall hM hl hD hC hkw hf hp
      refine W 0 (by decide) ?_
      have tail : ∀ (lv a b c d : Int32), (hidW D k x y x2 y2 = hid (dW D k 1) (dW D k 2) (dW D k 3) a b c d) → ((lv = 0 ∧ a = x ∧ b = x2 ∧ c = y ∧ d = y2) ∨ (¬ lv = 0 ∧ a = y ∧ b = y2 ∧ c = x ∧ d = x2)) → V_X12_isHidden_47 G Q (V_X12_isHidden_3 G Q (n + 1)) m (nI l) (nI aw) x y x2 y2 (nI k) lv u := by
        intro lv a b c d he hv
        rw [he] at go yes
        have last : V_X12_isHidden_74 G Q (V_X12_isHidden_3 G Q (n + 1)) m (nI l) (nI aw) x y x2 y2 (nI k) lv a b u := by
          unfold V_X12_isHidden_74
          refine ⟨mk, W 1 (by decide) ⟨fun c1 => ?_, fun c1 => ⟨fun c2 => ?_, fun c2 => ?_⟩⟩⟩
          · exact go (by unfold hid; rw [if_pos c1])
          · intro w hw
            subst hw
            have fin : V_X12_isHidden_148 G Q (V_X12_isHidden_3 G Q (n + 1)) m (nI l) (nI aw) x y x2 y2 (nI k) a (dW D k 1) (ab (b - a)) c d u := by
              unfold V_X12_isHidden_148
              intro w hw
              subst hw
              refine ⟨mk, W 2 (by decide) ⟨fun c3 => ?_, fun c3 => W 3 (by decide) ⟨fun c4 => ?_, fun c4 => ?_⟩⟩⟩
              · exact go (by unfold hid; rw [if_neg c1, if_pos c2, if_pos c3])
              · exact go (by unfold hid; rw [if_neg c1, if_pos c2, if_neg c3, if_pos c4])
              · exact yes (by unfold hid; rw [if_neg c1, if_pos c2, if_neg c3, if_neg c4])
            unfold V_X12_isHidden_134
            rcases hv with ⟨g0, g1, g2, g3, g4⟩ | ⟨g0, g1, g2, g3, g4⟩
            · subst g3 g4
              exact ⟨fun _ => ⟨fun _ => fin, fun q => absurd g0 q⟩, fun q => absurd g0 q⟩
            · subst g3 g4
              exact ⟨fun q => absurd q g0, fun _ => ⟨fun q => absurd q g0, fun _ => fin⟩⟩
          · exact go (by unfold hid; rw [if_neg c1, if_neg c2])
        unfold V_X12_isHidden_47 V_X12_isHidden_60
        rcases hv with ⟨g0, g1, g2, g3, g4⟩ | ⟨g0, g1, g2, g3, g4⟩
        · subst g1 g2
          exact ⟨fun _ => ⟨fun _ => last, fun q => absurd g0 q⟩, fun q => absurd g0 q⟩
        · subst g1 g2
          exact ⟨fun q => absurd q g0, fun _ => ⟨fun q => absurd q g0, fun _ => last⟩⟩
      refine ⟨fun g => ?_, fun g => ?_⟩
      · exact tail 1 y y2 x x2 (by unfold hidW; rw [if_pos g]) (Or.inr ⟨by decide, rfl, rfl, rfl, rfl⟩)
      · exact tail 0 x x2 y y2 (by unfold hidW; rw [if_neg g]) (Or.inl ⟨rfl, rfl, rfl, rfl, rfl⟩)
theorem s_X12_isHidden {Q : Int32 → Mm → Prop} {m l aw : Nat} {D : Ld} {x y x2 y2 : Int32} (hM : MR G u m) (hl : l < 7) (hD : okD D) (hC : ML u m l D) (ha : aw < 2 ^ 31) (hQ : Q (bI (hdn D aw x y x2 y2)) u) : V_X12_isHidden G m (nI l) (nI aw) x y x2 y2 u Q :=
  ⟨nW D + 1, ih_loop hM hl hD hC ha hQ (nW D) 0 (by omega) (fun j hj => absurd hj (by omega))⟩
theorem s_X12_reach {Q : Int32 → Mm → Prop} {m l k : Nat} {D : Ld} {x y : Int32} (hM : MR G u m) (hl : l < 7) (hD : okD D) (hC : ML u m l D) (hk : k < nW D) (hQ : Q (rch D k x y) u) : V_X12_reach G m (nI l) (nI k) x y u Q := by
  have W : ∀ f, f < 5 → ∀ {P : Int32 → Mm → Prop}, P (dW D k f) u → V_X12_ofWall G m (nI l) (nI k) (nI f) u P := fun f hf _ hp => m_wall hM hl hD hC hk hf hp
  have mk := hM.2.1
  unfold V_X12_reach
  refine ⟨mk, W 0 (by decide) ⟨fun g => ?_, fun g => ?_⟩⟩
  · unfold rch at hQ
    rw [if_pos g] at hQ
    unfold V_X12_reach_16 V_X12_reach_29 V_X12_reach_71
    refine ⟨fun q => absurd q (by decide), fun _ => ⟨mk, W 2 (by decide) (W 3 (by decide) (s_X12_isIn ?_))⟩⟩
    refine ⟨fun q => ?_, fun q => W 1 (by decide) ⟨fun r => absurd r (by decide), fun _ => ?_⟩⟩
    · by_cases c1 : x < dW D k 2
      · rw [if_pos c1] at hQ; exact hQ
      · rw [if_neg c1] at q hQ
        by_cases c2 : dW D k 3 < x
        · rw [if_pos c2] at hQ; exact hQ
        · rw [if_neg c2] at q; exact absurd q (by decide)
    · by_cases c1 : x < dW D k 2
      · rw [if_pos c1] at q; exact absurd rfl q
      · rw [if_neg c1] at q hQ
        by_cases c2 : dW D k 3 < x
        · rw [if_pos c2] at q; exact absurd rfl q
        · rw [if_neg c2] at hQ; exact hQ
  · unfold rch at hQ
    rw [if_neg g] at hQ
    unfold V_X12_reach_16 V_X12_reach_29 V_X12_reach_71
    refine ⟨fun _ => ⟨mk, W 2 (by decide) (W 3 (by decide) (s_X12_isIn ?_))⟩, fun q => absurd rfl q⟩
    refine ⟨fun q => ?_, fun q => W 1 (by decide) ⟨fun _ => ?_, fun r => absurd rfl r⟩⟩
    · by_cases c1 : y < dW D k 2
      · rw [if_pos c1] at hQ; exact hQ
      · rw [if_neg c1] at q hQ
        by_cases c2 : dW D k 3 < y
        · rw [if_pos c2] at hQ; exact hQ
        · rw [if_neg c2] at q; exact absurd q (by decide)
    · by_cases c1 : y < dW D k 2
      · rw [if_pos c1] at q; exact absurd rfl q
      · rw [if_neg c1] at q hQ
        by_cases c2 : dW D k 3 < y
        · rw [if_pos c2] at q; exact absurd rfl q
        · rw [if_neg c2] at hQ; exact hQ
end MG
