/-! HEARD echoes: roots of their ways, in order -/
theorem rch_val {D : Ld} {k : Nat} {x y : Int32} (h : rch D k x y ≠ 0) : rch D k x y = dW D k 1 - (if dW D k 0 = 1 then y else x) := by
  by_cases g : dW D k 0 = 1
  · rw [if_pos g]
    unfold rch at h ⊢
    rw [if_pos g] at h ⊢
    split
    · rename_i c; rw [if_pos c] at h; exact absurd rfl h
    · rename_i c; rw [if_neg c] at h
      split
      · rename_i c2; rw [if_pos c2] at h; exact absurd rfl h
      · rfl
  · rw [if_neg g]
    unfold rch at h ⊢
    rw [if_neg g] at h ⊢
    split
    · rename_i c; rw [if_pos c] at h; exact absurd rfl h
    · rename_i c; rw [if_neg c] at h
      split
      · rename_i c2; rw [if_pos c2] at h; exact absurd rfl h
      · rfl
theorem nsq_le {a n : Int} (h1 : -n ≤ a) (h2 : a ≤ n) : 0 ≤ a * a ∧ a * a ≤ n * n := by
  have e := Int.natAbs_mul_self (a := a)
  have e2 := Int.natAbs_mul_self (a := n)
  have := Nat.mul_le_mul (show a.natAbs ≤ n.natAbs by omega) (show a.natAbs ≤ n.natAbs by omega)
  omega
theorem sqF_bd {D : Ld} (hD : okD D) {k : Nat} {x y : Int32} (hk : k < nW D) (hx : btw 0 40 x) (hy : btw 0 40 y) : btw 0 6400 (sqF D x y k) := by
  have b := rch_bd hD hk hx hy
  have b' := b
  unfold btw at b'
  have f4 : (4 : Int32).toInt = 4 := by decide
  have e1 := fb_mulI (x := 4) (y := rch D k x y) (by rw [f4]; omega) (by rw [f4]; omega)
  rw [f4] at e1
  have e2 := (mulI_bd (n := 160) (x := 4 * rch D k x y) (y := rch D k x y) (by unfold btw; omega) (by unfold btw; omega) (by decide) (by decide)).1
  have e3 := nsq_le b'.1 b'.2
  unfold btw sqF
  rw [e2, e1, Int.mul_assoc]
  omega
theorem sq_bd {D : Ld} (hD : okD D) {aw tn e : Nat} {x y yr : Int32} (hx : btw 0 40 x) (hy : btw 0 40 y) (h : stE D aw x y yr tn e ≠ -1) : btw 0 12800 (sqE D x y e) := by
  unfold stE at h
  unfold sqE
  by_cases e8 : e < 8
  · rw [if_pos e8] at h ⊢
    by_cases ew : e < nW D
    · have := sqF_bd hD ew hx hy
      unfold btw at *
      omega
    · rw [if_neg ew] at h
      exact absurd rfl h
  · rw [if_neg e8] at h ⊢
    by_cases e16 : e < 16
    · rw [if_pos e16] at h ⊢
      by_cases eb : e - 8 < nB D
      · obtain ⟨b0, b1, b2⟩ := hD.2.2.2.2.2.2.1 (e - 8) eb
        obtain ⟨q, hq, eq⟩ := btw_nI (n := 3200) (dsq_bd hx hy b0 b1).2
        unfold sqB
        rw [eq, show (4 : Int32) * nI q = nI (4 * q) from pk_mul 4 q]
        exact nI_btw (n := 12800) (by omega) (by decide)
      · rw [if_neg eb] at h
        exact absurd rfl h
    · rw [if_neg e16] at h ⊢
      by_cases ep : (e - 16) / 8 < (e - 16) % 8 ∧ (e - 16) % 8 < nW D
      · rw [if_pos ep] at h
        generalize (e - 16) / 8 = i at *
        generalize (e - 16) % 8 = j at *
        have hi : i < nW D := by omega
        have hj := ep.2
        have hn : ¬ noS D aw x y tn i j := by
          intro c
          unfold stS at h
          exact h (if_pos c)
        have ri : rch D i x y ≠ 0 := by
          intro c
          exact hn (Or.inl (by unfold stF isO; simp [c]))
        have rj : rch D j x y ≠ 0 := by
          intro c
          exact hn (Or.inr (Or.inl (by unfold stF isO; simp [c])))
        unfold sqS
        by_cases g : dW D i 0 = dW D j 0
        · rw [if_pos g]
          have sg : ¬ (rch D i x y ≤ 0 ↔ rch D j x y ≤ 0) := fun c => hn (Or.inr (Or.inr ⟨g, c⟩))
          have bi := rch_bd hD hi hx hy
          have bj := rch_bd hD hj hx hy
          have vi := rch_val ri
          have vj := rch_val rj
          rw [← g] at vj
          obtain ⟨_, ai, _⟩ := hD.2.2.2.2.2.1 i hi
          obtain ⟨_, aj, _⟩ := hD.2.2.2.2.2.1 j hj
          have hp : btw 0 40 (if dW D i 0 = 1 then y else x) := by split <;> assumption
          generalize (if dW D i 0 = 1 then y else x) = p at *
          have t1 := (btw_sub ai hp (by decide) (by decide)).2
          have t2 := (btw_sub aj hp (by decide) (by decide)).2
          rw [← vi] at t1
          rw [← vj] at t2
          rw [fa_le, fa_le, z32] at sg
          rw [Ne, fa_eq, z32] at ri rj
          unfold btw at bi bj ai aj hp
          have q1 := ab_I (x := rch D i x y) (by omega)
          have q2 := ab_I (x := rch D j x y) (by omega)
          have f2 : (2 : Int32).toInt = 2 := by decide
          have m1 := fb_mulI (x := 2) (y := ab (rch D i x y)) (by rw [f2]; omega) (by rw [f2]; omega)
          have m2 := fb_mulI (x := 2) (y := ab (rch D j x y)) (by rw [f2]; omega) (by rw [f2]; omega)
          rw [f2] at m1 m2
          have m3 := fb_addI (x := 2 * ab (rch D i x y)) (y := 2 * ab (rch D j x y)) (by omega) (by omega)
          have hb : -80 ≤ (2 * ab (rch D i x y) + 2 * ab (rch D j x y)).toInt ∧ (2 * ab (rch D i x y) + 2 * ab (rch D j x y)).toInt ≤ 80 := by
            rw [m3, m1, m2, q1, q2]
            omega
          have m4 := (mulI_bd (n := 80) hb hb (by decide) (by decide)).1
          have m5 := nsq_le hb.1 hb.2
          unfold btw
          rw [m4]
          omega
        · rw [if_neg g]
          have s1 := sqF_bd hD hi hx hy
          have s2 := sqF_bd hD hj hx hy
          unfold btw at *
          have := fb_addI (x := sqF D x y i) (y := sqF D x y j) (by omega) (by omega)
          omega
      · rw [if_neg ep] at h
        exact absurd rfl h
/-- the root of an echo's way -/
def rtE (D : Ld) (x y : Int32) (e : Nat) : Int32 := nI (isq (10000 * (sqE D x y e).toInt.toNat))
theorem sq_nI {D : Ld} (hD : okD D) {aw tn e : Nat} {x y yr : Int32} (hx : btw 0 40 x) (hy : btw 0 40 y) (h : stE D aw x y yr tn e ≠ -1) : ∃ q : Nat, q ≤ 12800 ∧ sqE D x y e = nI q ∧ rtE D x y e = nI (isq (10000 * q)) ∧ isq (10000 * q) ≤ 11320 := by
  obtain ⟨q, hq, eq⟩ := btw_nI (n := 12800) (sq_bd hD hx hy h)
  refine ⟨q, hq, eq, ?_, isq_le (by omega)⟩
  unfold rtE
  rw [eq, nI_toInt (by omega)]
  rfl
section HEARD
variable {G : Gx}
theorem c_root {u : Mm} {Q : Int32 → Mm → Prop} {D : Ld} (hD : okD D) {aw tn e : Nat} {x y yr : Int32} (hx : btw 0 40 x) (hy : btw 0 40 y) (h : stE D aw x y yr tn e ≠ -1) (hQ : Q (rtE D x y e) u) : V_X11_wayRoot G (sqE D x y e) u Q := by
  obtain ⟨q, h1, h2, h3, _⟩ := sq_nI hD hx hy h
  rw [h2]
  rw [h3] at hQ
  exact s_X11_wayRoot h1 hQ
theorem m_root {u : Mm} {Q : Int32 → Mm → Prop} {D : Ld} (hD : okD D) {aw tn e : Nat} {x y yr : Int32} (hx : btw 0 40 x) (hy : btw 0 40 y) (h : stE D aw x y yr tn e ≠ -1) (hQ : Q (rtE D x y e) u) : V_X12_root G (10000 * sqE D x y e) u Q := by
  obtain ⟨q, h1, h2, h3, _⟩ := sq_nI hD hx hy h
  rw [h2, show (10000 : Int32) * nI q = nI (10000 * q) from pk_mul 10000 q]
  rw [h3] at hQ
  exact s_X12_root (by omega) hQ
theorem tk_s {L : List Nat} {i : Nat} (h : i < L.length) : L.take (i + 1) = L.take i ++ [L.getD i 0] := by
  rw [List.take_add_one, List.getElem?_eq_getElem h, List.getD_eq_getElem?_getD, List.getElem?_eq_getElem h]
  rfl
/-- the roots of the echoes that are heard -/
def hLs (D : Ld) (aw : Nat) (x y yr : Int32) (tn : Nat) (h : Int32) (L : List Nat) : List Int32 := (L.filter (fun e => !decide (stE D aw x y yr tn e < h))).map (rtE D x y)
theorem hLs_app {D : Ld} {aw : Nat} {x y yr : Int32} {tn : Nat} {h : Int32} {L : List Nat} {n : Nat} : hLs D aw x y yr tn h (L ++ [n]) = hLs D aw x y yr tn h L ++ (if stE D aw x y yr tn n < h then [] else [rtE D x y n]) := by
  unfold hLs
  rw [List.filter_append, List.map_append]
  by_cases c : stE D aw x y yr tn n < h
  · simp [c]
  · simp [c]
theorem hLs_len (D : Ld) (aw : Nat) (x y yr : Int32) (tn : Nat) (h : Int32) (L : List Nat) : (hLs D aw x y yr tn h L).length ≤ L.length := by
  unfold hLs
  rw [List.length_map]
  exact List.length_filter_le _ _
def inR (e : Nat) : Nat → Nat → Prop := fun b j => (b = e ∧ j = 5) ∨ b = e + 5
theorem oh_loop {Q : Int32 → Mm → Prop} {u0 : Mm} {D : Ld} (hD : okD D) {aw tn e : Nat} {x y yr h : Int32} {L : List Nat} (hx : btw 0 40 x) (hy : btw 0 40 y) (hE : ER G u0 e) (hL : EC D aw x y yr tn e L u0) (hm : ∀ k, k ∈ L → stE D aw x y yr tn k ≠ -1) (hl : L.length ≤ 16) (hQ : ∀ u', Fx (inR e) u0 u' → gI u' e 5 = nI (hLs D aw x y yr tn h L).length → Rw u' (e + 5) 0 (hLs D aw x y yr tn h L) → Q (nI (hLs D aw x y yr tn h L).length) u') : ∀ (n i : Nat) (u : Mm), i + n = L.length → Fx (inR e) u0 u → gI u e 5 = nI (hLs D aw x y yr tn h (L.take i)).length → Rw u (e + 5) 0 (hLs D aw x y yr tn h (L.take i)) → V_X3_orderHeard_7 G Q (n + 1) e h (nI i) u := by
  intro n
  induction n with
  | zero =>
    intro i u hi hF h5 hR
    have hL' := hL.same (hF.2 e 0 (by unfold inR; omega)) (fun a j q1 q2 => hF.2 a j (by unfold inR; omega))
    show V_X3_orderHeard_7_B G Q (V_X3_orderHeard_7 G Q 0) e h (nI i) u
    unfold V_X3_orderHeard_7_B
    rw [hL'.1]
    refine ⟨hE.2.1, fun _ => ?_, fun c => absurd (nI_le (by omega) (by omega)) c⟩
    rw [List.take_of_length_le (by omega)] at h5 hR
    rw [h5]
    exact hQ u hF h5 hR
  | succ n ih =>
    intro i u hi hF h5 hR
    have hL' := hL.same (hF.2 e 0 (by unfold inR; omega)) (fun a j q1 q2 => hF.2 a j (by unfold inR; omega))
    obtain ⟨e0, ek, _, ⟨b1, b2, b3⟩, ⟨c1, c2, c3⟩, _, ⟨d1, d2, d3⟩⟩ := hF.kER hE
    obtain ⟨_, g2, g3⟩ := hL'.2 i (by omega)
    have ei : (nI i).toNatClampNeg = i := nI_clamp (by omega)
    have hmem : L.getD i 0 ∈ L := by
      rw [List.getD_eq_getElem?_getD, List.getElem?_eq_getElem (show i < L.length by omega)]
      exact List.getElem_mem _
    have hlen := hLs_len D aw x y yr tn h (L.take i)
    rw [List.length_take] at hlen
    show V_X3_orderHeard_7_B G Q (V_X3_orderHeard_7 G Q (n + 1)) e h (nI i) u
    unfold V_X3_orderHeard_7_B
    rw [hL'.1, c3, c1, c2, ei, g3]
    refine ⟨ek, fun c => ?_, fun _ => ⟨by omega, rfl, vp_in_nI (by omega) (by omega), fun c => ?_, fun c => ?_⟩⟩
    · rw [nI_leI (by omega) (by omega)] at c
      omega
    · unfold V_X3_orderHeard_55
      intro z hz
      rw [hz, nI_1]
      refine ih (i + 1) u (by omega) hF ?_ ?_
      · rw [tk_s (by omega), hLs_app, if_pos c, List.append_nil]; exact h5
      · rw [tk_s (by omega), hLs_app, if_pos c, List.append_nil]; exact hR
    · rw [d3, b3, b1, b2, g2, h5]
      refine ⟨by omega, by omega, rfl, vp_in_nI (by omega) (by omega), c_root hD hx hy (hm _ hmem) (s_X11_insert d1 (by omega) (by omega) hR (fun u' f' r' => ?_))⟩
      intro w hw
      unfold V_X3_orderHeard_55
      intro z hz
      have e5 : gI u' e 5 = nI (hLs D aw x y yr tn h (L.take i)).length := by rw [f'.2 e 5 (by omega)]; exact h5
      rw [e5, nI_1] at hw
      rw [hz, nI_1, hw]
      refine ih (i + 1) _ (by omega) ((hF.trans (f'.mono (fun b j q => by unfold inR; omega))).trans (Fx.put (by unfold inR; omega))) ?_ ?_
      · rw [tk_s (by omega), hLs_app, if_neg c, gI_sI, if_pos ⟨rfl, rfl⟩, List.length_append]
        rfl
      · rw [tk_s (by omega), hLs_app, if_neg c]
        refine (r'.perm (List.perm_append_singleton _ _).symm).same (fun j hj => ?_)
        rw [gI_sI, if_neg (by omega)]
theorem s_X3_orderHeard {Q : Int32 → Mm → Prop} {u : Mm} {D : Ld} (hD : okD D) {aw tn e : Nat} {x y yr h : Int32} {L : List Nat} (hx : btw 0 40 x) (hy : btw 0 40 y) (hE : ER G u e) (hL : EC D aw x y yr tn e L u) (hm : ∀ k, k ∈ L → stE D aw x y yr tn k ≠ -1) (hl : L.length ≤ 16) (hQ : ∀ u', Fx (inR e) u u' → gI u' e 5 = nI (hLs D aw x y yr tn h L).length → Rw u' (e + 5) 0 (hLs D aw x y yr tn h L) → Q (nI (hLs D aw x y yr tn h L).length) u') : V_X3_orderHeard G e h u Q := by
  refine ⟨hE.2.1, fun w hw => ⟨L.length + 1, ?_⟩⟩
  rw [hw]
  have F0 : Fx (inR e) u (sI u e 5 0) := Fx.put (by unfold inR; omega)
  exact oh_loop hD hx hy hE hL hm hl hQ L.length 0 _ (by omega) F0 (by rw [gI_sI, if_pos ⟨rfl, rfl⟩]; rfl) (fun i hi => absurd hi (by simp [hLs]))
end HEARD
