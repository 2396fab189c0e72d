/-! PLANS: the class -/
theorem plR_app {B : Bk} {v : Int32} {s l : Nat} {P : List Nat} : plR B v s (P ++ [l]) = plR B v s P ++ (if plT B v s l = -1 then [] else [plT B v s l]) := by
  unfold plR
  rw [List.map_append, List.filter_append]
  congr 1
  by_cases c : plT B v s l = -1
  · simp [c]
  · simp [c]
theorem tk_s2 {L : List Nat} {i : Nat} (h : i < L.length) : L.take (i + 1) = L.take i ++ [L.getD i 0] := tk_s h
theorem plR_len (B : Bk) (v : Int32) (s : Nat) (P : List Nat) : (plR B v s P).length ≤ P.length := by
  unfold plR
  have := List.length_filter_le (fun t => !decide (t = -1)) (P.map (plT B v s))
  rw [List.length_map] at this
  exact this
/-- the search so far: what is wanted, how many were found, the answer -/
def SI (z : Nat) (w : Int32) (F : List (List Nat)) (u : Mm) : Prop := gI u (z + 458) 5 = w ∧ gI u (z + 458) 6 = nI F.length ∧ ((∀ j, j < F.length → w ≠ nI j) → gI u (z + 458) 7 = -1) ∧ ∀ j, j < F.length → w = nI j → gI u (z + 458) 7 = cdP (F.getD j [])
theorem gdP_l {L M : List (List Nat)} {i : Nat} (h : i < L.length) : (L ++ M).getD i [] = L.getD i [] := by
  rw [List.getD_eq_getElem?_getD, List.getD_eq_getElem?_getD, List.getElem?_append_left h]
theorem gdP_r {L : List (List Nat)} {n : List Nat} : (L ++ [n]).getD L.length [] = n := by
  rw [List.getD_eq_getElem?_getD, List.getElem?_append_right (Nat.le_refl _), Nat.sub_self]
  rfl
section PLANC
variable {G : Gx} {u : Mm}
theorem c_agrees {Q : Int32 → Mm → Prop} {z s : Nat} {B : Bk} {v : Int32} {P : List Nat} {u0 : Mm} (h : HC0 G u0 z) (hB : BC u0 (z + 172) B) (hk : okB B) (hs : s < bkN B) (nm : bkF B s 0 ≠ -1) (hv : btw 50 150 v) (ha : gI u0 (z + 458) 0 = v) (hP3 : P.length ≤ 3) (hP : ∀ a, a ∈ P → a < 82) (hc : ∀ k, k < 3 → gI u0 (z + 460) k = plC P k) (hQ : ∀ u', Fx (fun a _ => a = z + 461) u0 u' → Q (bI (plG B v s P)) u') : V_X5_agrees G (z + 458) (z + 172 + 6 + 3 * s) u0 Q := by
  have n20 := hk.1
  have l12 := (hk.2.2.1 s hs).2.2.2
  have pk5 := h.pl.2.2.1
  suffices go : ∀ (n k : Nat) (w : Mm), k + n = 3 → Fx (fun a _ => a = z + 461) u0 w → Rw w (z + 461) 0 (plR B v s (P.take k)) → V_X5_agrees_4 G Q (n + 1) (z + 458) (z + 172 + 6 + 3 * s) (nI (plR B v s (P.take k)).length) (nI k) w from ⟨4, go 3 0 u0 (by omega) Fx.rfl' (fun i hi => absurd hi (by simp [plR]))⟩
  intro n
  induction n with
  | zero =>
    intro k w hkn f rr
    have hk3 : k = 3 := by omega
    subst hk3
    rw [List.take_of_length_le hP3] at rr ⊢
    have hw := h.fx f
    obtain ⟨_, _, _, _, ⟨r1, r2, r3⟩⟩ := hw.pl.2
    obtain ⟨_, t0, tk, _, ⟨o1, o2, o3⟩⟩ := hw.bk.2.2.2.2.2.2.2.2 s (by omega)
    have hBw := hB.keep (v := w) hk (fun a j q1 q2 _ => f.2 a j (by omega))
    obtain ⟨_, g1, _, g3⟩ := hBw.2.2.1 s hs
    have hlen := plR_len B v s P
    show V_X5_agrees_4_B G Q (V_X5_agrees_4 G Q 0) (z + 458) (z + 172 + 6 + 3 * s) (nI (plR B v s P).length) (nI 3) w
    unfold V_X5_agrees_4_B
    rw [g1, r3, o3]
    refine ⟨fun _ => ⟨tk, fun c => ⟨pk5, by omega, by omega, ?_⟩, fun c => ?_⟩, fun c => absurd (nI_le (a := 3) (b := 3) (by omega) (by omega)) c⟩
    · have hl := nI_inj (by omega) (by omega) c
      have key := rows_iff (M := plR B v s P) (N := bkT B s) (f := gI w (z + 458 + 3)) (g := gI w (z + 172 + 6 + 3 * s + 2)) (fun i hi => by have := rr i hi; rw [Nat.zero_add] at this; exact this) (fun i hi => by have := g3 i hi; rw [Nat.zero_add] at this; rw [show z + 172 + 6 + 3 * s + 2 = z + 172 + 8 + 3 * s by omega]; exact this) hl
      refine s_X11_sameStart r1 o1 (by omega) (by omega) (by omega) (by omega) (fun a => ⟨fun c => absurd c (by decide), fun _ => ?_⟩) (fun a => ⟨fun _ => ?_, fun c => absurd rfl c⟩)
      · have := hQ w f
        unfold plG at this
        rw [decide_eq_true (key.mp a)] at this
        exact this
      · have := hQ w f
        unfold plG at this
        rw [decide_eq_false (fun e => a (key.mpr e))] at this
        exact this
    · have := hQ w f
      unfold plG at this
      rw [decide_eq_false] at this
      · exact this
      · intro e
        have := congrArg List.length e
        rw [srt_len, srt_len] at this
        exact c (by rw [this])
  | succ n ih =>
    intro k w hkn f rr
    have hw := h.fx f
    obtain ⟨_, _, _, ⟨q1, q2, q3⟩, ⟨r1, r2, r3⟩⟩ := hw.pl.2
    have hBw := hB.keep (v := w) hk (fun a j q1 q2 _ => f.2 a j (by omega))
    have hlen := plR_len B v s (P.take k)
    have hlk : (P.take k).length ≤ k := by rw [List.length_take]; omega
    have ec : gI w (z + 458 + 2) k = plC P k := by rw [f.2 _ _ (by omega)]; exact hc k (by omega)
    have skip : plR B v s (P.take (k + 1)) = plR B v s (P.take k) → V_X5_agrees_34 G Q (V_X5_agrees_4 G Q (n + 1)) (z + 458) (z + 172 + 6 + 3 * s) (nI (plR B v s (P.take k)).length) (nI k) (-1) w := by
      intro e
      unfold V_X5_agrees_34 V_X5_agrees_55
      refine ⟨fun _ y hy => ?_, fun c => absurd rfl c⟩
      rw [hy, nI_1]
      have st := ih (k + 1) w (by omega) f
      rw [e] at st
      exact st rr
    show V_X5_agrees_4_B G Q (V_X5_agrees_4 G Q (n + 1)) (z + 458) (z + 172 + 6 + 3 * s) (nI (plR B v s (P.take k)).length) (nI k) w
    unfold V_X5_agrees_4_B
    rw [q3, q1, q2, nI_clamp (by omega), ec]
    refine ⟨fun c => absurd ((nI_leI (a := 3) (by omega) (by omega)).mp c) (by omega), fun _ => ⟨pk5, by omega, rfl, vp_in_nI (by omega) (by omega), fun c => skip ?_, fun c => ?_⟩⟩
    · have hkP : ¬ k < P.length := by
        intro q
        unfold plC at c
        rw [if_pos q] at c
        exact nI_m1 (by have := hP _ (gd_mem q); omega) c
      rw [List.take_of_length_le (by omega), List.take_of_length_le (by omega)]
    · have hkP : k < P.length := by
        rcases Nat.lt_or_ge k P.length with q | q
        · exact q
        · unfold plC at c
          rw [if_neg (by omega)] at c
          exact absurd rfl c
      have e : plC P k = nI (P.getD k 0) := by unfold plC; rw [if_pos hkP]
      rw [e]
      refine c_tickOf hw hBw hk hs nm (hP _ (gd_mem hkP)) hv (by rw [f.2 _ _ (by omega)]; exact ha) ?_
      have es : plR B v s (P.take (k + 1)) = plR B v s (P.take k) ++ (if plT B v s (P.getD k 0) = -1 then [] else [plT B v s (P.getD k 0)]) := by rw [tk_s2 hkP, plR_app]
      by_cases q : plT B v s (P.getD k 0) = -1
      · rw [q]
        refine skip ?_
        rw [es, if_pos q, List.append_nil]
      · unfold V_X5_agrees_34 V_X5_agrees_55
        rw [r3]
        refine ⟨fun c => absurd c q, fun _ => ⟨pk5, by omega, s_X11_insert r1 (by omega) (by omega) rr (fun w2 f2 rr2 y1 hy1 y hy => ?_)⟩⟩
        rw [hy, nI_1, hy1, nI_1]
        have st := ih (k + 1) w2 (by omega) (f.trans (f2.mono (fun a j q => by omega)))
        rw [es, if_neg q, List.length_append] at st
        exact st (rr2.perm (List.perm_append_singleton _ _).symm)
/-- what the search keeps -/
def SV (z : Nat) (B : Bk) (v : Int32) (L X : List Nat) (w : Int32) (u0 : Mm) (PL : List (List Nat)) (u : Mm) : Prop := Fx (inP z) u0 u ∧ PlI z v X u ∧ SI z w (PL.filter (plF B v L)) u
def SH (G : Gx) (z : Nat) (B : Bk) (v yr : Int32) (L : List Nat) (u0 : Mm) : Prop := HC0 G u0 z ∧ BC u0 (z + 172) B ∧ okB B ∧ PkI z L u0 ∧ L.length ≤ 20 ∧ (∀ s, s ∈ L → s < bkN B ∧ bkF B s 0 ≠ -1 ∧ bkF B s 2 = yr) ∧ btw 50 150 v
theorem c_tryPlan {Q : Mm → Prop} {z : Nat} {B : Bk} {v yr w : Int32} {L X P : List Nat} {PL : List (List Nat)} {u0 : Mm} (hh : SH G z B v yr L u0) (hS : SV z B v L X w u0 PL u) (hP3 : P.length ≤ 3) (hP : ∀ a, a ∈ P → a < 82) (hb : PL.length < 92000) (hQ : ∀ u', SV z B v L X w u0 (PL ++ [P]) u' → Q u') : V_X5_tryPlan G (z + 458) (z + 172) (plC P 0) (plC P 1) (plC P 2) u Q := by
  obtain ⟨h0, hB0, hk, hp0, hL, hm, hv⟩ := hh
  obtain ⟨f, hPl, hSI⟩ := hS
  have n20 := hk.1
  have hu := h0.fx f
  have pk5 := hu.pl.2.2.1
  obtain ⟨_, _, _, ⟨q1, q2, q3⟩, ⟨r1, r2, r3⟩⟩ := hu.pl.2
  have hF : (PL.filter (plF B v L)).length ≤ PL.length := List.length_filter_le _ _
  unfold V_X5_tryPlan
  rw [q3]
  refine ⟨pk5, by omega, q1, by rw [q2]; exact vp_in_nI (n := 0) (by omega) (by omega), fun w1 e1 => ?_⟩
  have k1 : ∀ a j, gR w1 a j = gR u a j := fun a j => by rw [e1]; rfl
  rw [k1, q3]
  refine ⟨by omega, q1, by rw [q2]; exact vp_in_nI (n := 1) (by omega) (by omega), fun w2 e2 => ?_⟩
  have k2 : ∀ a j, gR w2 a j = gR u a j := fun a j => by rw [e2]; exact k1 a j
  rw [k2, q3]
  refine ⟨by omega, q1, by rw [q2]; exact vp_in_nI (n := 2) (by omega) (by omega), fun w3 e3 => ⟨L.length + 1, ?_⟩⟩
  have e1 : w1 = sI u (z + 460) 0 (plC P 0) := e1
  have e2 : w2 = sI w1 (z + 460) 1 (plC P 1) := e2
  have e3 : w3 = sI w2 (z + 460) 2 (plC P 2) := e3
  have f3 : Fx (fun a _ => a = z + 460) u w3 := by
    rw [e3, e2, e1]
    exact ((Fx.put (by omega)).trans (Fx.put (by omega))).trans (Fx.put (by omega))
  have hc3 : ∀ k, k < 3 → gI w3 (z + 460) k = plC P k := by
    intro k hk3
    have : k = 0 ∨ k = 1 ∨ k = 2 := by omega
    rcases this with rfl | rfl | rfl
    · rw [e3, gI_sI, if_neg (by omega), e2, gI_sI, if_neg (by omega), e1, gI_sI, if_pos ⟨rfl, rfl⟩]
    · rw [e3, gI_sI, if_neg (by omega), e2, gI_sI, if_pos ⟨rfl, rfl⟩]
    · rw [e3, gI_sI, if_pos ⟨rfl, rfl⟩]
  clear e1 e2 e3 k1 k2
  have keepP : ∀ x, Fx (fun a j => a = z + 460 ∨ a = z + 461 ∨ (a = z + 458 ∧ (j = 6 ∨ j = 7))) u x → Fx (inP z) u0 x ∧ PlI z v X x := by
    intro x g
    refine ⟨f.trans (g.mono (fun a j q => by unfold inP; omega)), ?_, ?_, fun i hi => ?_⟩
    · rw [g.2 _ _ (by omega)]; exact hPl.1
    · rw [g.2 _ _ (by omega)]; exact hPl.2.1
    · rw [g.2 _ _ (by omega)]; exact hPl.2.2 i hi
  suffices go : ∀ (n i : Nat) (x : Mm), i + n = L.length → Fx (fun a j => a = z + 460 ∨ a = z + 461) u x → (∀ k, k < 3 → gI x (z + 460) k = plC P k) → (∀ j, j < i → plG B v (L.getD j 0) P = true) → V_X5_tryPlan_25 G Q (n + 1) (z + 458) (z + 172) (plC P 0) (plC P 1) (plC P 2) (nI i) x from go L.length 0 w3 (Nat.zero_add _) (f3.mono (fun a j q => Or.inl q)) hc3 (fun j hj => absurd hj (by omega))
  intro n
  induction n with
  | zero =>
    intro i x hi g hc hg
    have hi' : i = L.length := by omega
    subst hi'
    have Fx0 : Fx (cst z) u0 x := (f.mono (fun a j q => inP_cst q)).trans (g.mono (fun a j q => by unfold cst; omega))
    have hp := hp0.fx Fx0
    have hx := h0.fx Fx0
    have ok : plF B v L P = true := by
      unfold plF
      rw [List.all_eq_true]
      intro s hs
      obtain ⟨j, hj, e⟩ := List.getElem_of_mem hs
      have := hg j hj
      rw [List.getD_eq_getElem?_getD, List.getElem?_eq_getElem hj] at this
      rw [← e]
      exact this
    have eF : (PL ++ [P]).filter (plF B v L) = PL.filter (plF B v L) ++ [P] := by
      rw [List.filter_append]
      congr 1
      simp [ok]
    obtain ⟨s5, s6, s7, s8⟩ := hSI
    show V_X5_tryPlan_25_B G Q (V_X5_tryPlan_25 G Q 0) (z + 458) (z + 172) (plC P 0) (plC P 1) (plC P 2) (nI L.length) x
    unfold V_X5_tryPlan_25_B V_X5_tryPlan_89
    rw [hp.1]
    have x5 : gI x (z + 458) 5 = w := by rw [g.2 _ _ (by omega)]; exact s5
    have x6 : gI x (z + 458) 6 = nI (PL.filter (plF B v L)).length := by rw [g.2 _ _ (by omega)]; exact s6
    have x7 : gI x (z + 458) 7 = gI u (z + 458) 7 := g.2 _ _ (by omega)
    rw [x5, x6]
    refine ⟨hx.bk.2.2.1, fun _ => ⟨pk5, fun e y1 ey1 => ⟨pk5, fun y2 ey2 => ?_⟩, fun e => ⟨pk5, fun y2 ey2 => ?_⟩⟩, fun c => absurd (nI_le (Nat.le_refl _) (by omega)) c⟩
    · have z6 : gI y1 (z + 458) 6 = nI (PL.filter (plF B v L)).length := by rw [ey1, gI_sI, if_neg (by omega)]; exact x6
      rw [z6, nI_1] at ey2
      have G2 : Fx (fun a j => a = z + 460 ∨ a = z + 461 ∨ (a = z + 458 ∧ (j = 6 ∨ j = 7))) u y2 := by
        rw [ey2, ey1]
        exact (g.mono (fun a j q => by omega)).trans ((Fx.put (by omega)).trans (Fx.put (by omega)))
      obtain ⟨k1, k2⟩ := keepP y2 G2
      refine hQ y2 ⟨k1, k2, ?_⟩
      rw [eF]
      have z7 : gI y2 (z + 458) 7 = cdP P := by rw [ey2, gI_sI, if_neg (by omega), ey1, gI_sI, if_pos ⟨rfl, rfl⟩]; rfl
      refine ⟨?_, ?_, fun q => ?_, fun j hj q => ?_⟩
      · rw [G2.2 _ _ (by omega)]; exact s5
      · rw [ey2, gI_sI, if_pos ⟨rfl, rfl⟩, List.length_append]; rfl
      · exact absurd e.symm (q _ (by rw [List.length_append]; show _ < _ + 1; omega))
      · rw [List.length_append] at hj
        have hj2 : j < (PL.filter (plF B v L)).length + 1 := hj
        have : j = (PL.filter (plF B v L)).length := nI_inj (by omega) (by omega) (q.symm.trans e.symm)
        rw [this, gdP_r]
        exact z7
    · rw [nI_1] at ey2
      have G2 : Fx (fun a j => a = z + 460 ∨ a = z + 461 ∨ (a = z + 458 ∧ (j = 6 ∨ j = 7))) u y2 := by
        rw [ey2]
        exact (g.mono (fun a j q => by omega)).trans (Fx.put (by omega))
      obtain ⟨k1, k2⟩ := keepP y2 G2
      refine hQ y2 ⟨k1, k2, ?_⟩
      rw [eF]
      have z7 : gI y2 (z + 458) 7 = gI u (z + 458) 7 := by rw [ey2, gI_sI, if_neg (by omega)]; exact x7
      refine ⟨?_, ?_, fun q => ?_, fun j hj q => ?_⟩
      · rw [G2.2 _ _ (by omega)]; exact s5
      · rw [ey2, gI_sI, if_pos ⟨rfl, rfl⟩, List.length_append]; rfl
      · rw [z7]
        exact s7 (fun j hj => q j (by rw [List.length_append]; omega))
      · rw [List.length_append] at hj
        have hj2 : j < (PL.filter (plF B v L)).length + 1 := hj
        have hj3 : j < (PL.filter (plF B v L)).length := by
          rcases Nat.lt_or_ge j (PL.filter (plF B v L)).length with r | r
          · exact r
          · exact absurd (by rw [q, show j = (PL.filter (plF B v L)).length by omega]) e
        rw [z7, gdP_l hj3]
        exact s8 j hj3 q
  | succ n ih =>
    intro i x hi g hc hg
    have hil : i < L.length := by omega
    obtain ⟨m1, m2, m3⟩ := hm _ (gd_memN hil)
    have Fx0 : Fx (cst z) u0 x := (f.mono (fun a j q => inP_cst q)).trans (g.mono (fun a j q => by unfold cst; omega))
    have hp := hp0.fx Fx0
    have hx := h0.fx Fx0
    obtain ⟨_, b0, b1, _, _, _, _, ⟨c5, c6, c7⟩, b11⟩ := id hx.bk
    have e5 : gR x (z + 172 + 5) i = z + 172 + 6 + 3 * L.getD i 0 := hp.2 i hil
    show V_X5_tryPlan_25_B G Q (V_X5_tryPlan_25 G Q (n + 1)) (z + 458) (z + 172) (plC P 0) (plC P 1) (plC P 2) (nI i) x
    unfold V_X5_tryPlan_25_B
    rw [hp.1, c7, c5, c6, nI_clamp (by omega), e5]
    refine ⟨b1, fun c => absurd ((nI_leI (by omega) (by omega)).mp c) (by omega), fun _ => ⟨by omega, rfl, vp_in_nI (by omega) (by omega), by omega, pk5, c_agrees hx (BC_cst hB0 hk Fx0) hk m1 m2 hv (by rw [g.2 _ _ (by omega)]; exact hPl.1) hP3 hP hc (fun y gy => ?_)⟩⟩
    have gx : Fx (fun a j => a = z + 460 ∨ a = z + 461) u y := g.trans (gy.mono (fun a j q => by omega))
    refine ⟨fun c => ?_, fun c y2 hy2 => ?_⟩
    · rw [bI_0] at c
      have no : plF B v L P = false := by
        cases q : plF B v L P
        · rfl
        · unfold plF at q
          rw [List.all_eq_true] at q
          have := q _ (gd_memN hil)
          rw [c] at this
          cases this
      have eF : (PL ++ [P]).filter (plF B v L) = PL.filter (plF B v L) := by
        rw [List.filter_append]
        simp [no]
      obtain ⟨k1, k2⟩ := keepP y (gx.mono (fun a j q => by omega))
      refine hQ y ⟨k1, k2, ?_⟩
      rw [eF]
      obtain ⟨s5, s6, s7, s8⟩ := hSI
      refine ⟨?_, ?_, fun q => ?_, fun j hj q => ?_⟩
      · rw [gx.2 _ _ (by omega)]; exact s5
      · rw [gx.2 _ _ (by omega)]; exact s6
      · rw [gx.2 _ _ (by omega)]; exact s7 q
      · rw [gx.2 _ _ (by omega)]; exact s8 j hj q
    · rw [bI_0] at c
      rw [hy2, nI_1]
      refine ih (i + 1) y (by omega) gx (fun k hk3 => by rw [gy.2 _ _ (by omega)]; exact hc k hk3) (fun j hj => ?_)
      by_cases q : j = i
      · rw [q]; exact Bool.of_not_eq_false c
      · exact hg j (by omega)
end PLANC
