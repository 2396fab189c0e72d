/-! PLANS: the model -/
theorem l82_mul (s : Nat) : (82 : Int32) * nI s = nI (82 * s) := nI_litM 82 s
/-- the tables of the model's search -/
def MT (m : Nat) (B : Bk) (v : Int32) (L : List Nat) (u : Mm) : Prop := gI u m 41 = nI L.length ∧ ∀ k, k < L.length → gI u (m + 26) k = nI (L.getD k 0) ∧ ∀ l, l < 82 → gI u (m + 25) (82 * k + l) = plT B v (L.getD k 0) l
def MHh (G : Gx) (m : Nat) (B : Bk) (v yr : Int32) (L : List Nat) (u0 : Mm) : Prop := HM G u0 m ∧ BM u0 m 16 10 27 28 B ∧ okB B ∧ MT m B v L u0 ∧ L.length ≤ 20 ∧ (∀ s, s ∈ L → s < bkN B ∧ bkF B s 0 ≠ -1 ∧ bkF B s 2 = yr) ∧ btw 50 150 v
def inQ (m : Nat) : Nat → Nat → Prop := fun a j => (a = m ∧ (j = 26 ∨ j = 42)) ∨ a = m + 14 ∨ a = m + 27
def inW (m : Nat) : Nat → Nat → Prop := fun a j => (a = m ∧ j = 26) ∨ a = m + 14
theorem inW_Q {m a j : Nat} (h : inW m a j) : inQ m a j := by unfold inW at h; unfold inQ; omega
theorem inQ_msc {m a j : Nat} (h : inQ m a j) : msc m a j := by unfold inQ at h; unfold msc; omega
theorem HM.fx {G : Gx} {P : Nat → Nat → Prop} {u v : Mm} {m : Nat} (h : HM G u m) (f : Fx P u v) : HM G v m := h.keep (fun a j _ _ => f.gR a j)
theorem BM.fx {P : Nat → Nat → Prop} {u v : Mm} {m : Nat} {B : Bk} (h : BM u m 16 10 27 28 B) (f : Fx P u v) (hp : ∀ a j, P a j → msc m a j) : BM v m 16 10 27 28 B :=
  h.keep (f.2 _ _ (fun c => by have := hp _ _ c; unfold msc at this; omega)) (f.2 _ _ (fun c => by have := hp _ _ c; unfold msc at this; omega)) (fun j => f.2 _ _ (fun c => by have := hp _ _ c; unfold msc at this; omega)) (fun c j q1 q2 => f.2 _ _ (fun c => by have := hp _ _ c; unfold msc at this; omega))
theorem MT.fx {u v : Mm} {m : Nat} {B : Bk} {w : Int32} {L : List Nat} (h : MT m B w L u) (f : Fx (inQ m) u v) : MT m B w L v := by
  refine ⟨?_, fun k hk => ⟨?_, fun l hl => ?_⟩⟩
  · rw [f.2 _ _ (by unfold inQ; omega)]; exact h.1
  · rw [f.2 _ _ (by unfold inQ; omega)]; exact (h.2 k hk).1
  · rw [f.2 _ _ (by unfold inQ; omega)]; exact (h.2 k hk).2 l hl
section PLANM
variable {G : Gx} {u : Mm}
/-- one line of the plan is laid -/
theorem lay_one {N : Mm → Prop} {m i k : Nat} {B : Bk} {v yr : Int32} {L P : List Nat} {u0 : Mm} (hh : MHh G m B v yr L u0) (hi : i < L.length) (hP : ∀ a, a ∈ P → a < 82) (hk3 : k < 3) (f : Fx (inQ m) u0 u) (g26 : gI u m 26 = nI (plR B v (L.getD i 0) (P.take k)).length) (rr : Rw u (m + 14) 0 (plR B v (L.getD i 0) (P.take k))) (hN : ∀ u', Fx (inW m) u u' → gI u' m 26 = nI (plR B v (L.getD i 0) (P.take (k + 1))).length → Rw u' (m + 14) 0 (plR B v (L.getD i 0) (P.take (k + 1))) → N u') : (plC P k = (-1 : Int32) → N u) ∧ (¬ plC P k = (-1 : Int32) → kd G m = 12 ∧ (gR u m 38) ≠ 0 ∧ kd G (gR u m 38) = 13 ∧ vp_in (nI (82 * i) + plC P k) (ln G (gR u m 38)) ∧ (((gI u (gR u m 38) (nI (82 * i) + plC P k).toNatClampNeg) = (-1 : Int32) → N u) ∧ (¬ (gI u (gR u m 38) (nI (82 * i) + plC P k).toNatClampNeg) = (-1 : Int32) → V_X12_lay G m (gI u (gR u m 38) (nI (82 * i) + plC P k).toNatClampNeg) u (fun u' => N u')))) := by
  obtain ⟨hH0, hB0, hk, hT0, hL, hm, hv⟩ := hh
  have hH := hH0.fx f
  have hT := hT0.fx f
  have m0 := hH.1.1
  obtain ⟨_, _, _, ⟨⟨a1, a2, a3⟩, _⟩⟩ := id hH
  have hlen := plR_len B v (L.getD i 0) (P.take k)
  have hlk : (P.take k).length ≤ k := by rw [List.length_take]; omega
  by_cases hkP : k < P.length
  · have e : plC P k = nI (P.getD k 0) := by unfold plC; rw [if_pos hkP]
    have h82 := hP _ (gd_mem hkP)
    have es : plR B v (L.getD i 0) (P.take (k + 1)) = plR B v (L.getD i 0) (P.take k) ++ (if plT B v (L.getD i 0) (P.getD k 0) = -1 then [] else [plT B v (L.getD i 0) (P.getD k 0)]) := by rw [tk_s2 hkP, plR_app]
    rw [e, nI_add, a3, a1, a2, nI_clamp (by omega), (hT.2 i hi).2 _ h82]
    refine ⟨fun c => absurd c (nI_m1 (by omega)), fun _ => ⟨hH.1.2.1, by omega, rfl, vp_in_nI (by omega) (by omega), fun c => ?_, fun c => ?_⟩⟩
    · refine hN u Fx.rfl' ?_ ?_
      · rw [es, if_pos c, List.append_nil]; exact g26
      · rw [es, if_pos c, List.append_nil]; exact rr
    · refine s_X12_lay hH.1 hH.2.1 (by omega) g26 rr (fun u' f' g' r' => hN u' f' ?_ ?_)
      · rw [es, if_neg c, List.length_append]; exact g'
      · rw [es, if_neg c]
        exact r'.perm (List.perm_append_singleton _ _).symm
  · have e : plC P k = -1 := by unfold plC; rw [if_neg hkP]
    have et : P.take (k + 1) = P.take k := by rw [List.take_of_length_le (by omega), List.take_of_length_le (by omega)]
    rw [e]
    refine ⟨fun _ => hN u Fx.rfl' (by rw [et]; exact g26) (by rw [et]; exact rr), fun c => absurd rfl c⟩
theorem m_isPlan {Q : Int32 → Mm → Prop} {m : Nat} {B : Bk} {v yr : Int32} {L P : List Nat} {u0 : Mm} (hh : MHh G m B v yr L u0) (hP3 : P.length ≤ 3) (hP : ∀ a, a ∈ P → a < 82) (f : Fx (inQ m) u0 u) (hQ : ∀ u', Fx (inW m) u u' → Q (bI (plF B v L P)) u') : V_X12_isPlan G m (plC P 0) (plC P 1) (plC P 2) u Q := by
  have hh' := hh
  obtain ⟨hH0, hB0, hk, hT0, hL, hm, hv⟩ := hh
  have mk := hH0.1.2.1
  have m0 := hH0.1.1
  have n20 := hk.1
  suffices go : ∀ (n i : Nat) (w : Mm), i + n = L.length → Fx (inW m) u w → (∀ j, j < i → plG B v (L.getD j 0) P = true) → V_X12_isPlan_3 G Q (n + 1) m (plC P 0) (plC P 1) (plC P 2) (nI i) w from ⟨L.length + 1, go L.length 0 u (Nat.zero_add _) Fx.rfl' (fun j hj => absurd hj (by omega))⟩
  intro n
  induction n with
  | zero =>
    intro i w hi g hg
    have hi' : i = L.length := by omega
    subst hi'
    have hT := hT0.fx (f.trans (g.mono (fun a j q => inW_Q q)))
    have ok : plF B v L P = true := by
      unfold plF
      rw [List.all_eq_true]
      intro s hs
      obtain ⟨j, hj, e⟩ := List.getElem_of_mem hs
      have := hg j hj
      rw [List.getD_eq_getElem?_getD, List.getElem?_eq_getElem hj] at this
      rw [← e]
      exact this
    show V_X12_isPlan_3_B G Q (V_X12_isPlan_3 G Q 0) m (plC P 0) (plC P 1) (plC P 2) (nI L.length) w
    unfold V_X12_isPlan_3_B
    rw [hT.1]
    refine ⟨mk, fun _ => ?_, fun c => absurd (nI_le (Nat.le_refl _) (by omega)) c⟩
    have := hQ w g
    rw [ok] at this
    exact this
  | succ n ih =>
    intro i w hi g hg
    have hil : i < L.length := by omega
    obtain ⟨m1, m2, m3⟩ := hm _ (gd_memN hil)
    have l12 := (hk.2.2.1 _ m1).2.2.2
    have Fw := f.trans (g.mono (fun a j q => inW_Q q))
    have hT := hT0.fx Fw
    show V_X12_isPlan_3_B G Q (V_X12_isPlan_3 G Q (n + 1)) m (plC P 0) (plC P 1) (plC P 2) (nI i) w
    unfold V_X12_isPlan_3_B
    rw [hT.1, l82_mul]
    refine ⟨mk, fun c => absurd ((nI_leI (by omega) (by omega)).mp c) (by omega), fun _ y hy w1 e1 => ?_⟩
    subst hy
    have g1 : Fx (inW m) u w1 := by rw [e1]; exact g.trans (Fx.put (by unfold inW; omega))
    have F1 := f.trans (g1.mono (fun a j q => inW_Q q))
    have y1 : gI w1 m 26 = nI (plR B v (L.getD i 0) (P.take 0)).length := by rw [e1, gI_sI, if_pos ⟨rfl, rfl⟩]; rfl
    have r1 : Rw w1 (m + 14) 0 (plR B v (L.getD i 0) (P.take 0)) := fun i hi => absurd hi (by simp [plR])
    clear e1
    have last : ∀ w4, Fx (inW m) u w4 → gI w4 m 26 = nI (plR B v (L.getD i 0) P).length → Rw w4 (m + 14) 0 (plR B v (L.getD i 0) P) → V_X12_isPlan_117 G Q (V_X12_isPlan_3 G Q (n + 1)) m (plC P 0) (plC P 1) (plC P 2) (nI i) w4 := by
      intro w4 g4 y4 r4
      have F4 := f.trans (g4.mono (fun a j q => inW_Q q))
      have hH4 := hH0.fx F4
      have hT4 := hT0.fx F4
      have hB4 := hB0.fx F4 (fun a j q => inQ_msc q)
      obtain ⟨_, _, _, ⟨_, ⟨b1, b2, b3⟩, _⟩⟩ := id hH4
      obtain ⟨_, s1, _, s3⟩ := hB4.2.2.1 _ m1
      simp only [Nat.add_assoc, Nat.reduceAdd] at s1
      have hlen := plR_len B v (L.getD i 0) P
      unfold V_X12_isPlan_117
      rw [b3, b1, b2, nI_clamp (by omega), (hT4.2 i hil).1]
      have key := rows_iff (M := plR B v (L.getD i 0) P) (N := bkT B (L.getD i 0)) (f := fun j => (srt (plR B v (L.getD i 0) P)).getD j 0) (g := fun j => gI w4 (m + 22) (12 * L.getD i 0 + j)) (fun _ _ => rfl) (fun j hj => s3 j hj)
      refine ⟨mk, by omega, rfl, vp_in_nI (by omega) (by omega), s_X12_isWritten hH4.1 hH4.2.1 hH4.2.2.1 (by omega) l12 (by omega) y4 s1 r4 (fun a => ⟨fun c => absurd c (by decide), fun _ y hy => ?_⟩) (fun a => ⟨fun _ => ?_, fun c => absurd rfl c⟩)⟩
      · rw [hy, nI_1]
        refine ih (i + 1) w4 (by omega) g4 (fun j hj => ?_)
        by_cases q : j = i
        · rw [q]
          unfold plG
          rw [decide_eq_true_eq]
          exact (key a.1).mp (fun j hj => a.2 j (by rw [← a.1]; exact hj))
        · exact hg j (by omega)
      · have no : plF B v L P = false := by
          cases q : plF B v L P
          · rfl
          · unfold plF at q
            rw [List.all_eq_true] at q
            have q2 := q _ (gd_memN hil)
            unfold plG at q2
            rw [decide_eq_true_eq] at q2
            have hl : (plR B v (L.getD i 0) P).length = (bkT B (L.getD i 0)).length := by
              have := congrArg List.length q2
              rw [srt_len, srt_len] at this
              exact this
            exact absurd ⟨hl, fun j hj => (key hl).mpr q2 j (by rw [hl]; exact hj)⟩ a
        have := hQ w4 g4
        rw [no] at this
        exact this
    have s1 := lay_one (N := fun w2 => V_X12_isPlan_55 G Q (V_X12_isPlan_3 G Q (n + 1)) m (plC P 0) (plC P 1) (plC P 2) (nI i) (nI (82 * i)) w2) hh' hil hP (k := 0) (by omega) F1 y1 r1 (fun w2 g2 y2 r2 => by
      have G2 := g1.trans g2
      exact lay_one (N := fun w3 => V_X12_isPlan_86 G Q (V_X12_isPlan_3 G Q (n + 1)) m (plC P 0) (plC P 1) (plC P 2) (nI i) (nI (82 * i)) w3) hh' hil hP (k := 1) (by omega) (f.trans (G2.mono (fun a j q => inW_Q q))) y2 r2 (fun w3 g3 y3 r3 => by
        have G3 := G2.trans g3
        exact lay_one (N := fun w4 => V_X12_isPlan_117 G Q (V_X12_isPlan_3 G Q (n + 1)) m (plC P 0) (plC P 1) (plC P 2) (nI i) w4) hh' hil hP (k := 2) (by omega) (f.trans (G3.mono (fun a j q => inW_Q q))) y3 r3 (fun w4 g4 y4 r4 => by
          rw [List.take_of_length_le (show P.length ≤ 2 + 1 by omega)] at y4 r4
          exact last w4 (G3.trans g4) y4 r4)))
    exact ⟨s1.1, fun c => (s1.2 c).2⟩
/-- what the model's search keeps -/
def MV (m : Nat) (B : Bk) (v : Int32) (L : List Nat) (u0 : Mm) (PL : List (List Nat)) (u : Mm) : Prop := Fx (inQ m) u0 u ∧ gI u m 42 = nI (PL.filter (plF B v L)).length ∧ ∀ j, j < (PL.filter (plF B v L)).length → gI u (m + 27) j = cdP ((PL.filter (plF B v L)).getD j [])
theorem m_tryPlan {Q : Mm → Prop} {m : Nat} {B : Bk} {v yr : Int32} {L P : List Nat} {PL : List (List Nat)} {u0 : Mm} (hh : MHh G m B v yr L u0) (hS : MV m B v L u0 PL u) (hP3 : P.length ≤ 3) (hP : ∀ a, a ∈ P → a < 82) (hb : PL.length < 92000) (hQ : ∀ u', MV m B v L u0 (PL ++ [P]) u' → Q u') : V_X12_tryPlan G m (plC P 0) (plC P 1) (plC P 2) u Q := by
  obtain ⟨f, h42, h27⟩ := hS
  have hH0 := hh.1
  have mk := hH0.1.2.1
  have m0 := hH0.1.1
  have hF : (PL.filter (plF B v L)).length ≤ PL.length := List.length_filter_le _ _
  refine ⟨mk, m_isPlan hh hP3 hP f (fun w g => ⟨fun c => ?_, fun c => ?_⟩)⟩
  · rw [bI_0] at c
    have eF : (PL ++ [P]).filter (plF B v L) = PL.filter (plF B v L) := by
      rw [List.filter_append]
      simp [c]
    refine hQ w ⟨f.trans (g.mono (fun a j q => inW_Q q)), ?_, fun j hj => ?_⟩
    · rw [eF, g.2 _ _ (by unfold inW; omega)]; exact h42
    · rw [eF] at hj ⊢
      rw [g.2 _ _ (by unfold inW; omega)]; exact h27 j hj
  · rw [bI_0] at c
    have c := Bool.of_not_eq_false c
    have eF : (PL ++ [P]).filter (plF B v L) = PL.filter (plF B v L) ++ [P] := by
      rw [List.filter_append]
      congr 1
      simp [c]
    obtain ⟨_, _, _, ⟨_, _, ⟨b1, b2, b3⟩, _⟩⟩ := hH0.fx (f.trans (g.mono (fun a j q => inW_Q q)))
    have w42 : gI w m 42 = nI (PL.filter (plF B v L)).length := by rw [g.2 _ _ (by unfold inW; omega)]; exact h42
    rw [b3, b1, b2, w42, nI_clamp (by omega)]
    refine ⟨by omega, rfl, vp_in_nI (by omega) (by omega), fun y1 e1 y2 e2 => ?_⟩
    have y42 : gI y1 m 42 = nI (PL.filter (plF B v L)).length := by rw [e1, gI_sI, if_neg (by omega)]; exact w42
    rw [y42, nI_1] at e2
    refine hQ y2 ⟨?_, ?_, fun j hj => ?_⟩
    · rw [e2, e1]
      exact (f.trans (g.mono (fun a j q => inW_Q q))).trans ((Fx.put (by unfold inQ; omega)).trans (Fx.put (by unfold inQ; omega)))
    · rw [eF, e2, gI_sI, if_pos ⟨rfl, rfl⟩, List.length_append]; rfl
    · rw [eF] at hj ⊢
      rw [List.length_append] at hj
      have hj2 : j < (PL.filter (plF B v L)).length + 1 := hj
      rw [e2, gI_sI, if_neg (by omega), e1, gI_sI]
      by_cases q : j = (PL.filter (plF B v L)).length
      · rw [if_pos ⟨rfl, q⟩, q, gdP_r]; rfl
      · rw [if_neg (by omega), gdP_l (by omega), g.2 _ _ (by unfold inW; omega)]
        exact h27 j (by omega)
def dR (c : Nat) : List Nat := (List.range 82).drop c
theorem dR_cons {c : Nat} (h : c < 82) : dR c = c :: dR (c + 1) := by
  unfold dR
  rw [drop_cons (by rw [List.length_range]; exact h)]
  congr 1
  rw [List.getD_eq_getElem?_getD, List.getElem?_range h]
  rfl
theorem dR_82 : dR 82 = [] := by
  unfold dR
  exact List.drop_of_length_le (by rw [List.length_range]; omega)
theorem dR_1 {c : Nat} (h : c < 82) : subs 1 (dR c) = [[c]] ++ subs 1 (dR (c + 1)) := by
  rw [dR_cons h]
  show (subs 0 (dR (c + 1))).map (fun P => c :: P) ++ subs 1 (dR (c + 1)) = _
  rw [subs_0]
  rfl
theorem dR_s {c k : Nat} (h : c < 82) : subs (k + 1) (dR c) = (subs k (dR (c + 1))).map (fun P => c :: P) ++ subs (k + 1) (dR (c + 1)) := by
  rw [dR_cons h]
  rfl
theorem nil1 (k : Nat) : subs (k + 1) (dR 82) = [] := by rw [dR_82]; rfl
theorem me_296 {Q : Int32 → Mm → Prop} {K1 : Nat → Int32 → Int32 → Mm → Prop} {K2 : Nat → Int32 → Int32 → Int32 → Mm → Prop} {m a b : Nat} {B : Bk} {v yr i : Int32} {L : List Nat} {u0 : Mm} (hh : MHh G m B v yr L u0) (ha : a < 82) (hb2 : b < 82) : ∀ (n c : Nat) (PL : List (List Nat)) (u : Mm), c + n = 82 → MV m B v L u0 PL u → (PL ++ (subs 1 (dR c)).map (fun P => a :: b :: P)).length ≤ 91999 → (∀ u', MV m B v L u0 (PL ++ (subs 1 (dR c)).map (fun P => a :: b :: P)) u' → K2 m i (nI a) (nI (b + 1)) u') → V_X12_plans_296 G Q K1 K2 (n + 1) m i (nI a) (nI b) (nI c) u
  | 0, c, PL, u, hc, hS, hb, hK => by
    have hc' : c = 82 := by omega
    subst hc'
    show V_X12_plans_296_B G Q K1 K2 (V_X12_plans_296 G Q K1 K2 0) m i (nI a) (nI b) (nI 82) u
    unfold V_X12_plans_296_B
    refine ⟨fun _ y hy => ?_, fun c => absurd (nI_le (a := 82) (b := 82) (by omega) (by omega)) c⟩
    rw [hy, nI_1]
    have := hK u
    rw [nil1, List.map_nil, List.append_nil] at this
    exact this hS
  | n + 1, c, PL, u, hc, hS, hb, hK => by
    have mk := hh.1.1.2.1
    rw [dR_1 (by omega), List.map_append, ← List.append_assoc] at hK hb
    show V_X12_plans_296_B G Q K1 K2 (V_X12_plans_296 G Q K1 K2 (n + 1)) m i (nI a) (nI b) (nI c) u
    unfold V_X12_plans_296_B
    refine ⟨fun q => absurd ((nI_leI (a := 82) (by omega) (by omega)).mp q) (by omega), fun _ => ⟨mk, m_tryPlan (P := [a, b, c]) hh hS (Nat.le_refl _) ?_ ?_ (fun u2 hS2 y hy => ?_)⟩⟩
    · intro x hx
      simp only [List.mem_cons, List.not_mem_nil, or_false] at hx
      omega
    · rw [List.length_append, List.length_append] at hb
      have : (List.map (fun P => a :: b :: P) [[c]]).length = 1 := rfl
      omega
    · rw [hy, nI_1]
      exact me_296 hh ha hb2 n (c + 1) _ u2 (by omega) hS2 hb hK
theorem me_283 {Q : Int32 → Mm → Prop} {K1 : Nat → Int32 → Int32 → Mm → Prop} {m a : Nat} {B : Bk} {v yr i : Int32} {L : List Nat} {u0 : Mm} (hh : MHh G m B v yr L u0) (ha : a < 82) : ∀ (n b : Nat) (PL : List (List Nat)) (u : Mm), b + n = 82 → MV m B v L u0 PL u → (PL ++ (subs 2 (dR b)).map (fun P => a :: P)).length ≤ 91999 → (∀ u', MV m B v L u0 (PL ++ (subs 2 (dR b)).map (fun P => a :: P)) u' → K1 m i (nI (a + 1)) u') → V_X12_plans_283 G Q K1 (n + 1) m i (nI a) (nI b) u
  | 0, b, PL, u, hc, hS, hb, hK => by
    have hc' : b = 82 := by omega
    subst hc'
    show V_X12_plans_283_B G Q K1 (V_X12_plans_283 G Q K1 0) m i (nI a) (nI 82) u
    unfold V_X12_plans_283_B
    refine ⟨fun _ y hy => ?_, fun c => absurd (nI_le (a := 82) (b := 82) (by omega) (by omega)) c⟩
    rw [hy, nI_1]
    have := hK u
    rw [nil1, List.map_nil, List.append_nil] at this
    exact this hS
  | n + 1, b, PL, u, hc, hS, hb, hK => by
    have ed : (subs 2 (dR b)).map (fun P => a :: P) = (subs 1 (dR (b + 1))).map (fun P => a :: b :: P) ++ (subs 2 (dR (b + 1))).map (fun P => a :: P) := by
      rw [dR_s (by omega), List.map_append, List.map_map]
      rfl
    rw [ed, ← List.append_assoc] at hK hb
    show V_X12_plans_283_B G Q K1 (V_X12_plans_283 G Q K1 (n + 1)) m i (nI a) (nI b) u
    unfold V_X12_plans_283_B
    refine ⟨fun q => absurd ((nI_leI (a := 82) (by omega) (by omega)).mp q) (by omega), fun _ y hy => ⟨82 - (b + 1) + 1, ?_⟩⟩
    rw [hy, nI_1]
    refine me_296 hh ha (by omega) (82 - (b + 1)) (b + 1) PL u (by omega) hS (by rw [List.length_append] at hb; omega) (fun u2 hS2 => ?_)
    exact me_283 hh ha n (b + 1) _ u2 (by omega) hS2 hb hK
theorem me_270 {Q : Int32 → Mm → Prop} {m : Nat} {B : Bk} {v yr i : Int32} {L : List Nat} {u0 : Mm} (hh : MHh G m B v yr L u0) : ∀ (n a : Nat) (PL : List (List Nat)) (u : Mm), a + n = 82 → MV m B v L u0 PL u → (PL ++ subs 3 (dR a)).length ≤ 91999 → (∀ u', MV m B v L u0 (PL ++ subs 3 (dR a)) u' → (i = -1 → Q (nI ((PL ++ subs 3 (dR a)).filter (plF B v L)).length) u') ∧ (¬ i = -1 → (∀ j, j < ((PL ++ subs 3 (dR a)).filter (plF B v L)).length → i = nI j → Q (cdP (((PL ++ subs 3 (dR a)).filter (plF B v L)).getD j [])) u') ∧ (¬ inN ((PL ++ subs 3 (dR a)).filter (plF B v L)).length i → V_X12_fail G m (1 : Int32) u' Q))) → V_X12_plans_270 G Q (n + 1) m i (nI a) u
  | 0, a, PL, u, hc, hS, hb, hK => by
    have mk := hh.1.1.2.1
    have m0 := hh.1.1.1
    have hc' : a = 82 := by omega
    subst hc'
    rw [nil1, List.append_nil] at hb
    have hK := hK u
    rw [nil1, List.append_nil] at hK
    obtain ⟨k1, k2⟩ := hK hS
    obtain ⟨f, h42, h27⟩ := hS
    have hF : (PL.filter (plF B v L)).length ≤ PL.length := List.length_filter_le _ _
    obtain ⟨_, _, _, ⟨_, _, ⟨b1, b2, b3⟩, _⟩⟩ := hh.1.fx f
    show V_X12_plans_270_B G Q (V_X12_plans_270 G Q 0) m i (nI 82) u
    unfold V_X12_plans_270_B
    rw [h42]
    refine ⟨fun _ => ⟨fun e => ⟨mk, k1 e⟩, fun e => ⟨mk, m_isInN (by omega) (fun j hj e2 => ⟨fun c => absurd c (by decide), fun _ => ?_⟩) (fun g => ⟨fun _ => (k2 e).2 g, fun c => absurd rfl c⟩)⟩⟩, fun c => absurd (nI_le (a := 82) (b := 82) (by omega) (by omega)) c⟩
    have := (k2 e).1 j hj e2
    rw [b3, b1, b2, e2, nI_clamp (by omega), h27 j hj]
    exact ⟨by omega, rfl, vp_in_nI (by omega) (by omega), this⟩
  | n + 1, a, PL, u, hc, hS, hb, hK => by
    have ed : subs 3 (dR a) = (subs 2 (dR (a + 1))).map (fun P => a :: P) ++ subs 3 (dR (a + 1)) := dR_s (by omega)
    rw [ed, ← List.append_assoc] at hK hb
    show V_X12_plans_270_B G Q (V_X12_plans_270 G Q (n + 1)) m i (nI a) u
    unfold V_X12_plans_270_B
    refine ⟨fun q => absurd ((nI_leI (a := 82) (by omega) (by omega)).mp q) (by omega), fun _ y hy => ⟨82 - (a + 1) + 1, ?_⟩⟩
    rw [hy, nI_1]
    refine me_283 hh (by omega) (82 - (a + 1)) (a + 1) PL u (by omega) hS (by rw [List.length_append] at hb; omega) (fun u2 hS2 => ?_)
    exact me_270 hh n (a + 1) _ u2 (by omega) hS2 hb hK
theorem me_239 {Q : Int32 → Mm → Prop} {K1 : Nat → Int32 → Int32 → Mm → Prop} {m a : Nat} {B : Bk} {v yr i : Int32} {L : List Nat} {u0 : Mm} (hh : MHh G m B v yr L u0) (ha : a < 82) : ∀ (n b : Nat) (PL : List (List Nat)) (u : Mm), b + n = 82 → MV m B v L u0 PL u → (PL ++ (subs 1 (dR b)).map (fun P => a :: P)).length ≤ 91999 → (∀ u', MV m B v L u0 (PL ++ (subs 1 (dR b)).map (fun P => a :: P)) u' → K1 m i (nI (a + 1)) u') → V_X12_plans_239 G Q K1 (n + 1) m i (nI a) (nI b) u
  | 0, b, PL, u, hc, hS, hb, hK => by
    have hc' : b = 82 := by omega
    subst hc'
    show V_X12_plans_239_B G Q K1 (V_X12_plans_239 G Q K1 0) m i (nI a) (nI 82) u
    unfold V_X12_plans_239_B
    refine ⟨fun _ y hy => ?_, fun c => absurd (nI_le (a := 82) (b := 82) (by omega) (by omega)) c⟩
    rw [hy, nI_1]
    have := hK u
    rw [nil1, List.map_nil, List.append_nil] at this
    exact this hS
  | n + 1, b, PL, u, hc, hS, hb, hK => by
    have mk := hh.1.1.2.1
    rw [dR_1 (by omega), List.map_append, ← List.append_assoc] at hK hb
    show V_X12_plans_239_B G Q K1 (V_X12_plans_239 G Q K1 (n + 1)) m i (nI a) (nI b) u
    unfold V_X12_plans_239_B
    refine ⟨fun q => absurd ((nI_leI (a := 82) (by omega) (by omega)).mp q) (by omega), fun _ => ⟨mk, m_tryPlan (P := [a, b]) hh hS (show 2 ≤ 3 by omega) ?_ ?_ (fun u2 hS2 y hy => ?_)⟩⟩
    · intro x hx
      simp only [List.mem_cons, List.not_mem_nil, or_false] at hx
      omega
    · rw [List.length_append, List.length_append] at hb
      have : (List.map (fun P => a :: P) [[b]]).length = 1 := rfl
      omega
    · rw [hy, nI_1]
      exact me_239 hh ha n (b + 1) _ u2 (by omega) hS2 hb hK
theorem me_226 {Q : Int32 → Mm → Prop} {m : Nat} {B : Bk} {v yr i : Int32} {L : List Nat} {u0 : Mm} (hh : MHh G m B v yr L u0) : ∀ (n a : Nat) (PL : List (List Nat)) (u : Mm), a + n = 82 → MV m B v L u0 PL u → (PL ++ subs 2 (dR a)).length ≤ 91999 → (∀ u', MV m B v L u0 (PL ++ subs 2 (dR a)) u' → ∃ k, V_X12_plans_270 G Q k m i (0 : Int32) u') → V_X12_plans_226 G Q (n + 1) m i (nI a) u
  | 0, a, PL, u, hc, hS, hb, hK => by
    have hc' : a = 82 := by omega
    subst hc'
    have hK := hK u
    rw [nil1, List.append_nil] at hK
    show V_X12_plans_226_B G Q (V_X12_plans_226 G Q 0) m i (nI 82) u
    unfold V_X12_plans_226_B
    exact ⟨fun _ => hK hS, fun c => absurd (nI_le (a := 82) (b := 82) (by omega) (by omega)) c⟩
  | n + 1, a, PL, u, hc, hS, hb, hK => by
    have ed : subs 2 (dR a) = (subs 1 (dR (a + 1))).map (fun P => a :: P) ++ subs 2 (dR (a + 1)) := dR_s (by omega)
    rw [ed, ← List.append_assoc] at hK hb
    show V_X12_plans_226_B G Q (V_X12_plans_226 G Q (n + 1)) m i (nI a) u
    unfold V_X12_plans_226_B
    refine ⟨fun q => absurd ((nI_leI (a := 82) (by omega) (by omega)).mp q) (by omega), fun _ y hy => ⟨82 - (a + 1) + 1, ?_⟩⟩
    rw [hy, nI_1]
    refine me_239 hh (by omega) (82 - (a + 1)) (a + 1) PL u (by omega) hS (by rw [List.length_append] at hb; omega) (fun u2 hS2 => ?_)
    exact me_226 hh n (a + 1) _ u2 (by omega) hS2 hb hK
theorem me_202 {Q : Int32 → Mm → Prop} {m : Nat} {B : Bk} {v yr i : Int32} {L : List Nat} {u0 : Mm} (hh : MHh G m B v yr L u0) : ∀ (n a : Nat) (PL : List (List Nat)) (u : Mm), a + n = 82 → MV m B v L u0 PL u → (PL ++ subs 1 (dR a)).length ≤ 91999 → (∀ u', MV m B v L u0 (PL ++ subs 1 (dR a)) u' → ∃ k, V_X12_plans_226 G Q k m i (0 : Int32) u') → V_X12_plans_202 G Q (n + 1) m i (nI a) u
  | 0, a, PL, u, hc, hS, hb, hK => by
    have hc' : a = 82 := by omega
    subst hc'
    have hK := hK u
    rw [nil1, List.append_nil] at hK
    show V_X12_plans_202_B G Q (V_X12_plans_202 G Q 0) m i (nI 82) u
    unfold V_X12_plans_202_B
    exact ⟨fun _ => hK hS, fun c => absurd (nI_le (a := 82) (b := 82) (by omega) (by omega)) c⟩
  | n + 1, a, PL, u, hc, hS, hb, hK => by
    have mk := hh.1.1.2.1
    rw [dR_1 (by omega), ← List.append_assoc] at hK hb
    show V_X12_plans_202_B G Q (V_X12_plans_202 G Q (n + 1)) m i (nI a) u
    unfold V_X12_plans_202_B
    refine ⟨fun q => absurd ((nI_leI (a := 82) (by omega) (by omega)).mp q) (by omega), fun _ => ⟨mk, m_tryPlan (P := [a]) hh hS (show 1 ≤ 3 by omega) ?_ ?_ (fun u2 hS2 y hy => ?_)⟩⟩
    · intro x hx
      rw [List.mem_singleton] at hx
      omega
    · rw [List.length_append, List.length_append] at hb
      have : ([[a]] : List (List Nat)).length = 1 := rfl
      omega
    · rw [hy, nI_1]
      exact me_202 hh n (a + 1) _ u2 (by omega) hS2 hb hK
theorem m_searchP {Q : Int32 → Mm → Prop} {m : Nat} {B : Bk} {v yr i : Int32} {L : List Nat} {u0 : Mm} (hh : MHh G m B v yr L u0) (f : Fx (inQ m) u0 u) (h42 : gI u m 42 = 0) (hQ : ∀ u', Fx (inQ m) u0 u' → (i = -1 → Q (nI (plP B v L).length) u') ∧ (¬ i = -1 → (∀ j, j < (plP B v L).length → i = nI j → Q (cdP ((plP B v L).getD j [])) u') ∧ (¬ inN (plP B v L).length i → V_X12_fail G m (1 : Int32) u' Q))) : V_X12_tryPlan G m (-1 : Int32) (-1 : Int32) (-1 : Int32) u (fun u2 => ∃ n : Nat, V_X12_plans_202 G Q n m i (0 : Int32) u2) := by
  have hlen := plnA_len (List.range 82) (by rw [List.length_range]; omega)
  unfold plnA at hlen
  have e0 : List.range 82 = dR 0 := rfl
  rw [e0] at hlen
  refine m_tryPlan (P := []) hh ⟨f, h42, fun j hj => absurd hj (by simp)⟩ (Nat.zero_le _) (fun a ha => by cases ha) (PL := []) (by simp) (fun u1 S1 => ⟨83, ?_⟩)
  rw [List.nil_append] at S1
  refine me_202 hh 82 0 _ u1 (by omega) S1 (by rw [List.length_append, List.length_append] at hlen; omega) (fun u2 S2 => ⟨83, ?_⟩)
  refine me_226 hh 82 0 _ u2 (by omega) S2 (by rw [List.length_append] at hlen; omega) (fun u3 S3 => ⟨83, ?_⟩)
  refine me_270 hh 82 0 _ u3 (by omega) S3 (by omega) (fun u4 S4 => ?_)
  exact hQ u4 S4.1
theorem m_tickOfLine {Q : Int32 → Mm → Prop} {s l : Nat} {B : Bk} {v : Int32} (hk : okB B) (hs : s < bkN B) (nm : bkF B s 0 ≠ -1) (hl : l < 82) (hv : btw 50 150 v) (hQ : Q (plT B v s l) u) : V_X12_tickOfLine G (nI l) (bkF B s 0) (bkF B s 1) v u Q := by
  obtain ⟨hx, hy⟩ := named_ok hk hs nm
  have hle := plA_le hx hy hl
  have fin : V_X12_tickOfLine_24 G Q v (nI (plA B s l)) u := by
    unfold plT at hQ
    refine ⟨fun c => ?_, fun c => ?_⟩
    · have c0 : plA B s l = 0 := nI_inj (b := 0) (by omega) (by omega) c
      rw [if_pos c0] at hQ
      exact hQ
    · have c0 : plA B s l ≠ 0 := fun q => c (by rw [q]; rfl)
      rw [if_neg c0] at hQ
      have e : (200 : Int32) * nI (plA B s l) = nI (200 * plA B s l) := nI_litM 200 _
      rw [e]
      refine ⟨fun q => ?_, hQ⟩
      have := hv.1
      rw [q, li_0] at this
      omega
  obtain ⟨a, ha1, ea, ea2⟩ := place_N hx
  obtain ⟨b, hb1, eb, eb2⟩ := place_N hy
  unfold V_X12_tickOfLine
  refine ⟨fun c => ?_, fun c => ?_⟩
  · have c := (nI_leI (a := 41) (by omega) (by omega)).mp c
    have e1 : nI l - (41 : Int32) = nI (l - 41) := pk_sub (a := l) (b := 41) c
    rw [e1, eb, ab_awy (by omega) (by omega)]
    have e2 : plA B s l = awy (l - 41) b := by
      unfold plA
      rw [if_neg (by omega), eb2, awy_comm]
    rw [← e2]
    exact fin
  · have c : ¬ 41 ≤ l := fun q => c (nI_le (a := 41) q (by omega))
    rw [ea, ab_awy (by omega) (by omega)]
    have e2 : plA B s l = awy l a := by
      unfold plA
      rw [if_pos (by omega), ea2, awy_comm]
    rw [← e2]
    exact fin
/-- the picked stations of the model -/
def MP (m : Nat) (L : List Nat) (u : Mm) : Prop := gI u m 41 = nI L.length ∧ ∀ k, k < L.length → gI u (m + 26) k = nI (L.getD k 0)
theorem m_plans {Q : Int32 → Mm → Prop} {m : Nat} {S : St} {yr v i : Int32} (hR : RM G u m S) (hS : okS S) (hQ : ∀ u' w, Fx (msc m) u u' → gI u' m 1 = plE S yr v i → (plE S yr v i = 0 → w = plV S yr v i) → Q w u') : V_X12_plans G m yr v i u Q := by
  have mk : kd G m = 12 := hR.1.1.2.1
  have m0 : 0 < m := hR.1.1.1
  have hk := hS.2.1
  have n20 := hk.1
  refine ⟨mk, fun w hw => ?_⟩
  subst hw
  have hR0 := hR.put (c := 0)
  have F0 : Fx (msc m) u (sI u m 1 0) := Fx.code0
  have C0 : gI (sI u m 1 0) m 1 = 0 := gI_code
  unfold plE at hQ
  refine m_isYear (fun hyr => ⟨fun c => absurd c (by decide), fun _ w hw => ?_⟩) (fun g => ⟨fun _ => m_fail mk (hQ _ _ F0.code (by rw [pick_t g]; exact gI_code) (fun q => by rw [pick_t g] at q; exact absurd q (by decide))), fun c => absurd rfl c⟩)
  rw [pick_f (fun q => q hyr)] at hQ
  have hlenN : (pnL (sB S) yr (bkN (sB S))).length ≤ bkN (sB S) := flt_len _ _
  have hm : ∀ s, s ∈ pnL (sB S) yr (bkN (sB S)) → s < bkN (sB S) ∧ bkF (sB S) s 0 ≠ -1 ∧ bkF (sB S) s 2 = yr := fun s hs => pnL_mem hs
  have f1 : Fx (fun a j => (a = m ∧ j = 41) ∨ a = m + 26) (sI u m 1 0) w := by rw [hw]; exact Fx.put (by omega)
  have p1 : MP m (pnL (sB S) yr 0) w := ⟨by rw [hw, gI_sI, if_pos ⟨rfl, rfl⟩]; rfl, fun k hk => absurd hk (by simp [pnL])⟩
  clear hw
  -- behind the picking
  have after : ∀ x, Fx (fun a j => (a = m ∧ j = 41) ∨ a = m + 26) (sI u m 1 0) x → MP m (pnL (sB S) yr (bkN (sB S))) x → V_X12_isIn G v (50 : Int32) (150 : Int32) x (fun (v_91 : Int32) (u_91 : Mm) => ((v_91 = 0 → V_X12_plans_104 G Q m u_91) ∧ (¬ v_91 = 0 → (((gI u_91 m 41) = 0 → V_X12_plans_104 G Q m u_91) ∧ (¬ (gI u_91 m 41) = 0 → ∃ n : Nat, V_X12_plans_113 G Q n m v i (0 : Int32) u_91))))) := by
    intro x g p
    have Gx' : Fx (msc m) u x := F0.trans (g.mono (fun a j q => by unfold msc; omega))
    have no : ¬ (btw 50 150 v ∧ pnL (sB S) yr (bkN (sB S)) ≠ []) → V_X12_plans_104 G Q m x := fun q => ⟨mk, m_fail mk (hQ _ _ Gx'.code (by rw [pick_t q]; exact gI_code) (fun q2 => by rw [pick_t q] at q2; exact absurd q2 (by decide)))⟩
    refine m_isIn (fun a b => ⟨fun c => absurd c (by decide), fun _ => ⟨fun c => no (fun q => q.2 ?_), fun c => ?_⟩⟩) (fun q => ⟨fun _ => no (fun r => q ?_), fun c => absurd rfl c⟩)
    · rw [p.1] at c
      exact List.eq_nil_of_length_eq_zero (nI_inj (b := 0) (by omega) (by omega) c)
    case refine_3 =>
      rw [li_50, li_150]
      exact r.1
    rw [li_50] at a
    rw [li_150] at b
    have hv : btw 50 150 v := ⟨a, b⟩
    have ne : pnL (sB S) yr (bkN (sB S)) ≠ [] := fun q => c (by rw [p.1, q]; rfl)
    rw [pick_f (fun q => q ⟨hv, ne⟩)] at hQ
    have hRx := hR0.ms (g.mono (fun a j q => by unfold msc; omega))
    obtain ⟨hH, _, hB, _⟩ := id hRx
    -- the search
    have search : ∀ y, Fx (fun a j => a = m + 25) x y → MT m (sB S) v (pnL (sB S) yr (bkN (sB S))) y → ∀ y2, y2 = sI y m 42 (0 : Int32) → V_X12_tryPlan G m (-1 : Int32) (-1 : Int32) (-1 : Int32) y2 (fun u2 => ∃ n : Nat, V_X12_plans_202 G Q n m i (0 : Int32) u2) := by
      intro y fy hT y2 ey2
      have hh : MHh G m (sB S) v yr (pnL (sB S) yr (bkN (sB S))) y := ⟨hH.fx fy, hB.fx fy (fun a j q => by unfold msc; omega), hk, hT, by omega, hm, hv⟩
      have pl := plP_len (sB S) v (pnL (sB S) yr (bkN (sB S)))
      refine m_searchP hh (by rw [ey2]; exact Fx.put (by unfold inQ; omega)) (by rw [ey2, gI_sI, if_pos ⟨rfl, rfl⟩]) (fun u' f' => ?_)
      have Fall : Fx (msc m) u u' := Gx'.trans ((fy.mono (fun a j q => by unfold msc; omega)).trans (f'.mono (fun a j q => inQ_msc q)))
      have c1 : gI u' m 1 = 0 := by
        rw [f'.2 _ _ (by unfold inQ; omega), fy.2 _ _ (by omega), g.2 _ _ (by omega)]
        exact C0
      unfold plV at hQ
      refine ⟨fun e => hQ _ _ Fall (by rw [pick_t (Or.inl e)]; exact c1) (fun _ => by rw [if_pos e]), fun e => ⟨fun j hj ej => hQ _ _ Fall (by rw [pick_t (Or.inr ⟨j, hj, ej⟩)]; exact c1) (fun _ => by rw [if_neg e, ej, nI_clamp (by omega)]), fun q => ?_⟩⟩
      have q2 : ¬ (i = -1 ∨ inN (plP (sB S) v (pnL (sB S) yr (bkN (sB S)))).length i) := fun r => r.elim e q
      exact m_fail mk (hQ _ _ Fall.code (by rw [pick_f q2]; exact gI_code) (fun r => by rw [pick_f q2] at r; exact absurd r (by decide)))
    -- the table
    suffices go : ∀ (n k : Nat) (y : Mm), k + n = (pnL (sB S) yr (bkN (sB S))).length → Fx (fun a j => a = m + 25) x y → (∀ k2, k2 < k → ∀ l, l < 82 → gI y (m + 25) (82 * k2 + l) = plT (sB S) v ((pnL (sB S) yr (bkN (sB S))).getD k2 0) l) → V_X12_plans_113 G Q (n + 1) m v i (nI k) y from ⟨_, go _ 0 x (Nat.zero_add _) Fx.rfl' (fun k2 h => absurd h (by omega))⟩
    intro n
    induction n with
    | zero =>
      intro k y hkn fy ht
      have hk' : k = (pnL (sB S) yr (bkN (sB S))).length := by omega
      subst hk'
      have y41 : gI y m 41 = nI (pnL (sB S) yr (bkN (sB S))).length := by rw [fy.2 _ _ (by omega)]; exact p.1
      show V_X12_plans_113_B G Q (V_X12_plans_113 G Q 0) m v i (nI (pnL (sB S) yr (bkN (sB S))).length) y
      unfold V_X12_plans_113_B
      rw [y41]
      refine ⟨mk, fun _ y2 ey2 => search y fy ⟨y41, fun k2 hk2 => ⟨?_, ht k2 hk2⟩⟩ y2 ey2, fun c => absurd (nI_le (Nat.le_refl _) (by omega)) c⟩
      rw [fy.2 _ _ (by omega)]
      exact p.2 k2 hk2
    | succ n ih =>
      intro k y hkn fy ht
      have hkl : k < (pnL (sB S) yr (bkN (sB S))).length := by omega
      obtain ⟨m1, m2, m3⟩ := hm _ (gd_memN hkl)
      have y41 : gI y m 41 = nI (pnL (sB S) yr (bkN (sB S))).length := by rw [fy.2 _ _ (by omega)]; exact p.1
      show V_X12_plans_113_B G Q (V_X12_plans_113 G Q (n + 1)) m v i (nI k) y
      unfold V_X12_plans_113_B
      rw [y41]
      refine ⟨mk, fun c => absurd ((nI_leI (by omega) (by omega)).mp c) (by omega), fun _ => ?_⟩
      suffices inn : ∀ (r l : Nat) (y : Mm), l + r = 82 → Fx (fun a j => a = m + 25) x y → (∀ k2, k2 < k → ∀ l, l < 82 → gI y (m + 25) (82 * k2 + l) = plT (sB S) v ((pnL (sB S) yr (bkN (sB S))).getD k2 0) l) → (∀ l2, l2 < l → gI y (m + 25) (82 * k + l2) = plT (sB S) v ((pnL (sB S) yr (bkN (sB S))).getD k 0) l2) → V_X12_plans_125 G Q (V_X12_plans_113 G Q (n + 1)) (r + 1) m v i (nI k) (nI l) y from ⟨83, inn 82 0 y (by omega) fy ht (fun l2 h => absurd h (by omega))⟩
      intro r
      induction r with
      | zero =>
        intro l y hl fy ht ht2
        have hl' : l = 82 := by omega
        subst hl'
        show V_X12_plans_125_B G Q (V_X12_plans_113 G Q (n + 1)) (V_X12_plans_125 G Q (V_X12_plans_113 G Q (n + 1)) 0) m v i (nI k) (nI 82) y
        unfold V_X12_plans_125_B
        refine ⟨fun _ y2 hy2 => ?_, fun c => absurd (nI_le (a := 82) (b := 82) (by omega) (by omega)) c⟩
        rw [hy2, nI_1]
        refine ih (k + 1) y (by omega) fy (fun k2 hk2 l hl => ?_)
        by_cases q : k2 = k
        · rw [q]; exact ht2 l hl
        · exact ht k2 (by omega) l hl
      | succ r ihr =>
        intro l y hl fy ht ht2
        have hHy := hH.fx fy
        have hBy := hB.fx fy (fun a j q => by unfold msc; omega)
        obtain ⟨_, _, ⟨_, _, ⟨a1, a2, a3⟩, ⟨b1, b2, b3⟩, _⟩, ⟨⟨c1, c2, c3⟩, ⟨d1, d2, d3⟩, _⟩⟩ := id hHy
        obtain ⟨g0, _⟩ := hBy.2.2.1 _ m1
        have e0 := g0 0 (by omega)
        have e1 := g0 1 (by omega)
        simp only [Nat.add_assoc, Nat.reduceAdd] at e0 e1
        have e26 : gI y (m + 26) k = nI ((pnL (sB S) yr (bkN (sB S))).getD k 0) := by rw [fy.2 _ _ (by omega)]; exact p.2 k hkl
        show V_X12_plans_125_B G Q (V_X12_plans_113 G Q (n + 1)) (V_X12_plans_125 G Q (V_X12_plans_113 G Q (n + 1)) (r + 1)) m v i (nI k) (nI l) y
        unfold V_X12_plans_125_B
        rw [c3, c1, c2, a3, a1, a2, d3, d1, d2, b3, b1, b2, l82_mul, nI_add, nI_clamp (show k < 2 ^ 31 by omega), e26, nI_clamp (show (pnL (sB S) yr (bkN (sB S))).getD k 0 < 2 ^ 31 by omega), nI_clamp (show 82 * k + l < 2 ^ 31 by omega), e0, e1]
        refine ⟨fun c => absurd ((nI_leI (a := 82) (by omega) (by omega)).mp c) (by omega), fun _ => ⟨mk, by omega, by omega, by omega, rfl, vp_in_nI (by omega) (by omega), rfl, vp_in_nI (by omega) (by omega), by omega, rfl, vp_in_nI (by omega) (by omega), m_tickOfLine hk m1 m2 (by omega) hv ⟨rfl, vp_in_nI (by omega) (by omega), fun y2 ey2 y3 hy3 => ?_⟩⟩⟩
        rw [hy3, nI_1, ey2]
        refine ihr (l + 1) _ (by omega) (fy.trans (Fx.put rfl)) (fun k2 hk2 l2 hl2 => ?_) (fun l2 hl2 => ?_)
        · rw [gI_sI, if_neg (by omega)]
          exact ht k2 hk2 l2 hl2
        · rw [gI_sI]
          by_cases q : l2 = l
          · rw [if_pos ⟨rfl, by omega⟩, q]
          · rw [if_neg (by omega)]
            exact ht2 l2 (by omega)
  -- the picking
  suffices go : ∀ (n s : Nat) (x : Mm), s + n = bkN (sB S) → Fx (fun a j => (a = m ∧ j = 41) ∨ a = m + 26) (sI u m 1 0) x → MP m (pnL (sB S) yr s) x → V_X12_plans_26 G Q (n + 1) m yr v i (nI s) x from ⟨_, go _ 0 w (Nat.zero_add _) f1 p1⟩
  intro n
  induction n with
  | zero =>
    intro s x hs g p
    have hs' : s = bkN (sB S) := by omega
    subst hs'
    have hB := (hR0.ms (g.mono (fun a j q => by unfold msc; omega))).2.2.1
    show V_X12_plans_26_B G Q (V_X12_plans_26 G Q 0) m yr v i (nI (bkN (sB S))) x
    unfold V_X12_plans_26_B
    rw [hB.1]
    exact ⟨mk, fun _ => after x g p, fun c => absurd (nI_le (Nat.le_refl _) (by omega)) c⟩
  | succ n ih =>
    intro s x hs g p
    have hsN : s < bkN (sB S) := by omega
    have es : pnL (sB S) yr (s + 1) = pnL (sB S) yr s ++ (if pnB (sB S) yr s then [s] else []) := flt_s
    have hlen : (pnL (sB S) yr s).length ≤ s := flt_len _ _
    obtain ⟨hH, _, hB, _⟩ := hR0.ms (g.mono (fun a j q => by unfold msc; omega))
    obtain ⟨_, _, ⟨_, _, _, _, ⟨d1, d2, d3⟩, _⟩, ⟨_, ⟨c1, c2, c3⟩, _⟩⟩ := id hH
    obtain ⟨g0, _⟩ := hB.2.2.1 s hsN
    have e2 := g0 2 (by omega)
    simp only [Nat.add_assoc, Nat.reduceAdd] at e2
    have et : (nI s).toNatClampNeg = s := nI_clamp (by omega)
    have no : pnB (sB S) yr s = false → V_X12_plans_79 G Q (V_X12_plans_26 G Q (n + 1)) m yr v i (nI s) x := by
      intro pb y hy
      rw [hy, nI_1]
      have st := ih (s + 1) x (by omega) g
      rw [es, pb] at st
      simp only [Bool.false_eq_true, if_false, List.append_nil] at st
      exact st p
    show V_X12_plans_26_B G Q (V_X12_plans_26 G Q (n + 1)) m yr v i (nI s) x
    unfold V_X12_plans_26_B
    rw [hB.1]
    refine ⟨mk, fun c => absurd ((nI_leI (by omega) (by omega)).mp c) (by omega), fun _ => m_isNamed hH hB hk hsN (fun nm => ⟨fun c => absurd c (by decide), fun _ => ?_⟩) (fun nn => ⟨fun _ => no ?_, fun c => absurd rfl c⟩)⟩
    · rw [d3, d1, d2, et, e2, c3, c1, c2, p.1, nI_clamp (by omega)]
      refine ⟨by omega, rfl, vp_in_nI (by omega) (by omega), fun ey => ⟨by omega, rfl, vp_in_nI (by omega) (by omega), fun w1 ew1 w2 ew2 y hy => ?_⟩, fun ey => no ?_⟩
      · have pb : pnB (sB S) yr s = true := by
          unfold pnB
          rw [decide_eq_false nm, decide_eq_true ey]
          rfl
        have e41 : gI w1 m 41 = nI (pnL (sB S) yr s).length := by rw [ew1, gI_sI, if_neg (by omega)]; exact p.1
        rw [e41, nI_1] at ew2
        rw [hy, nI_1]
        have st := ih (s + 1) w2 (by omega)
        rw [es, if_pos pb] at st
        refine st ?_ ⟨?_, fun k hk => ?_⟩
        · rw [ew2, ew1]
          exact g.trans ((Fx.put (by omega)).trans (Fx.put (by omega)))
        · rw [ew2, gI_sI, if_pos ⟨rfl, rfl⟩, List.length_append]; rfl
        · rw [List.length_append] at hk
          have hk2 : k < (pnL (sB S) yr s).length + 1 := hk
          rw [ew2, gI_sI, if_neg (by omega), ew1, gI_sI]
          by_cases q : k = (pnL (sB S) yr s).length
          · rw [if_pos ⟨rfl, q⟩, q, gd_r]
          · rw [if_neg (by omega), gd_l (by omega)]
            exact p.2 k (by omega)
      · unfold pnB
        rw [decide_eq_false ey]
        simp
    · unfold pnB
      rw [decide_eq_true nn]
      rfl
end PLANM
