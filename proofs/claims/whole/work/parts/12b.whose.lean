/-! WHOSE: the echoes that come at a tick -/
def hit (D : Ld) (aw : Nat) (x y yr : Int32) (tn : Nat) (t : Int32) (e : Nat) : Bool := mHd D aw x y yr tn (hE D) e && decide (rtE D x y e / aI D = t)
/-- how many echoes come at a tick, and the least number of one -/
def hitN (D : Ld) (aw : Nat) (x y yr : Int32) (tn : Nat) (t : Int32) : Nat := ((List.range 80).filter (hit D aw x y yr tn t)).length
def hitL (D : Ld) (aw : Nat) (x y yr : Int32) (tn : Nat) (t r : Int32) : Prop := (r = -1 ∧ ∀ k, k < 80 → hit D aw x y yr tn t k = false) ∨ ∃ b, b < 80 ∧ r = nI b ∧ hit D aw x y yr tn t b = true ∧ ∀ k, k < b → hit D aw x y yr tn t k = false
theorem hitL_one {D : Ld} {aw : Nat} {x y yr : Int32} {tn : Nat} {t r s : Int32} (h1 : hitL D aw x y yr tn t r) (h2 : hitL D aw x y yr tn t s) : r = s := by
  rcases h1 with ⟨a1, a2⟩ | ⟨b, a1, a2, a3, a4⟩ <;> rcases h2 with ⟨c1, c2⟩ | ⟨d, c1, c2, c3, c4⟩
  · rw [a1, c1]
  · rw [a2 d c1] at c3; cases c3
  · rw [c2 b a1] at a3; cases a3
  · have : b = d := by
      rcases Nat.lt_trichotomy b d with q | q | q
      · rw [c4 b q] at a3; cases a3
      · exact q
      · rw [a4 d q] at c3; cases c3
    rw [a2, c2, this]
theorem hit_perm {D : Ld} {aw : Nat} {x y yr : Int32} {tn : Nat} {t : Int32} {L : List Nat} (hn : L.Nodup) (hm : ∀ k, k ∈ L ↔ k < 80 ∧ stE D aw x y yr tn k ≠ -1) : (L.filter (hit D aw x y yr tn t)).length = hitN D aw x y yr tn t := by
  unfold hitN
  refine List.Perm.length_eq ?_
  rw [List.perm_ext_iff_of_nodup (hn.filter _) (List.nodup_range.filter _)]
  intro e
  rw [List.mem_filter, List.mem_filter, List.mem_range, hm]
  constructor
  · rintro ⟨⟨h1, h2⟩, h3⟩
    exact ⟨h1, h3⟩
  · rintro ⟨h1, h2⟩
    refine ⟨⟨h1, fun c => ?_⟩, h2⟩
    unfold hit mHd at h2
    simp [c] at h2
section WHOSE
variable {G : Gx}
theorem s_X3_comesAt {Q : Int32 → Mm → Prop} {u : Mm} {D : Ld} (hD : okD D) {aw tn a e i : Nat} {x y yr t : Int32} {L : List Nat} (hx : btw 0 40 x) (hy : btw 0 40 y) (hLR : LR G u a) (hC : CL u a D) (hEr : ER G u e) (hL : EC D aw x y yr tn e L u) (hm : ∀ k, k ∈ L ↔ k < 80 ∧ stE D aw x y yr tn k ≠ -1) (hl : L.length ≤ 16) (hi : i < L.length) (hQ : Q (bI (hit D aw x y yr tn t (L.getD i 0))) u) : V_X3_comesAt G e (nI i) t a u Q := by
  obtain ⟨e0, ek, _, ⟨b1, b2, b3⟩, ⟨c1, c2, c3⟩, _⟩ := hEr
  obtain ⟨_, g2, g3⟩ := hL.2 i hi
  have hs := ((hm _).mp (gd_mem hi)).2
  have ei : (nI i).toNatClampNeg = i := nI_clamp (by omega)
  unfold V_X3_comesAt
  rw [c3, c1, c2, b3, b1, b2, ei, g2, g3, hC.2.2.2.1]
  unfold hit mHd at hQ
  refine ⟨ek, by omega, rfl, vp_in_nI (by omega) (by omega), hLR.2.1, fun c => ?_, fun c => ⟨by omega, rfl, vp_in_nI (by omega) (by omega), c_root hD hx hy hs ?_⟩⟩
  · simp only [hs, c, decide_true, decide_false] at hQ
    exact hQ
  · rw [hC.2.2.2.2.1]
    refine s_X11_byAir hD.2.2.2.2.1 ⟨fun c2 => ?_, fun c2 => ?_⟩
    · simp only [hs, c, c2, decide_true, decide_false] at hQ
      exact hQ
    · simp only [hs, c, c2, decide_false] at hQ
      exact hQ
theorem hm_loop {Q : Int32 → Mm → Prop} {u : Mm} {D : Ld} (hD : okD D) {aw tn a e : Nat} {x y yr t : Int32} {L : List Nat} (hx : btw 0 40 x) (hy : btw 0 40 y) (hLR : LR G u a) (hC : CL u a D) (hEr : ER G u e) (hL : EC D aw x y yr tn e L u) (hm : ∀ k, k ∈ L ↔ k < 80 ∧ stE D aw x y yr tn k ≠ -1) (hl : L.length ≤ 16) (hQ : Q (nI (L.filter (hit D aw x y yr tn t)).length) u) : ∀ (n i : Nat), i + n = L.length → V_X3_howManyAt_5 G Q (n + 1) e t a (nI ((L.take i).filter (hit D aw x y yr tn t)).length) (nI i) u := by
  intro n
  induction n with
  | zero =>
    intro i hi
    show V_X3_howManyAt_5_B G Q (V_X3_howManyAt_5 G Q 0) e t a _ (nI i) u
    unfold V_X3_howManyAt_5_B
    rw [hL.1]
    refine ⟨hEr.2.1, fun _ => ?_, fun c => absurd (nI_le (by omega) (by omega)) c⟩
    rw [List.take_of_length_le (by omega)]
    exact hQ
  | succ n ih =>
    intro i hi
    have st := ih (i + 1) (by omega)
    rw [tk_s (show i < L.length by omega), List.filter_append, List.length_append] at st
    show V_X3_howManyAt_5_B G Q (V_X3_howManyAt_5 G Q (n + 1)) e t a _ (nI i) u
    unfold V_X3_howManyAt_5_B V_X3_howManyAt_28
    rw [hL.1]
    refine ⟨hEr.2.1, fun c => ?_, fun _ => s_X3_comesAt hD hx hy hLR hC hEr hL hm hl (by omega) ⟨fun c z hz => ?_, fun c z hz z2 hz2 => ?_⟩⟩
    · rw [nI_leI (by omega) (by omega)] at c
      omega
    · rw [bI_0] at c
      rw [hz, nI_1]
      rw [List.filter_cons_of_neg (by rw [c]; decide), List.filter_nil] at st
      exact st
    · have c' : hit D aw x y yr tn t (L.getD i 0) = true := by
        cases q : hit D aw x y yr tn t (L.getD i 0)
        · exact absurd (bI_0.mpr q) c
        · rfl
      rw [hz2, hz, nI_1, nI_1]
      rw [List.filter_cons_of_pos c', List.filter_nil] at st
      exact st
theorem s_X3_howManyAt {Q : Int32 → Mm → Prop} {u : Mm} {D : Ld} (hD : okD D) {aw tn a e : Nat} {x y yr t : Int32} {L : List Nat} (hx : btw 0 40 x) (hy : btw 0 40 y) (hLR : LR G u a) (hC : CL u a D) (hEr : ER G u e) (hL : EC D aw x y yr tn e L u) (hn : L.Nodup) (hm : ∀ k, k ∈ L ↔ k < 80 ∧ stE D aw x y yr tn k ≠ -1) (hl : L.length ≤ 16) (hQ : Q (nI (hitN D aw x y yr tn t)) u) : V_X3_howManyAt G e t a u Q :=
  ⟨L.length + 1, hm_loop hD hx hy hLR hC hEr hL hm hl (by rw [hit_perm hn hm]; exact hQ) L.length 0 (by omega)⟩
theorem le_loop {Q : Int32 → Mm → Prop} {u : Mm} {D : Ld} (hD : okD D) {aw tn a e : Nat} {x y yr t : Int32} {L : List Nat} (hx : btw 0 40 x) (hy : btw 0 40 y) (hLR : LR G u a) (hC : CL u a D) (hEr : ER G u e) (hL : EC D aw x y yr tn e L u) (hm : ∀ k, k ∈ L ↔ k < 80 ∧ stE D aw x y yr tn k ≠ -1) (hl : L.length ≤ 16) (hQ : ∀ r, hitL D aw x y yr tn t r → Q r u) : ∀ (n i : Nat) (r : Int32), i + n = L.length → ((r = -1 ∧ ∀ j, j < i → hit D aw x y yr tn t (L.getD j 0) = false) ∨ ∃ b, b < 80 ∧ r = nI b ∧ hit D aw x y yr tn t b = true ∧ ∀ j, j < i → hit D aw x y yr tn t (L.getD j 0) = true → b ≤ L.getD j 0) → V_X3_leastAt_5 G Q (n + 1) e t a r (nI i) u := by
  have hEr' := hEr
  obtain ⟨e0, ek, ⟨a1, a2, a3⟩, _⟩ := hEr'
  have all : ∀ k, hit D aw x y yr tn t k = true → k < 80 → ∃ j, j < L.length ∧ L.getD j 0 = k := by
    intro k hk h80
    have : k ∈ L := by
      rw [hm]
      refine ⟨h80, fun c => ?_⟩
      unfold hit mHd at hk
      simp [c] at hk
    obtain ⟨j, hj, ej⟩ := List.getElem_of_mem this
    refine ⟨j, hj, ?_⟩
    rw [List.getD_eq_getElem?_getD, List.getElem?_eq_getElem hj]
    exact ej
  intro n
  induction n with
  | zero =>
    intro i r hi hr
    show V_X3_leastAt_5_B G Q (V_X3_leastAt_5 G Q 0) e t a r (nI i) u
    unfold V_X3_leastAt_5_B
    rw [hL.1]
    refine ⟨ek, fun _ => hQ r ?_, fun c => absurd (nI_le (by omega) (by omega)) c⟩
    rcases hr with ⟨h1, h2⟩ | ⟨b, h0, h1, h2, h3⟩
    · refine Or.inl ⟨h1, fun k hk => ?_⟩
      cases q : hit D aw x y yr tn t k
      · rfl
      · obtain ⟨j, hj, ej⟩ := all k q hk
        rw [← ej, h2 j (by omega)] at q
        cases q
    · refine Or.inr ⟨b, h0, h1, h2, fun k hk => ?_⟩
      cases q : hit D aw x y yr tn t k
      · rfl
      · obtain ⟨j, hj, ej⟩ := all k q (by omega)
        have := h3 j (by omega) (by rw [ej]; exact q)
        omega
  | succ n ih =>
    intro i r hi hr
    obtain ⟨g1, _, _⟩ := hL.2 i (by omega)
    have hlt := ((hm _).mp (gd_mem (show i < L.length by omega))).1
    have ei : (nI i).toNatClampNeg = i := nI_clamp (by omega)
    show V_X3_leastAt_5_B G Q (V_X3_leastAt_5 G Q (n + 1)) e t a r (nI i) u
    unfold V_X3_leastAt_5_B V_X3_leastAt_49 V_X3_leastAt_41
    rw [hL.1]
    refine ⟨ek, fun c => ?_, fun _ => s_X3_comesAt hD hx hy hLR hC hEr hL hm hl (by omega) ⟨fun c z hz => ?_, fun c => ?_⟩⟩
    · rw [nI_leI (by omega) (by omega)] at c
      omega
    · rw [bI_0] at c
      rw [hz, nI_1]
      refine ih (i + 1) r (by omega) ?_
      rcases hr with ⟨h1, h2⟩ | ⟨b, h0, h1, h2, h3⟩
      · refine Or.inl ⟨h1, fun j hj => ?_⟩
        by_cases q : j = i
        · rw [q]; exact c
        · exact h2 j (by omega)
      · refine Or.inr ⟨b, h0, h1, h2, fun j hj hh => ?_⟩
        by_cases q : j = i
        · rw [q, c] at hh; cases hh
        · exact h3 j (by omega) hh
    · have c' : hit D aw x y yr tn t (L.getD i 0) = true := by
        cases q : hit D aw x y yr tn t (L.getD i 0)
        · exact absurd (bI_0.mpr q) c
        · rfl
      rw [a3, a1, a2, ei, g1]
      rcases hr with ⟨h1, h2⟩ | ⟨b, h0, h1, h2, h3⟩
      · refine ⟨fun _ => ⟨ek, by omega, rfl, vp_in_nI (by omega) (by omega), fun z hz z2 hz2 => ?_⟩, fun q => absurd h1 q⟩
        rw [hz2, hz, nI_1]
        refine ih (i + 1) _ (by omega) (Or.inr ⟨_, hlt, rfl, c', fun j hj hh => ?_⟩)
        by_cases q : j = i
        · rw [q]; exact Nat.le_refl _
        · rw [h2 j (by omega)] at hh; cases hh
      · refine ⟨fun q => absurd (h1.symm.trans q) (nI_m1 (by omega)), fun _ => ⟨by omega, rfl, vp_in_nI (by omega) (by omega), fun q z hz => ?_, fun q => ⟨ek, by omega, rfl, vp_in_nI (by omega) (by omega), fun z hz z2 hz2 => ?_⟩⟩⟩
        · rw [h1, nI_leI (by omega) (by omega)] at q
          rw [hz, nI_1]
          refine ih (i + 1) r (by omega) (Or.inr ⟨b, h0, h1, h2, fun j hj hh => ?_⟩)
          by_cases q2 : j = i
          · rw [q2]; exact q
          · exact h3 j (by omega) hh
        · rw [h1, nI_leI (by omega) (by omega)] at q
          rw [hz2, hz, nI_1]
          refine ih (i + 1) _ (by omega) (Or.inr ⟨_, hlt, rfl, c', fun j hj hh => ?_⟩)
          by_cases q2 : j = i
          · rw [q2]; exact Nat.le_refl _
          · have := h3 j (by omega) hh
            omega
theorem s_X3_leastAt {Q : Int32 → Mm → Prop} {u : Mm} {D : Ld} (hD : okD D) {aw tn a e : Nat} {x y yr t : Int32} {L : List Nat} (hx : btw 0 40 x) (hy : btw 0 40 y) (hLR : LR G u a) (hC : CL u a D) (hEr : ER G u e) (hL : EC D aw x y yr tn e L u) (hm : ∀ k, k ∈ L ↔ k < 80 ∧ stE D aw x y yr tn k ≠ -1) (hl : L.length ≤ 16) (hQ : ∀ r, hitL D aw x y yr tn t r → Q r u) : V_X3_leastAt G e t a u Q :=
  ⟨L.length + 1, le_loop hD hx hy hLR hC hEr hL hm hl hQ L.length 0 (-1) (by omega) (Or.inl ⟨rfl, fun j hj => absurd hj (by omega)⟩)⟩
end WHOSE
