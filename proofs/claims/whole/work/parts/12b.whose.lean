/-! WHOSE: the echoes that come at a tick -/
def hit (D : Ld) (aw : Nat) (x y yr : Int32) (tn : Nat) (t : Int32) (e : Nat) : Bool := mHd D aw x y yr tn (hE D) e && decide (rtE D x y e / aI D = t)
/-- how many echoes come at a tick, and the least number of one -/
def hitN (D : Ld) (aw : Nat) (x y yr : Int32) (tn : Nat) (t : Int32) : Nat := ((List.range 80).filter (hit D aw x y yr tn t)).length
def hitL (D : Ld) (aw : Nat) (x y yr : Int32) (tn : Nat) (t r : Int32) : Prop := (r = -1 ∧ ∀ k, k < 80 → hit D aw x y yr tn t k = false) ∨ ∃ b, b < 80 ∧ r = nI b ∧ hit D aw x y yr tn t b = true ∧ ∀ k, k < b → hit D aw x y yr tn t k = false
theorem hitL_one {D : Ld} {aw : Nat} {x y yr : Int32} {tn : Nat} {t r s : Int32} (h1 : hitL D aw x y yr tn t r) (h2 : hitL D aw x y yr tn t s) : r = s := by
  rcases h1 with ⟨a1, a2⟩ | ⟨b, a1, a2, a3, a4⟩ <;> rcases h2 with ⟨c1, c2⟩ | ⟨d, c1, c2, c3, c4⟩
  · rw [a1, c1]
  · rw [a2 d c1] at c3; cases c3
  · rw [c2 b a1] at a3; cases a3
  · have : b = d := by
      rcases Nat.lt_trichotomy b d with q | q | q
      · rw [c4 b q] at a3; cases a3
      · exact q
      · rw [a4 d q] at c3; cases c3
    rw [a2, c2, this]
theorem hit_perm {D : Ld} {aw : Nat} {x y yr : Int32} {tn : Nat} {t : Int32} {L : List Nat} (hn : L.Nodup) (hm : ∀ k, k ∈ L ↔ k < 80 ∧ stE D aw x y yr tn k ≠ -1) : (L.filter (hit D aw x y yr tn t)).length = hitN D aw x y yr tn t := by
  unfold hitN
  refine List.Perm.length_eq ?_
  rw [List.perm_ext_iff_of_nodup (hn.filter _) (List.nodup_range.filter _)]
  intro e
  rw [List.mem_filter, List.mem_filter, List.mem_range, hm]
  constructor
  · rintro ⟨⟨h1, h2⟩, h3⟩
    exact ⟨h1, h3⟩
  · rintro ⟨h1, h2⟩
    refine ⟨⟨h1, fun c => ?_⟩, h2⟩
    unfold hit mHd at h2
    simp [c] at h2
section WHOSE
variable {G : Gx}
theorem s_X3_comesAt {Q : Int32 → Mm → Prop} {u : Mm} {D : Ld} (hD : okD D) {aw tn a e i : Nat} {x y yr t : Int32} {L : List Nat} (hx : btw 0 40 x) (hy : btw 0 40 y) (hLR : LR G u a) (hC : CL u a D) (hEr : ER G u e) (hL : EC D aw x y yr tn e L u) (hm : ∀ k, k ∈ L ↔ k < 80 ∧ stE D aw x y yr tn k ≠ -1) (hl : L.length ≤ 16) (hi : i < L.length) (hQ : Q (bI (hit D aw x y yr tn t (L.getD i 0))) u) : V_X3_comesAt G e (nI i) t a u Q := by
  obtain ⟨e0, ek, _, ⟨b1, b2, b3⟩, ⟨c1, c2, c3⟩, _⟩ := hEr
  obtain ⟨_, g2, g3⟩ := hL.2 i hi
  have hs := ((hm _).mp (gd_mem hi)).2
  have ei : (nI i).toNatClampNeg = i := nI_clamp (by omega)
  unfold V_X3_comesAt
  rw [c3, c1, c2, b3, b1, b2, ei, g2, g3, hC.2.2.2.1]
  unfold hit mHd at hQ
  refine ⟨ek, by omega, rfl, vp_in_nI (by omega) (by omega), hLR.2.1, fun c => ?_, fun c => ⟨by omega, rfl, vp_in_nI (by omega) (by omega), c_root hD hx hy hs ?_⟩⟩
  · simp only [hs, c, decide_true, decide_false] at hQ
    exact hQ
  · rw [hC.2.2.2.2.1]
    refine s_X11_byAir hD.2.2.2.2.1 ⟨fun c2 => ?_, fun c2 => ?_⟩
    · simp only [hs, c, c2, decide_true, decide_false] at hQ
      exact hQ
    · simp only [hs, c, c2, decide_false] at hQ
      exact hQ
theorem hm_loop {Q : Int32 → Mm → Prop} {u : Mm} {D : Ld} (hD : okD D) {aw tn a e : Nat} {x y yr t : Int32} {L : List Nat} (hx : btw 0 40 x) (hy : btw 0 40 y) (hLR : LR G u a) (hC : CL u a D) (hEr : ER G u e) (hL : EC D aw x y yr tn e L u) (hm : ∀ k, k ∈ L ↔ k < 80 ∧ stE D aw x y yr tn k ≠ -1) (hl : L.length ≤ 16) (hQ : Q (nI (L.filter (hit D aw x y yr tn t)).length) u) : ∀ (n i : Nat), i + n = L.length → V_X3_howManyAt_5 G Q (n + 1) e t a (nI ((L.take i).filter (hit D aw x y yr tn t)).length) (nI i) u := by
  intro n
  induction n with
  | zero =>
    intro i hi
    show V_X3_howManyAt_5_B G Q (V_X3_howManyAt_5 G Q 0) e t a _ (nI i) u
    unfold V_X3_howManyAt_5_B
    rw [hL.1]
    refine ⟨hEr.2.1, fun _ => ?_, fun c => absurd (nI_le (by omega) (by omega)) c⟩
    rw [List.take_of_length_le (by omega)]
    exact hQ
  | succ n ih =>
    intro i hi
    have st := ih (i + 1) (by omega)
    rw [tk_s (show i < L.length by omega), List.filter_append, List.length_append] at st
    show V_X3_howManyAt_5_B G Q (V_X3_howManyAt_5 G Q (n + 1)) e t a _ (nI i) u
    unfold V_X3_howManyAt_5_B V_X3_howManyAt_28
    rw [hL.1]
    refine ⟨hEr.2.1, fun c => ?_, fun _ => s_X3_comesAt hD hx hy hLR hC hEr hL hm hl (by omega) ⟨fun c z hz => ?_, fun c z hz z2 hz2 => ?_⟩⟩
    · rw [nI_leI (by omega) (by omega)] at c
      omega
    · rw [bI_0] at c
      rw [hz, nI_1]
      simp only [List.filter_singleton, c] at st
      exact st
    · have c' : hit D aw x y yr tn t (L.getD i 0) = true := by
        cases q : hit D aw x y yr tn t (L.getD i 0)
        · exact absurd (bI_0.mpr q) c
        · rfl
      rw [hz2, hz, nI_1, nI_1]
      simp only [List.filter_singleton, c'] at st
      exact st
theorem s_X3_howManyAt {Q : Int32 → Mm → Prop} {u : Mm} {D : Ld} (hD : okD D) {aw tn a e : Nat} {x y yr t : Int32} {L : List Nat} (hx : btw 0 40 x) (hy : btw 0 40 y) (hLR : LR G u a) (hC : CL u a D) (hEr : ER G u e) (hL : EC D aw x y yr tn e L u) (hn : L.Nodup) (hm : ∀ k, k ∈ L ↔ k < 80 ∧ stE D aw x y yr tn k ≠ -1) (hl : L.length ≤ 16) (hQ : Q (nI (hitN D aw x y yr tn t)) u) : V_X3_howManyAt G e t a u Q :=
  ⟨L.length + 1, hm_loop hD hx hy hLR hC hEr hL hm hl (by rw [hit_perm hn hm]; exact hQ) L.length 0 (by omega)⟩
end WHOSE
