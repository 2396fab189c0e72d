/-! THE THIEF: distances, first echoes -/
/-- the root of a distance -/
def rtD (x y x2 y2 : Int32) : Int32 := nI (isq (10000 * ((x2 - x) * (x2 - x) + (y2 - y) * (y2 - y)).toInt.toNat))
theorem rtD_nI {x y x2 y2 : Int32} (hx : btw 0 40 x) (hy : btw 0 40 y) (hx2 : btw 0 40 x2) (hy2 : btw 0 40 y2) : ∃ q : Nat, q ≤ 3200 ∧ (x2 - x) * (x2 - x) + (y2 - y) * (y2 - y) = nI q ∧ rtD x y x2 y2 = nI (isq (10000 * q)) ∧ isq (10000 * q) ≤ 5700 := by
  obtain ⟨q, hq, eq⟩ := btw_nI (n := 3200) (dsq_bd hx hy hx2 hy2).2
  refine ⟨q, hq, eq, ?_, isq_le (by omega)⟩
  unfold rtD
  rw [eq, nI_toInt (by omega)]
  rfl
section THIEF
variable {G : Gx}
theorem c_rootD {u : Mm} {Q : Int32 → Mm → Prop} {x y x2 y2 : Int32} (hx : btw 0 40 x) (hy : btw 0 40 y) (hx2 : btw 0 40 x2) (hy2 : btw 0 40 y2) (hQ : Q (rtD x y x2 y2) u) : V_X11_wayRoot G ((x2 - x) * (x2 - x) + (y2 - y) * (y2 - y)) u Q := by
  obtain ⟨q, h1, h2, h3, _⟩ := rtD_nI hx hy hx2 hy2
  rw [h2]
  rw [h3] at hQ
  exact s_X11_wayRoot (by omega) hQ
theorem s_X12_far {u : Mm} {Q : Int32 → Mm → Prop} {x y x2 y2 : Int32} (hx : btw 0 40 x) (hy : btw 0 40 y) (hx2 : btw 0 40 x2) (hy2 : btw 0 40 y2) (hQ : Q (rtD x y x2 y2) u) : V_X12_far G x y x2 y2 u Q := by
  obtain ⟨q, h1, h2, h3, _⟩ := rtD_nI hx hy hx2 hy2
  unfold V_X12_far
  rw [h2, show (10000 : Int32) * nI q = nI (10000 * q) from pk_mul 10000 q]
  rw [h3] at hQ
  exact s_X12_root (by omega) hQ
/-- first echoes that are heard, of the class's list -/
def fHd (D : Ld) (aw : Nat) (x y yr : Int32) (tn : Nat) (h : Int32) (e : Nat) : Bool := decide (e < 16) && !decide (stE D aw x y yr tn e < h)
theorem cf_loop {Q : Int32 → Mm → Prop} {u : Mm} {D : Ld} {aw tn e : Nat} {x y yr h : Int32} {L : List Nat} (hEr : ER G u e) (hL : EC D aw x y yr tn e L u) (hm : ∀ k, k ∈ L → k < 80) (hl : L.length ≤ 16) (hQ : Q (nI (L.filter (fHd D aw x y yr tn h)).length) u) : ∀ (n i : Nat), i + n = L.length → V_X3_countFirstHeard_4 G Q (n + 1) e h (nI ((L.take i).filter (fHd D aw x y yr tn h)).length) (nI i) u := by
  obtain ⟨e0, ek, ⟨a1, a2, a3⟩, _, ⟨c1, c2, c3⟩, _⟩ := hEr
  intro n
  induction n with
  | zero =>
    intro i hi
    show V_X3_countFirstHeard_4_B G Q (V_X3_countFirstHeard_4 G Q 0) e h _ (nI i) u
    unfold V_X3_countFirstHeard_4_B
    rw [hL.1]
    refine ⟨ek, fun _ => ?_, fun c => absurd (nI_le (by omega) (by omega)) c⟩
    rw [List.take_of_length_le (by omega)]
    exact hQ
  | succ n ih =>
    intro i hi
    obtain ⟨g1, _, g3⟩ := hL.2 i (by omega)
    have hlt := hm _ (gd_mem (show i < L.length by omega))
    have ei : (nI i).toNatClampNeg = i := nI_clamp (by omega)
    have st := ih (i + 1) (by omega)
    rw [tk_s (show i < L.length by omega), List.filter_append, List.length_append] at st
    have no : fHd D aw x y yr tn h (L.getD i 0) = false → V_X3_countFirstHeard_36 G Q (V_X3_countFirstHeard_4 G Q (n + 1)) e h (nI ((L.take i).filter (fHd D aw x y yr tn h)).length) (nI i) u := by
      intro hh
      unfold V_X3_countFirstHeard_36
      intro z hz
      rw [hz, nI_1]
      rw [List.filter_cons_of_neg (by rw [hh]; decide), List.filter_nil] at st
      exact st
    show V_X3_countFirstHeard_4_B G Q (V_X3_countFirstHeard_4 G Q (n + 1)) e h _ (nI i) u
    unfold V_X3_countFirstHeard_4_B
    rw [hL.1, a3, a1, a2, c3, c1, c2, ei, g1, g3]
    refine ⟨ek, fun c => ?_, fun _ => ⟨by omega, rfl, vp_in_nI (by omega) (by omega), fun c => no ?_, fun c => ⟨by omega, rfl, vp_in_nI (by omega) (by omega), fun c2 => no ?_, fun c2 z hz => ?_⟩⟩⟩
    · rw [nI_leI (by omega) (by omega)] at c
      omega
    · have := (nI_leI (a := 16) (b := L.getD i 0) (by omega) (by omega)).mp c
      unfold fHd
      rw [decide_eq_false (by omega)]
      rfl
    · unfold fHd
      rw [decide_eq_true c2]
      simp
    · have c' : ¬ 16 ≤ L.getD i 0 := mt (nI_leI (a := 16) (b := L.getD i 0) (by omega) (by omega)).mpr c
      have hh : fHd D aw x y yr tn h (L.getD i 0) = true := by
        unfold fHd
        rw [decide_eq_true (show L.getD i 0 < 16 by omega), decide_eq_false c2]
        rfl
      unfold V_X3_countFirstHeard_36
      intro z2 hz2
      rw [hz2, hz, nI_1, nI_1]
      rw [List.filter_cons_of_pos hh, List.filter_nil] at st
      exact st
theorem s_X3_countFirstHeard {Q : Int32 → Mm → Prop} {u : Mm} {D : Ld} {aw tn e : Nat} {x y yr h : Int32} {L : List Nat} (hEr : ER G u e) (hL : EC D aw x y yr tn e L u) (hm : ∀ k, k ∈ L → k < 80) (hl : L.length ≤ 16) (hQ : Q (nI (L.filter (fHd D aw x y yr tn h)).length) u) : V_X3_countFirstHeard G e h u Q :=
  ⟨L.length + 1, cf_loop hEr hL hm hl hQ L.length 0 (by omega)⟩
end THIEF
