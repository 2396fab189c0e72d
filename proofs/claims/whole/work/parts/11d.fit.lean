/-! THE CLASS: what is asked of the echoes -/
section FIT
variable {G : Gx}
theorem gd_mem {L : List Nat} {i : Nat} (h : i < L.length) : L.getD i 0 ∈ L := by
  rw [List.getD_eq_getElem?_getD, List.getElem?_eq_getElem h]
  exact List.getElem_mem _
theorem so_loop {Q : Int32 → Mm → Prop} {u : Mm} {D : Ld} {aw tn e k : Nat} {x y yr : Int32} {L : List Nat} (hE : ER G u e) (hL : EC D aw x y yr tn e L u) (hm : ∀ k, k ∈ L ↔ k < 80 ∧ stE D aw x y yr tn k ≠ -1) (hl : L.length ≤ 16) (hk : k < 80) (hQ : Q (stE D aw x y yr tn k) u) : ∀ (n i : Nat), i + n = L.length → (∀ j, j < i → L.getD j 0 ≠ k) → V_X3_strengthOf_2 G Q (n + 1) e (nI k) (nI i) u := by
  obtain ⟨e0, ek, ⟨a1, a2, a3⟩, _, ⟨c1, c2, c3⟩, _⟩ := hE
  intro n
  induction n with
  | zero =>
    intro i hi hn
    show V_X3_strengthOf_2_B G Q (V_X3_strengthOf_2 G Q 0) e (nI k) (nI i) u
    unfold V_X3_strengthOf_2_B
    rw [hL.1]
    refine ⟨ek, fun _ => ?_, fun c => absurd (nI_le (by omega) (by omega)) c⟩
    have : stE D aw x y yr tn k = -1 := by
      by_cases q : stE D aw x y yr tn k = -1
      · exact q
      · have := (hm k).mpr ⟨hk, q⟩
        obtain ⟨j, hj, ej⟩ := List.getElem_of_mem this
        refine absurd ?_ (hn j (by omega))
        rw [List.getD_eq_getElem?_getD, List.getElem?_eq_getElem hj]
        exact ej
    rw [this] at hQ
    exact hQ
  | succ n ih =>
    intro i hi hn
    obtain ⟨g1, g2, g3⟩ := hL.2 i (by omega)
    have ei : (nI i).toNatClampNeg = i := nI_clamp (by omega)
    have hlt := ((hm _).mp (gd_mem (show i < L.length by omega))).1
    show V_X3_strengthOf_2_B G Q (V_X3_strengthOf_2 G Q (n + 1)) e (nI k) (nI i) u
    unfold V_X3_strengthOf_2_B
    rw [hL.1, a3, a1, a2, c3, c1, c2, ei, g1, g3, nI_eq (by omega) (by omega)]
    refine ⟨ek, fun c => ?_, fun _ => ⟨by omega, rfl, vp_in_nI (by omega) (by omega), fun c => ⟨by omega, rfl, vp_in_nI (by omega) (by omega), ?_⟩, fun c z hz => ?_⟩⟩
    · rw [nI_leI (by omega) (by omega)] at c
      omega
    · rw [c]; exact hQ
    · rw [hz, nI_1]
      refine ih (i + 1) (by omega) (fun j hj => ?_)
      by_cases q : j = i
      · rw [q]; exact c
      · exact hn j (by omega)
theorem s_X3_strengthOf {Q : Int32 → Mm → Prop} {u : Mm} {D : Ld} {aw tn e k : Nat} {x y yr : Int32} {L : List Nat} (hE : ER G u e) (hL : EC D aw x y yr tn e L u) (hm : ∀ k, k ∈ L ↔ k < 80 ∧ stE D aw x y yr tn k ≠ -1) (hl : L.length ≤ 16) (hk : k < 80) (hQ : Q (stE D aw x y yr tn k) u) : V_X3_strengthOf G e (nI k) u Q :=
  ⟨L.length + 1, so_loop hE hL hm hl hk hQ L.length 0 (by omega) (fun j hj => absurd hj (by omega))⟩
theorem ch_loop {Q : Int32 → Mm → Prop} {u : Mm} {D : Ld} {aw tn e : Nat} {x y yr h : Int32} {L : List Nat} (hE : ER G u e) (hL : EC D aw x y yr tn e L u) (hl : L.length ≤ 16) (hQ : Q (nI (hLs D aw x y yr tn h L).length) u) : ∀ (n i : Nat), i + n = L.length → V_X3_countHeard_4 G Q (n + 1) e h (nI (hLs D aw x y yr tn h (L.take i)).length) (nI i) u := by
  obtain ⟨e0, ek, _, _, ⟨c1, c2, c3⟩, _⟩ := hE
  intro n
  induction n with
  | zero =>
    intro i hi
    show V_X3_countHeard_4_B G Q (V_X3_countHeard_4 G Q 0) e h _ (nI i) u
    unfold V_X3_countHeard_4_B
    rw [hL.1]
    refine ⟨ek, fun _ => ?_, fun c => absurd (nI_le (by omega) (by omega)) c⟩
    rw [List.take_of_length_le (by omega)]
    exact hQ
  | succ n ih =>
    intro i hi
    obtain ⟨_, _, g3⟩ := hL.2 i (by omega)
    have ei : (nI i).toNatClampNeg = i := nI_clamp (by omega)
    have st := ih (i + 1) (by omega)
    rw [tk_s (show i < L.length by omega), hLs_app] at st
    show V_X3_countHeard_4_B G Q (V_X3_countHeard_4 G Q (n + 1)) e h _ (nI i) u
    unfold V_X3_countHeard_4_B V_X3_countHeard_25
    rw [hL.1, c3, c1, c2, ei, g3]
    refine ⟨ek, fun c => ?_, fun _ => ⟨by omega, rfl, vp_in_nI (by omega) (by omega), fun c z hz => ?_, fun c z hz z2 hz2 => ?_⟩⟩
    · rw [nI_leI (by omega) (by omega)] at c
      omega
    · rw [hz, nI_1]
      rw [if_pos c, List.append_nil] at st
      exact st
    · rw [hz2, hz, nI_1, nI_1]
      rw [if_neg c, List.length_append] at st
      exact st
theorem s_X3_countHeard {Q : Int32 → Mm → Prop} {u : Mm} {D : Ld} {aw tn e : Nat} {x y yr h : Int32} {L : List Nat} (hE : ER G u e) (hL : EC D aw x y yr tn e L u) (hl : L.length ≤ 16) (hQ : Q (nI (hLs D aw x y yr tn h L).length) u) : V_X3_countHeard G e h u Q :=
  ⟨L.length + 1, ch_loop hE hL hl hQ L.length 0 (by omega)⟩
theorem s_X11_byAir {Q : Int32 → Mm → Prop} {u : Mm} {r v : Int32} (hv : btw 50 150 v) (hQ : Q (r / v) u) : V_X11_byAir G r v u Q := by
  unfold btw at hv
  unfold V_X11_byAir
  refine ⟨fun c => ?_, fun _ => ⟨fun c => ?_, hQ⟩⟩
  · rw [fa_le, z32] at c
    omega
  · rw [fa_eq, z32] at c
    omega
theorem ri_loop {Q : Int32 → Mm → Prop} {u : Mm} {e p H : Nat} {v : Int32} (hE : ER G u e) (hv : btw 50 150 v) (hp : kd G p = 13) (hpl : ln G p = 12) (hH : gI u e 5 = nI H) (hH12 : H ≤ 12) (hQ1 : (∀ i, i < H → gI u (e + 5) i / v = gI u p i) → Q 1 u) (hQ0 : (¬ ∀ i, i < H → gI u (e + 5) i / v = gI u p i) → Q 0 u) : ∀ (n i : Nat), i + n = H → (∀ j, j < i → gI u (e + 5) j / v = gI u p j) → V_X3_rowIs_2 G Q (n + 1) e p v (nI i) u := by
  obtain ⟨e0, ek, _, _, _, _, ⟨d1, d2, d3⟩⟩ := hE
  intro n
  induction n with
  | zero =>
    intro i hi hn
    show V_X3_rowIs_2_B G Q (V_X3_rowIs_2 G Q 0) e p v (nI i) u
    unfold V_X3_rowIs_2_B
    rw [hH]
    exact ⟨ek, fun _ => hQ1 (fun j hj => hn j (by omega)), fun c => absurd (nI_le (by omega) (by omega)) c⟩
  | succ n ih =>
    intro i hi hn
    have ei : (nI i).toNatClampNeg = i := nI_clamp (by omega)
    show V_X3_rowIs_2_B G Q (V_X3_rowIs_2 G Q (n + 1)) e p v (nI i) u
    unfold V_X3_rowIs_2_B
    rw [hH, d3, d1, d2, ei, hpl]
    refine ⟨ek, fun c => ?_, fun _ => ⟨hp, fun c => ?_, fun _ => ⟨by omega, rfl, vp_in_nI (by omega) (by omega), s_X11_byAir hv ⟨vp_in_nI (by omega) (by omega), fun c z hz => ?_, fun c => hQ0 (fun w => c (w i (by omega)))⟩⟩⟩⟩
    · rw [nI_leI (by omega) (by omega)] at c
      omega
    · rw [nI_leI (by omega) (by omega)] at c
      omega
    · rw [hz, nI_1]
      refine ih (i + 1) (by omega) (fun j hj => ?_)
      by_cases q : j = i
      · rw [q]; exact c
      · exact hn j (by omega)
theorem s_X3_rowIs {Q : Int32 → Mm → Prop} {u : Mm} {e p H : Nat} {v : Int32} (hE : ER G u e) (hv : btw 50 150 v) (hp : kd G p = 13) (hpl : ln G p = 12) (hH : gI u e 5 = nI H) (hH12 : H ≤ 12) (hQ1 : (∀ i, i < H → gI u (e + 5) i / v = gI u p i) → Q 1 u) (hQ0 : (¬ ∀ i, i < H → gI u (e + 5) i / v = gI u p i) → Q 0 u) : V_X3_rowIs G e p v u Q :=
  ⟨H + 1, ri_loop hE hv hp hpl hH hH12 hQ1 hQ0 H 0 (by omega) (fun j hj => absurd hj (by omega))⟩
/-- the echoes fit T ticks that stand in order in row p -/
def fitP (D : Ld) (aw : Nat) (x y yr : Int32) (tn : Nat) (v : Int32) (T : Nat) (g : Nat → Int32) : Prop := (mLs D aw x y yr tn (hE D) v 80).length = T ∧ ∀ i, i < T → (srt (mLs D aw x y yr tn (hE D) v 80)).getD i 0 = g i
theorem s_X3_fit {Q : Int32 → Mm → Prop} {u : Mm} {D : Ld} (hD : okD D) {aw tn a e st p T : Nat} {x y yr : Int32} {L : List Nat} (hx : btw 0 40 x) (hy : btw 0 40 y) (hLR : LR G u a) (hC : CL u a D) (hae : a + 24 ≤ e) (hEr : ER G u e) (hL : EC D aw x y yr tn e L u) (hn : L.Nodup) (hm : ∀ k, k ∈ L ↔ k < 80 ∧ stE D aw x y yr tn k ≠ -1) (hl : L.length ≤ 16) (hk : kd G st = 7) (hst : st < e) (hr : gR u st 6 = p) (hp0 : 0 < p) (hpe : p < e) (hp : kd G p = 13) (hpl : ln G p = 12) (hT : gI u st 4 = nI T) (hT12 : T ≤ 12) (hQ1 : ∀ u', Fx (inR e) u u' → fitP D aw x y yr tn (aI D) T (gI u p) → Q 1 u') (hQ0 : ∀ u', Fx (inR e) u u' → ¬ fitP D aw x y yr tn (aI D) T (gI u p) → Q 0 u') : V_X3_fit G e st a u Q := by
  have hv := hD.2.2.2.2.1
  have le := len_eq (h := hE D) (v := aI D) hn hm
  have hlen := hLs_len D aw x y yr tn (hE D) L
  have re := row_eq (h := hE D) hD hx hy hn hm hv
  unfold V_X3_fit
  rw [hC.2.2.2.1]
  refine ⟨hLR.2.1, hEr.2.1, s_X3_countHeard hEr hL hl ⟨hk, ?_⟩⟩
  rw [hT, hC.2.2.2.1]
  refine ⟨fun c => ?_, fun c => hQ0 u Fx.rfl' (fun w => c ?_)⟩
  · rw [nI_eq (by omega) (by omega)] at c
    refine s_X3_orderHeard hD hx hy hEr hL (fun k hk => ((hm k).mp hk).2) hl (fun u' f' g' r' => ?_)
    have hC' := hC.fx hD f' (fun b j q => by unfold inR at q; omega)
    rw [f'.gR, hr, hC'.2.2.2.2.1]
    have ep : ∀ i, gI u' p i = gI u p i := fun i => f'.2 p i (by unfold inR; omega)
    have key : (∀ i, i < (hLs D aw x y yr tn (hE D) L).length → gI u' (e + 5) i / aI D = gI u' p i) ↔ fitP D aw x y yr tn (aI D) T (gI u p) := by
      unfold fitP
      rw [le, re]
      constructor
      · intro w
        refine ⟨c, fun i hi => ?_⟩
        have := w i (by omega)
        have r2 := r' i (by omega)
        rw [Nat.zero_add] at r2
        rw [gd_map (by rw [srt_len]; omega), ← r2, this, ep]
      · intro w i hi
        have := w.2 i (by omega)
        have r2 := r' i hi
        rw [Nat.zero_add] at r2
        rw [gd_map (by rw [srt_len]; omega), ← r2] at this
        rw [this, ep]
    exact ⟨by omega, s_X3_rowIs (f'.kER hEr) hv hp hpl g' (by omega) (fun w => ⟨Or.inr rfl, hQ1 u' f' (key.mp w)⟩) (fun w => ⟨Or.inl rfl, hQ0 u' f' (fun q => w (key.mpr q))⟩)⟩
  · rw [← le, w.1]
end FIT
