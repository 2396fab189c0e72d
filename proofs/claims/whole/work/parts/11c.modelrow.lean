/-! THE MODEL: its row of a clap, and that it is the class's -/
def mHd (D : Ld) (aw : Nat) (x y yr : Int32) (tn : Nat) (h : Int32) (e : Nat) : Bool := !decide (stE D aw x y yr tn e = -1) && !decide (stE D aw x y yr tn e < h)
def mLs (D : Ld) (aw : Nat) (x y yr : Int32) (tn : Nat) (h v : Int32) (n : Nat) : List Int32 := ((List.range n).filter (mHd D aw x y yr tn h)).map (fun e => rtE D x y e / v)
theorem mLs_s {D : Ld} {aw : Nat} {x y yr : Int32} {tn : Nat} {h v : Int32} {n : Nat} : mLs D aw x y yr tn h v (n + 1) = mLs D aw x y yr tn h v n ++ (if mHd D aw x y yr tn h n then [rtE D x y n / v] else []) := by
  unfold mLs
  rw [List.range_succ, List.filter_append, List.map_append]
  by_cases c : mHd D aw x y yr tn h n = true
  · simp [c]
  · simp [c]
theorem mLs_len (D : Ld) (aw : Nat) (x y yr : Int32) (tn : Nat) (h v : Int32) (n : Nat) : (mLs D aw x y yr tn h v n).length ≤ n := by
  unfold mLs
  rw [List.length_map]
  have := List.length_filter_le (mHd D aw x y yr tn h) (List.range n)
  rw [List.length_range] at this
  exact this
/-- the two sides' rows have the same numbers -/
theorem ls_perm {D : Ld} {aw : Nat} {x y yr : Int32} {tn : Nat} {h v : Int32} {L : List Nat} (hn : L.Nodup) (hm : ∀ k, k ∈ L ↔ k < 80 ∧ stE D aw x y yr tn k ≠ -1) : ((hLs D aw x y yr tn h L).map (fun r => r / v)).Perm (mLs D aw x y yr tn h v 80) := by
  unfold hLs mLs
  rw [List.map_map]
  refine List.Perm.map _ ?_
  rw [List.perm_ext_iff_of_nodup (hn.filter _) (List.nodup_range.filter _)]
  intro e
  rw [List.mem_filter, List.mem_filter, List.mem_range, hm]
  unfold mHd
  constructor
  · rintro ⟨⟨h1, h2⟩, h3⟩
    simp only [Bool.not_eq_true', decide_eq_false_iff_not] at h3
    exact ⟨h1, by simp [h2, h3]⟩
  · rintro ⟨h1, h2⟩
    simp only [Bool.and_eq_true, Bool.not_eq_true', decide_eq_false_iff_not] at h2
    exact ⟨⟨h1, h2.1⟩, by simp [h2.2]⟩
theorem hLs_mem {D : Ld} (hD : okD D) {aw : Nat} {x y yr : Int32} {tn : Nat} {h r : Int32} {L : List Nat} (hx : btw 0 40 x) (hy : btw 0 40 y) (hm : ∀ k, k ∈ L → stE D aw x y yr tn k ≠ -1) (hr : r ∈ hLs D aw x y yr tn h L) : ∃ q, q ≤ 11320 ∧ r = nI q := by
  unfold hLs at hr
  rw [List.mem_map] at hr
  obtain ⟨e, he, rfl⟩ := hr
  rw [List.mem_filter] at he
  obtain ⟨q, _, _, h3, h4⟩ := sq_nI hD hx hy (hm e he.1)
  exact ⟨_, h4, h3⟩
theorem div_mono {a b v : Nat} (ha : a ≤ 100000) (hb : b ≤ 100000) (hv : 0 < v) (hv2 : v ≤ 1000) (h : nI a ≤ nI b) : nI a / nI v ≤ nI b / nI v := by
  rw [nI_leI (by omega) (by omega)] at h
  rw [pk_div (by omega) hv (by omega), pk_div (by omega) hv (by omega)]
  have : b / v ≤ b := Nat.div_le_self _ _
  exact nI_le (Nat.div_le_div_right h) (by omega)
theorem row_eq {D : Ld} (hD : okD D) {aw : Nat} {x y yr : Int32} {tn : Nat} {h v : Int32} {L : List Nat} (hx : btw 0 40 x) (hy : btw 0 40 y) (hn : L.Nodup) (hm : ∀ k, k ∈ L ↔ k < 80 ∧ stE D aw x y yr tn k ≠ -1) (hv : btw 50 150 v) : srt (mLs D aw x y yr tn h v 80) = (srt (hLs D aw x y yr tn h L)).map (fun r => r / v) := by
  rw [← srt_cong (ls_perm hn hm), ← srt_map]
  intro a b ha hb hab
  obtain ⟨p, hp, rfl⟩ := hLs_mem hD hx hy (fun k hk => ((hm k).mp hk).2) ha
  obtain ⟨q, hq, rfl⟩ := hLs_mem hD hx hy (fun k hk => ((hm k).mp hk).2) hb
  obtain ⟨w, hw, rfl⟩ := btw_nI (n := 150) (x := v) (by unfold btw at *; omega)
  unfold btw at hv
  rw [nI_toInt (by omega)] at hv
  exact div_mono (by omega) (by omega) (by omega) (by omega) hab
theorem len_eq {D : Ld} {aw : Nat} {x y yr : Int32} {tn : Nat} {h v : Int32} {L : List Nat} (hn : L.Nodup) (hm : ∀ k, k ∈ L ↔ k < 80 ∧ stE D aw x y yr tn k ≠ -1) : (mLs D aw x y yr tn h v 80).length = (hLs D aw x y yr tn h L).length := by
  have := (ls_perm (h := h) (v := v) hn hm).length_eq
  rw [List.length_map] at this
  exact this.symm
section MROW
variable {G : Gx}
theorem s_X12_isHeard {Q : Int32 → Mm → Prop} {u : Mm} {D : Ld} {aw tn m l e : Nat} {x y yr : Int32} (hM : MR G u m) (hM2 : MR2 G u m) (hl : l < 7) (hC : ML u m l D) (hT : TT D aw x y yr tn m u) (he : e < 80) (hQ : Q (bI (mHd D aw x y yr tn (hE D) e)) u) : V_X12_isHeard G m (nI l) (nI e) u Q := by
  obtain ⟨m0, mk, _, _, _, ⟨a1, a2, a3⟩, _⟩ := hM
  obtain ⟨⟨s1, s2, s3⟩, _⟩ := hM2
  unfold V_X12_isHeard
  rw [s3, s1, s2, nI_clamp (show e < 2 ^ 31 by omega), (hT e he).1, a3, a1, a2, nI_clamp (show l < 2 ^ 31 by omega), hC.2.2.2.1]
  unfold mHd at hQ
  refine ⟨mk, by omega, rfl, vp_in_nI he (by omega), fun c => ?_, fun c => ⟨by omega, rfl, vp_in_nI hl (by omega), fun c2 => ?_, fun c2 => ?_⟩⟩
  · simp only [c, decide_true] at hQ; exact hQ
  · simp only [c, c2, decide_true, decide_false] at hQ; exact hQ
  · simp only [c, c2, decide_false] at hQ; exact hQ
theorem s_X12_tickOf {Q : Int32 → Mm → Prop} {u : Mm} {D : Ld} (hD : okD D) {aw tn m e : Nat} {x y yr v : Int32} (hM : MR G u m) (hM2 : MR2 G u m) (hT : TT D aw x y yr tn m u) (hx : btw 0 40 x) (hy : btw 0 40 y) (he : e < 80) (hs : stE D aw x y yr tn e ≠ -1) (hv : v ≠ 0) (hQ : Q (rtE D x y e / v) u) : V_X12_tickOf G m (nI e) v u Q := by
  obtain ⟨_, ⟨s1, s2, s3⟩, _⟩ := hM2
  have m0 := hM.1
  unfold V_X12_tickOf
  rw [s3, s1, s2, nI_clamp (show e < 2 ^ 31 by omega), (hT e he).2 hs]
  exact ⟨hM.2.1, by omega, rfl, vp_in_nI he (by omega), m_root hD hx hy hs ⟨hv, hQ⟩⟩
def inT (m : Nat) : Nat → Nat → Prop := fun b j => b = m + 12 ∨ b = m + 13 ∨ b = m + 14 ∨ (b = m ∧ j = 26)
theorem TT.same {D : Ld} {aw : Nat} {x y yr : Int32} {tn m : Nat} {u v : Mm} (h : TT D aw x y yr tn m u) (e : ∀ b j, (b = m + 12 ∨ b = m + 13) → gI v b j = gI u b j) : TT D aw x y yr tn m v := by
  intro k hk
  rw [e _ _ (Or.inl rfl), e _ _ (Or.inr rfl)]
  exact h k hk
theorem tr_loop {Q : Mm → Prop} {u0 : Mm} {D : Ld} (hD : okD D) {aw tn m l : Nat} {x y yr v : Int32} (hM : MR G u0 m) (hM2 : MR2 G u0 m) (hl : l < 7) (hC : ML u0 m l D) (hx : btw 0 40 x) (hy : btw 0 40 y) (hv : v ≠ 0) (hQ : ∀ u', Fx (inT m) u0 u' → TT D aw x y yr tn m u' → gI u' m 26 = nI (mLs D aw x y yr tn (hE D) v 80).length → Rw u' (m + 14) 0 (mLs D aw x y yr tn (hE D) v 80) → Q u') : ∀ (n k : Nat) (u : Mm), k + n = 80 → Fx (inT m) u0 u → TT D aw x y yr tn m u → gI u m 26 = nI (mLs D aw x y yr tn (hE D) v k).length → Rw u (m + 14) 0 (mLs D aw x y yr tn (hE D) v k) → V_X12_tellRow_21 G Q (n + 1) m (nI l) v (nI k) u := by
  intro n
  induction n with
  | zero =>
    intro k u hk hF hT h26 hR
    show V_X12_tellRow_21_B G Q (V_X12_tellRow_21 G Q 0) m (nI l) v (nI k) u
    unfold V_X12_tellRow_21_B
    rw [show k = 80 by omega] at *
    exact ⟨fun _ => hQ u hF hT h26 hR, fun c => absurd (nI_le (a := 80) (b := 80) (by omega) (by omega)) c⟩
  | succ n ih =>
    intro k u hk hF hT h26 hR
    have hM' := hF.kMR hM
    have hM2' := hF.kMR2 hM2
    have hC' := hC.fx hF (fun a j c => by unfold inT at c; omega)
    have hlen := mLs_len D aw x y yr tn (hE D) v k
    show V_X12_tellRow_21_B G Q (V_X12_tellRow_21 G Q (n + 1)) m (nI l) v (nI k) u
    unfold V_X12_tellRow_21_B V_X12_tellRow_50
    refine ⟨fun c => ?_, fun _ => ⟨hM.2.1, s_X12_isHeard hM' hM2' hl hC' hT (by omega) ⟨fun c z hz => ?_, fun c => ?_⟩⟩⟩
    · have := (nI_leI (a := 80) (b := k) (by omega) (by omega)).mp c
      omega
    · rw [bI_0] at c
      rw [hz, nI_1]
      refine ih (k + 1) u (by omega) hF hT ?_ ?_
      · rw [mLs_s, c]; simpa using h26
      · rw [mLs_s, c]; simpa using hR
    · have c' : mHd D aw x y yr tn (hE D) k = true := by
        cases q : mHd D aw x y yr tn (hE D) k
        · exact absurd (bI_0.mpr q) c
        · rfl
      have hs : stE D aw x y yr tn k ≠ -1 := by
        intro q
        unfold mHd at c'
        simp [q] at c'
      refine s_X12_tickOf hD hM' hM2' hT hx hy (by omega) hs hv (s_X12_lay hM' hM2' (by omega) h26 hR (fun u' f' g' r' => ?_))
      intro z hz
      rw [hz, nI_1]
      refine ih (k + 1) u' (by omega) (hF.trans (f'.mono (fun b j q => by unfold inT; omega))) (hT.same (fun b j q => f'.2 b j (by omega))) ?_ ?_
      · rw [mLs_s, if_pos c', List.length_append]
        exact g'
      · rw [mLs_s, if_pos c']
        exact r'.perm (List.perm_append_singleton _ _).symm
theorem s_X12_tellRow {Q : Mm → Prop} {u : Mm} {D : Ld} (hD : okD D) {aw tn m l : Nat} {x y yr v : Int32} (hM : MR G u m) (hM2 : MR2 G u m) (hl : l < 7) (hC : ML u m l D) (hx : btw 0 40 x) (hy : btw 0 40 y) (ht : tn < 3) (ha : aw < 2 ^ 31) (hv : v ≠ 0) (hQ : ∀ u', Fx (inT m) u u' → TT D aw x y yr tn m u' → gI u' m 26 = nI (mLs D aw x y yr tn (hE D) v 80).length → Rw u' (m + 14) 0 (mLs D aw x y yr tn (hE D) v 80) → Q u') : V_X12_tellRow G m (nI l) (nI aw) x y yr (nI tn) v u Q := by
  refine ⟨hM.2.1, s_X12_tellEchoes hM hM2 hl hD hC hx hy ht ha (fun u1 f1 t1 w hw => ⟨81, ?_⟩)⟩
  rw [hw]
  have F0 : Fx (inT m) u (sI u1 m 26 0) := (f1.mono (fun b j c => by unfold inT; omega)).trans (Fx.put (by unfold inT; omega))
  exact tr_loop hD hM hM2 hl hC hx hy hv hQ 80 0 _ (by omega) F0 (t1.same (fun b j q => by rw [gI_sI, if_neg (by omega)])) (by rw [gI_sI, if_pos ⟨rfl, rfl⟩]; rfl) (fun i hi => absurd hi (by simp [mLs]))
end MROW
