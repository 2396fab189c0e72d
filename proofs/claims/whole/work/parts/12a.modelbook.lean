/-! THE MODEL: the book's rows -/
def MR3 (G : Gx) (u : Mm) (m : Nat) : Prop := AR G u m 10 10 4 ∧ AR G u m 11 11 700 ∧ AR G u m 29 16 20 ∧ AR G u m 30 17 20 ∧ AR G u m 31 18 20 ∧ AR G u m 32 19 20 ∧ AR G u m 33 20 20 ∧ AR G u m 34 21 240 ∧ AR G u m 35 22 240 ∧ AR G u m 36 23 8 ∧ AR G u m 37 24 8
theorem Fx.kMR3 {S : Nat → Nat → Prop} {G : Gx} {u v : Mm} {m : Nat} (h : Fx S u v) (hM : MR3 G u m) : MR3 G v m := by
  obtain ⟨a1, a2, a3, a4, a5, a6, a7, a8, a9, a10, a11⟩ := hM
  exact ⟨h.kAR a1, h.kAR a2, h.kAR a3, h.kAR a4, h.kAR a5, h.kAR a6, h.kAR a7, h.kAR a8, h.kAR a9, h.kAR a10, h.kAR a11⟩
section MBOOK
variable {G : Gx}
theorem iw_loop {Q : Int32 → Mm → Prop} {u : Mm} {m s T : Nat} {M : List Int32} (hM : MR G u m) (hM2 : MR2 G u m) (hM3 : MR3 G u m) (hs : s < 20) (hT12 : T ≤ 12) (h26 : gI u m 26 = nI T) (hl : M.length = T) (hR : Rw u (m + 14) 0 M) (hQ1 : (∀ i, i < T → (srt M).getD i 0 = gI u (m + 22) (12 * s + i)) → Q 1 u) (hQ0 : (¬ ∀ i, i < T → (srt M).getD i 0 = gI u (m + 22) (12 * s + i)) → Q 0 u) : ∀ (n k : Nat), k + n = T → (∀ i, i < k → (srt M).getD i 0 = gI u (m + 22) (12 * s + i)) → V_X12_isWritten_17 G Q (n + 1) m (nI s) (nI k) u := by
  obtain ⟨_, _, ⟨r1, r2, r3⟩, _⟩ := hM2
  obtain ⟨_, _, _, _, _, _, _, _, ⟨o1, o2, o3⟩, _, _⟩ := hM3
  have m0 := hM.1
  intro n
  induction n with
  | zero =>
    intro k hk hn
    show V_X12_isWritten_17_B G Q (V_X12_isWritten_17 G Q 0) m (nI s) (nI k) u
    unfold V_X12_isWritten_17_B
    rw [h26]
    exact ⟨hM.2.1, fun _ => hQ1 (fun i hi => hn i (by omega)), fun c => absurd (nI_le (by omega) (by omega)) c⟩
  | succ n ih =>
    intro k hk hn
    have ek : (nI k).toNatClampNeg = k := nI_clamp (by omega)
    have e1 : (12 : Int32) * nI s + nI k = nI (12 * s + k) := by
      rw [show (12 : Int32) * nI s = nI (12 * s) from pk_mul 12 s, nI_add]
    have e2 : (nI (12 * s + k)).toNatClampNeg = 12 * s + k := nI_clamp (by omega)
    have hr := hR k (by omega)
    rw [Nat.zero_add] at hr
    show V_X12_isWritten_17_B G Q (V_X12_isWritten_17 G Q (n + 1)) m (nI s) (nI k) u
    unfold V_X12_isWritten_17_B
    rw [h26, r3, r1, r2, o3, o1, o2, e1, e2, ek, hr]
    refine ⟨hM.2.1, fun c => ?_, fun _ => ⟨by omega, rfl, vp_in_nI (by omega) (by omega), by omega, rfl, vp_in_nI (by omega) (by omega), fun c z hz => ?_, fun c => hQ0 (fun w => c (w k (by omega)))⟩⟩
    · rw [nI_leI (by omega) (by omega)] at c
      omega
    · rw [hz, nI_1]
      refine ih (k + 1) (by omega) (fun i hi => ?_)
      by_cases q : i = k
      · rw [q]; exact c
      · exact hn i (by omega)
theorem s_X12_isWritten {Q : Int32 → Mm → Prop} {u : Mm} {m s T : Nat} {M : List Int32} (hM : MR G u m) (hM2 : MR2 G u m) (hM3 : MR3 G u m) (hs : s < 20) (hT12 : T ≤ 12) (hl80 : M.length ≤ 80) (h26 : gI u m 26 = nI M.length) (hT : gI u (m + 20) s = nI T) (hR : Rw u (m + 14) 0 M) (hQ1 : (M.length = T ∧ ∀ i, i < T → (srt M).getD i 0 = gI u (m + 22) (12 * s + i)) → Q 1 u) (hQ0 : ¬ (M.length = T ∧ ∀ i, i < T → (srt M).getD i 0 = gI u (m + 22) (12 * s + i)) → Q 0 u) : V_X12_isWritten G m (nI s) u Q := by
  have hM3' := hM3
  obtain ⟨_, _, _, _, _, _, ⟨t1, t2, t3⟩, _⟩ := hM3'
  have m0 := hM.1
  unfold V_X12_isWritten
  rw [t3, t1, t2, nI_clamp (show s < 2 ^ 31 by omega), hT, h26]
  refine ⟨hM.2.1, by omega, rfl, vp_in_nI hs (by omega), fun c => ?_, fun c => hQ0 (fun w => c (by rw [w.1]))⟩
  rw [nI_eq (by omega) (by omega)] at c
  exact ⟨T + 1, iw_loop hM hM2 hM3 hs hT12 (by rw [h26, c]) c hR (fun w => hQ1 ⟨c, w⟩) (fun w => hQ0 (fun q => w q.2)) T 0 (by omega) (fun i hi => absurd hi (by omega))⟩
/-- a station of the model fits at a place -/
theorem s_X12_fitsAt {Q : Int32 → Mm → Prop} {u : Mm} {D : Ld} (hD : okD D) {aw tn m l s T : Nat} {x y v yr : Int32} (hM : MR G u m) (hM2 : MR2 G u m) (hM3 : MR3 G u m) (hl : l < 7) (hC : ML u m l D) (hx : btw 0 40 x) (hy : btw 0 40 y) (ht : tn < 3) (ha : aw < 2 ^ 31) (hv : v ≠ 0) (hs : s < 20) (hT12 : T ≤ 12) (hyr : gI u (m + 18) s = yr) (htn : gI u (m + 19) s = nI tn) (hT : gI u (m + 20) s = nI T) (hQ1 : ∀ u', Fx (inT m) u u' → fitP D aw x y yr tn v T (fun i => gI u (m + 22) (12 * s + i)) → Q 1 u') (hQ0 : ∀ u', Fx (inT m) u u' → ¬ fitP D aw x y yr tn v T (fun i => gI u (m + 22) (12 * s + i)) → Q 0 u') : V_X12_fitsAt G m (nI l) (nI aw) (nI s) x y v u Q := by
  have hM3' := hM3
  obtain ⟨_, _, _, _, ⟨y1, y2, y3⟩, ⟨t1, t2, t3⟩, _⟩ := hM3'
  have m0 := hM.1
  unfold V_X12_fitsAt
  rw [y3, y1, y2, t3, t1, t2, nI_clamp (show s < 2 ^ 31 by omega), hyr, htn]
  refine ⟨hM.2.1, by omega, rfl, vp_in_nI hs (by omega), by omega, rfl, vp_in_nI hs (by omega), s_X12_tellRow hD hM hM2 hl hC hx hy ht ha hv (fun u' f' _ g' r' => ?_)⟩
  have hlen := mLs_len D aw x y yr tn (hE D) v 80
  have eo : ∀ i, gI u' (m + 22) (12 * s + i) = gI u (m + 22) (12 * s + i) := fun i => f'.2 _ _ (by unfold inT; omega)
  refine s_X12_isWritten (T := T) (f'.kMR hM) (f'.kMR2 hM2) (f'.kMR3 hM3) hs hT12 hlen g' (by rw [f'.2 _ _ (by unfold inT; omega)]; exact hT) r' (fun w => ⟨Or.inr rfl, hQ1 u' f' ?_⟩) (fun w => ⟨Or.inl rfl, hQ0 u' f' (fun q => w ?_)⟩)
  · exact ⟨w.1, fun i hi => by rw [w.2 i hi, eo]⟩
  · exact ⟨q.1, fun i hi => by rw [q.2 i hi, eo]⟩
end MBOOK
