/-! KNOWS and WORD on both sides -/
section KNOWS
variable {G : Gx} {u : Mm}
theorem ss_loop {Q : Int32 → Mm → Prop} {a b n : Nat} (ha : kd G a = 13) (hb : kd G b = 13) (la : n ≤ ln G a) (lb : n ≤ ln G b) (hla : ln G a < 2 ^ 31) (hlb : ln G b < 2 ^ 31) (h1 : (∀ i, i < n → gI u a i = gI u b i) → Q 1 u) (h0 : (¬ ∀ i, i < n → gI u a i = gI u b i) → Q 0 u) : ∀ (k i : Nat), i + k = n → (∀ j, j < i → gI u a j = gI u b j) → V_X11_sameStart_2 G Q (k + 1) a b (nI n) (nI i) u := by
  intro k
  induction k with
  | zero =>
    intro i hi hh
    show V_X11_sameStart_2_B G Q (V_X11_sameStart_2 G Q 0) a b (nI n) (nI i) u
    unfold V_X11_sameStart_2_B
    have : i = n := by omega
    subst this
    exact ⟨fun _ => h1 hh, fun c => absurd (nI_le (Nat.le_refl _) (by omega)) c⟩
  | succ k ih =>
    intro i hi hh
    show V_X11_sameStart_2_B G Q (V_X11_sameStart_2 G Q (k + 1)) a b (nI n) (nI i) u
    unfold V_X11_sameStart_2_B
    rw [nI_clamp (by omega)]
    refine ⟨fun c => absurd ((nI_leI (by omega) (by omega)).mp c) (by omega), fun _ => ⟨ha, vp_in_nI (by omega) hla, hb, vp_in_nI (by omega) hlb, fun c y hy => ?_, fun c => h0 (fun q => c (q i (by omega)))⟩⟩
    rw [hy, nI_1]
    refine ih (i + 1) (by omega) (fun j hj => ?_)
    rcases Nat.lt_or_ge j i with q | q
    · exact hh j q
    · rw [show j = i by omega]; exact c
theorem s_X11_sameStart {Q : Int32 → Mm → Prop} {a b n : Nat} (ha : kd G a = 13) (hb : kd G b = 13) (la : n ≤ ln G a) (lb : n ≤ ln G b) (hla : ln G a < 2 ^ 31) (hlb : ln G b < 2 ^ 31) (h1 : (∀ i, i < n → gI u a i = gI u b i) → Q 1 u) (h0 : (¬ ∀ i, i < n → gI u a i = gI u b i) → Q 0 u) : V_X11_sameStart G a b (nI n) u Q :=
  ⟨n + 1, ss_loop ha hb la lb hla hlb h1 h0 n 0 (by omega) (fun j hj => absurd hj (by omega))⟩
/-- two rows are one -/
theorem rows_iff {M N : List Int32} {f g : Nat → Int32} (hf : ∀ i, i < M.length → f i = (srt M).getD i 0) (hg : ∀ i, i < N.length → g i = (srt N).getD i 0) (hl : M.length = N.length) : (∀ i, i < M.length → f i = g i) ↔ srt M = srt N := by
  constructor
  · intro h
    apply List.ext_getElem
    · rw [srt_len, srt_len]; exact hl
    · intro i q1 q2
      rw [srt_len] at q1 q2
      have := h i q1
      rw [hf i q1, hg i q2] at this
      rw [gd_get (by rw [srt_len]; exact q1), gd_get (by rw [srt_len]; exact q2)] at this
      exact this
  · intro h i hi
    rw [hf i hi, hg i (by omega), h]
def knB (S : St) (l : Nat) (x y hX hY : Int32) (p : Nat) : Bool := decide (srt (uLs (sD S l) (nI (p % 41)) (nI (p / 41)) hX hY 16) = srt (uLs (sD S l) x y hX hY 16))
def knL (S : St) (l : Nat) (x y hX hY : Int32) (n : Nat) : List Nat := (List.range n).filter (knB S l x y hX hY)
def knO (l x y hX hY : Int32) : Prop := inN 6 l ∧ (btw 0 40 x ∧ btw 0 40 y) ∧ (btw 0 40 hX ∧ btw 0 40 hY)
def knV (S : St) (l x y hX hY : Int32) : Int32 := nI (knL S l.toNatClampNeg x y hX hY 1681).length
theorem tl_len {D : Ld} {x y hX hY : Int32} {L : List Nat} : (L.filter (fHd D 0 x y 0 0 (hE D))).length = (tLs D x y hX hY L).length := by unfold tLs; rw [List.length_map]
theorem c_thief {Q : Mm → Prop} {D : Ld} {z j : Nat} {x y : Int32} (h : HC0 G u z) (hD : okD D) (hj : j < 7) (hC : CL u (lnd z j) D) (hx : btw 0 40 x) (hy : btw 0 40 y) (hQ : ∀ u' L, Fx (cse z) u u' → SC D x y 0 0 (z + 304) (nW D) (nB D) u' → EC D 0 x y 0 0 (z + 452) L u' → L.Nodup → (∀ k, k ∈ L ↔ k < 80 ∧ stE D 0 x y 0 0 k ≠ -1) → L.length ≤ 16 → Q u') : V_X11_lookAsThief G z (lnd z j) x y u Q := by
  unfold V_X11_lookAsThief
  rw [h.sc.1]
  exact ⟨h.k, by omega, h.sc.2.2.1, c_scene' (tn := 0) h hD hj hC hx hy (by omega) hQ⟩
theorem c_knows {Q : Int32 → Mm → Prop} {X : String → Mm → Prop} {z : Nat} {o : Nat → Nat} {S : St} {l x y hX hY : Int32} (hR : RC G u z o S) (hS : okS S) (h1 : knO l x y hX hY → ∀ u', Fx (cst z) u u' → Q (knV S l x y hX hY) u') (h0 : ¬ knO l x y hX hY → ∀ u', Fx (cst z) u u' → X "java/util/NoSuchElementException" u') : V_X11_knows G z l x y hX hY u Q X := by
  obtain ⟨h, hL, hC, _⟩ := hR
  have R0 : Fx (cst z) u u := Fx.rfl'
  refine ⟨h.k, c_needLand h hL (fun k hk e => c_needPlace (fun hx hy => c_needPlace (fun h2x h2y => ?_) (fun g => h0 (fun q => g q.2.2) _ R0)) (fun g => h0 (fun q => g q.2.1) _ R0)) (fun g => h0 (fun q => g q.1) _ R0)⟩
  subst e
  have hj := hL.2.2.1 k (by omega)
  have hD := hS.1 k hk
  have ql := lnd_bd (z := z) hj
  have h1 := h1 ⟨⟨k, hk, rfl⟩, ⟨hx, hy⟩, h2x, h2y⟩
  unfold knV at h1
  rw [nI_clamp (by omega)] at h1
  have kl := (h.lr hj).2.1
  refine c_thief h hD hj (hC k hk) hx hy (fun u1 L f1 sc ec nd mem len => ?_)
  have h' := h.fx f1
  have hC1 := CL_cst (hC k hk) hD hj (f1.mono (fun a j q => cse_cst q))
  rw [h'.ec.1, hC1.2.2.2.1]
  refine ⟨by omega, kl, h'.ec.2.2.1, s_X3_countFirstHeard h'.ec.2 ec (fun k hk => ((mem k).mp hk).1) len ?_⟩
  obtain ⟨p1, p2, p3⟩ := h'.2.2.2.2.2.2.2.2.2.2.1
  rw [h'.ec.1, h'.sc.1, p3, tl_len (hX := hX) (hY := hY)]
  refine ⟨by omega, by omega, by omega, h'.ec.2.2.1, s_X3_orderForThief hD (h'.lr hj) hC1 h'.sc.2.2.1 sc.1 sc.2.1 hx hy h2x h2y h'.ec.2 ec mem len (by omega) (by omega) (by omega) p1 p2 (fun u2 f2 r2 => ⟨1682, ?_⟩)⟩
  have pm := tl_perm (hX := hX) (hY := hY) nd mem
  have hlen := tLs_len (sD S k) x y hX hY L
  have F2 : Fx (cst z) u u2 := (f1.mono (fun a j q => cse_cst q)).trans (f2.mono (fun a j q => by unfold cst; omega))
  suffices go : ∀ (n p : Nat) (v : Mm), p + n = 1681 → Fx (cst z) u v → Rw v (z + 474) 0 (tLs (sD S k) x y hX hY L) → V_X11_knows_68 G Q X (n + 1) z hX hY (lnd z (o k)) (nI (tLs (sD S k) x y hX hY L).length) (nI (knL S k x y hX hY p).length) (nI p) v from go 1681 0 u2 (by omega) F2 r2
  intro n
  induction n with
  | zero =>
    intro p v hp f r
    have hp' : p = 1681 := by omega
    subst hp'
    show V_X11_knows_68_B G Q X (V_X11_knows_68 G Q X 0) z hX hY (lnd z (o k)) _ (nI (knL S k x y hX hY 1681).length) (nI 1681) v
    unfold V_X11_knows_68_B
    exact ⟨fun _ => h1 v f, fun c => absurd (nI_le (a := 1681) (b := 1681) (by omega) (by omega)) c⟩
  | succ n ih =>
    intro p v hp f r
    have es : knL S k x y hX hY (p + 1) = knL S k x y hX hY p ++ (if knB S k x y hX hY p then [p] else []) := flt_s
    have hv := h.fx f
    have hCv := CL_cst (hC k hk) hD hj f
    have bx := btw_40 (k := p % 41) (by omega)
    have bY := btw_40 (k := p / 41) (by omega)
    show V_X11_knows_68_B G Q X (V_X11_knows_68 G Q X (n + 1)) z hX hY (lnd z (o k)) _ (nI (knL S k x y hX hY p).length) (nI p) v
    unfold V_X11_knows_68_B
    rw [irm_41 (by omega), div_41 (by omega)]
    refine ⟨fun c => absurd ((nI_leI (a := 1681) (by omega) (by omega)).mp c) (by omega), fun _ => ⟨h.k, c_thief hv hD hj hCv bx bY (fun v1 L2 g1 sc2 ec2 nd2 mem2 len2 => ?_)⟩⟩
    have h3 := hv.fx g1
    have hC3 := CL_cst hCv hD hj (g1.mono (fun a j q => cse_cst q))
    have pm2 := tl_perm (hX := hX) (hY := hY) nd2 mem2
    have hlen2 := tLs_len (sD S k) (nI (p % 41)) (nI (p / 41)) hX hY L2
    rw [h3.ec.1, hC3.2.2.2.1]
    refine ⟨by omega, kl, h3.ec.2.2.1, s_X3_countFirstHeard h3.ec.2 ec2 (fun k hk => ((mem2 k).mp hk).1) len2 ?_⟩
    rw [tl_len (hX := hX) (hY := hY)]
    have G1 : Fx (cst z) u v1 := f.trans (g1.mono (fun a j q => cse_cst q))
    have r1 : Rw v1 (z + 474) 0 (tLs (sD S k) x y hX hY L) := r.same (fun i _ => g1.2 _ _ (by unfold cse; omega))
    refine ⟨fun c => ?_, fun c => ?_⟩
    · have hl2 := nI_inj (by omega) (by omega) c
      obtain ⟨q1, q2, q3⟩ := h3.2.2.2.2.2.2.2.2.2.2.2.1
      rw [h3.ec.1, h3.sc.1, q3]
      refine ⟨by omega, by omega, by omega, h3.ec.2.2.1, s_X3_orderForThief hD (h3.lr hj) hC3 h3.sc.2.2.1 sc2.1 sc2.2.1 bx bY h2x h2y h3.ec.2 ec2 mem2 len2 (by omega) (by omega) (by omega) q1 q2 (fun v2 g2 rr => ?_)⟩
      have h4 := h3.fx g2
      obtain ⟨t1, t2, t3⟩ := h4.2.2.2.2.2.2.2.2.2.2.1
      obtain ⟨q1', q2', q3'⟩ := h4.2.2.2.2.2.2.2.2.2.2.2.1
      rw [t3, q3']
      have r3 : Rw v2 (z + 474) 0 (tLs (sD S k) x y hX hY L) := r1.same (fun i _ => g2.2 _ _ (by omega))
      have G2 : Fx (cst z) u v2 := G1.trans (g2.mono (fun a j q => by unfold cst; omega))
      have key := rows_iff (f := gI v2 (z + 474)) (g := gI v2 (z + 475)) (fun i hi => by have := r3 i hi; rw [Nat.zero_add] at this; exact this) (fun i hi => by have := rr i hi; rw [Nat.zero_add] at this; exact this) hl2.symm
      rw [srt_cong pm, srt_cong pm2] at key
      unfold V_X11_knows_153 V_X11_knows_156
      refine ⟨by omega, by omega, s_X11_sameStart t1 q1' (by omega) (by omega) (by omega) (by omega) (fun a => ⟨fun c => absurd c (by decide), fun _ y1 hy1 y2 hy2 => ?_⟩) (fun a => ⟨fun _ y1 hy1 y2 hy2 => ?_, fun c => absurd rfl c⟩)⟩
      · have kb : knB S k x y hX hY p = true := by
          unfold knB
          rw [decide_eq_true_eq]
          exact (key.mp a).symm
        have st := ih (p + 1) v2 (by omega) G2 r3
        rw [es, if_pos kb, List.length_append] at st
        rw [hy1, nI_1, hy2, nI_1]
        exact st
      · have kb : knB S k x y hX hY p = false := by
          unfold knB
          rw [decide_eq_false_iff_not]
          exact fun e => a (key.mpr e.symm)
        have st := ih (p + 1) v2 (by omega) G2 r3
        rw [es, kb] at st
        simp only [Bool.false_eq_true, if_false, List.append_nil] at st
        have e0 : ∀ t : Int32, t + 0 = t := fun t => by rw [Int32.add_zero]
        rw [hy1, e0, hy2, nI_1]
        exact st
    · have kb : knB S k x y hX hY p = false := by
        unfold knB
        rw [decide_eq_false_iff_not]
        intro e
        have := congrArg List.length e
        rw [srt_len, srt_len, ← pm.length_eq, ← pm2.length_eq] at this
        exact c (by rw [this])
      have st := ih (p + 1) v1 (by omega) G1 r1
      rw [es, kb] at st
      simp only [Bool.false_eq_true, if_false, List.append_nil] at st
      unfold V_X11_knows_156
      intro y2 hy2
      rw [hy2, nI_1]
      exact st
/-! the model -/
theorem kn_in {Q : Int32 → Mm → Prop} {K : Nat → Int32 → Int32 → Int32 → Int32 → Int32 → Int32 → Mm → Prop} {m n : Nat} {x1 x4 x5 x7 x8 : Int32} (hM : MR G u m) (hM2 : MR2 G u m) (hn : n ≤ 80) (h1 : (∀ i, i < n → gI u (m + 14) i = gI u (m + 15) i) → K m x1 x4 x5 (nI n) (x7 + 1) (x8 + 1) u) (h0 : (¬ ∀ i, i < n → gI u (m + 14) i = gI u (m + 15) i) → K m x1 x4 x5 (nI n) (x7 + 0) (x8 + 1) u) : ∀ (k i : Nat), i + k = n → (∀ j, j < i → gI u (m + 14) j = gI u (m + 15) j) → V_X12_knows_135 G Q K (k + 1) m x1 x4 x5 (nI n) x7 x8 (1 : Int32) (nI i) u := by
  obtain ⟨_, _, ⟨s1, s2, s3⟩, ⟨t1, t2, t3⟩⟩ := hM2
  have m0 := hM.1
  intro k
  induction k with
  | zero =>
    intro i hi hh
    have : i = n := by omega
    subst this
    show V_X12_knows_135_B G Q K (V_X12_knows_135 G Q K 0) m x1 x4 x5 (nI i) x7 x8 (1 : Int32) (nI i) u
    unfold V_X12_knows_135_B V_X12_knows_177 V_X12_knows_189
    exact ⟨fun c => absurd c (by decide), fun _ => ⟨fun _ => ⟨fun c => absurd c (by decide), fun _ y1 hy1 y2 hy2 => by rw [hy1, hy2]; exact h1 hh⟩, fun c => absurd (nI_le (Nat.le_refl _) (by omega)) c⟩⟩
  | succ k ih =>
    intro i hi hh
    show V_X12_knows_135_B G Q K (V_X12_knows_135 G Q K (k + 1)) m x1 x4 x5 (nI n) x7 x8 (1 : Int32) (nI i) u
    unfold V_X12_knows_135_B V_X12_knows_169
    rw [s3, s1, s2, t3, t1, t2, nI_clamp (by omega)]
    refine ⟨fun c => absurd c (by decide), fun _ => ⟨fun c => absurd ((nI_leI (by omega) (by omega)).mp c) (by omega), fun _ => ⟨hM.2.1, by omega, rfl, vp_in_nI (by omega) (by omega), by omega, rfl, vp_in_nI (by omega) (by omega), fun c y hy => ?_, fun c y hy => ?_⟩⟩⟩
    · rw [hy, nI_1]
      refine ih (i + 1) (by omega) (fun j hj => ?_)
      rcases Nat.lt_or_ge j i with q | q
      · exact hh j q
      · rw [show j = i by omega]; exact c
    · show V_X12_knows_135_B G Q K (V_X12_knows_135 G Q K k) m x1 x4 x5 (nI n) x7 x8 (0 : Int32) y u
      unfold V_X12_knows_135_B V_X12_knows_177 V_X12_knows_189
      exact ⟨fun _ => ⟨fun _ y1 hy1 y2 hy2 => by rw [hy1, hy2]; exact h0 (fun q => c (q i (by omega))), fun c => absurd rfl c⟩, fun c => absurd rfl c⟩
theorem kn_no {Q : Int32 → Mm → Prop} {K : Nat → Int32 → Int32 → Int32 → Int32 → Int32 → Int32 → Mm → Prop} {m : Nat} {x1 x4 x5 x6 x7 x8 i : Int32} (h0 : K m x1 x4 x5 x6 (x7 + 0) (x8 + 1) u) : V_X12_knows_135 G Q K 1 m x1 x4 x5 x6 x7 x8 (0 : Int32) i u := by
  show V_X12_knows_135_B G Q K (V_X12_knows_135 G Q K 0) m x1 x4 x5 x6 x7 x8 (0 : Int32) i u
  unfold V_X12_knows_135_B V_X12_knows_177 V_X12_knows_189
  exact ⟨fun _ => ⟨fun _ y1 hy1 y2 hy2 => by rw [hy1, hy2]; exact h0, fun c => absurd rfl c⟩, fun c => absurd rfl c⟩
theorem kn_cp {Q : Int32 → Mm → Prop} {u0 : Mm} {m n : Nat} {x1 x4 x5 : Int32} (hM : MR G u0 m) (hM2 : MR2 G u0 m) (hn : n ≤ 80) (hQ : ∀ u', Fx (fun a _ => a = m + 15) u0 u' → (∀ i, i < n → gI u' (m + 15) i = gI u0 (m + 14) i) → ∃ f, V_X12_knows_89 G Q f m x1 x4 x5 (nI n) (0 : Int32) (0 : Int32) u') : ∀ (k i : Nat) (u : Mm), i + k = n → Fx (fun a _ => a = m + 15) u0 u → (∀ j, j < i → gI u (m + 15) j = gI u0 (m + 14) j) → V_X12_knows_56 G Q (k + 1) m x1 x4 x5 (nI n) (nI i) u := by
  have m0 := hM.1
  intro k
  induction k with
  | zero =>
    intro i u hi f hh
    have : i = n := by omega
    subst this
    show V_X12_knows_56_B G Q (V_X12_knows_56 G Q 0) m x1 x4 x5 (nI i) (nI i) u
    unfold V_X12_knows_56_B
    exact ⟨fun _ => hQ u f hh, fun c => absurd (nI_le (Nat.le_refl _) (by omega)) c⟩
  | succ k ih =>
    intro i u hi f hh
    obtain ⟨_, _, ⟨s1, s2, s3⟩, ⟨t1, t2, t3⟩⟩ := f.kMR2 hM2
    show V_X12_knows_56_B G Q (V_X12_knows_56 G Q (k + 1)) m x1 x4 x5 (nI n) (nI i) u
    unfold V_X12_knows_56_B
    rw [s3, s1, s2, t3, t1, t2, nI_clamp (by omega)]
    refine ⟨fun c => absurd ((nI_leI (by omega) (by omega)).mp c) (by omega), fun _ => ⟨hM.2.1, by omega, by omega, rfl, vp_in_nI (by omega) (by omega), rfl, vp_in_nI (by omega) (by omega), fun w hw y hy => ?_⟩⟩
    rw [hy, nI_1, hw]
    refine ih (i + 1) _ (by omega) (f.trans (Fx.put rfl)) (fun j hj => ?_)
    rw [gI_sI]
    by_cases e : j = i
    · rw [if_pos ⟨rfl, e⟩, e]
      exact f.2 _ _ (by omega)
    · rw [if_neg (by omega)]
      exact hh j (by omega)
theorem m_knows {Q : Int32 → Mm → Prop} {m : Nat} {S : St} {l x y hX hY : Int32} (hR : RM G u m S) (hS : okS S) (h1 : knO l x y hX hY → ∀ u', Fx (msc m) u u' → gI u' m 1 = 0 → Q (knV S l x y hX hY) u') (h0 : ¬ knO l x y hX hY → ∀ u' v, Fx (msc m) u u' → gI u' m 1 = 1 → Q v u') : V_X12_knows G m l x y hX hY u Q := by
  have mk : kd G m = 12 := hR.1.1.2.1
  have m0 : 0 < m := hR.1.1.1
  refine ⟨mk, fun w hw => ?_⟩
  subst hw
  have hR0 := hR.put (c := 0)
  obtain ⟨⟨hM, hM2, _⟩, hC, _⟩ := id hR0
  have F0 : Fx (msc m) u (sI u m 1 0) := Fx.code0
  have C0 : gI (sI u m 1 0) m 1 = 0 := gI_code
  have no : ¬ knO l x y hX hY → V_X12_knows_30 G Q m (sI u m 1 0) := fun g => ⟨mk, m_fail mk (h0 g _ _ F0.code gI_code)⟩
  refine m_isLand (fun k hk e => ⟨fun c => absurd c (by decide), fun _ => m_isPlace (fun hx hy => ⟨fun c => absurd c (by decide), fun _ => m_isPlace (fun h2x h2y => ⟨fun c => absurd c (by decide), fun _ => ?_⟩) (fun g => ⟨fun _ => no (fun q => g q.2.2), fun c => absurd rfl c⟩)⟩) (fun g => ⟨fun _ => no (fun q => g q.2.1), fun c => absurd rfl c⟩)⟩) (fun g => ⟨fun _ => no (fun q => g q.1), fun c => absurd rfl c⟩)
  subst e
  clear no
  have hD := hS.1 k hk
  have h1 := h1 ⟨⟨k, hk, rfl⟩, ⟨hx, hy⟩, h2x, h2y⟩
  unfold knV at h1
  rw [nI_clamp (by omega)] at h1
  refine s_X12_tellThief hD hM hM2 (by omega) (hC k hk) hx hy h2x h2y (fun u1 f1 g1 r1 y1 hy1 => ?_)
  rw [hy1, g1]
  have hlen := uLs_len (sD S k) x y hX hY 16
  have hM1 := f1.kMR hM
  have hM21 := f1.kMR2 hM2
  refine ⟨(uLs (sD S k) x y hX hY 16).length + 1, kn_cp hM1 hM21 (by omega) (fun u2 f2 g2 => ⟨1682, ?_⟩) _ 0 u1 (by omega) Fx.rfl' (fun j hj => absurd hj (by omega))⟩
  have F2 : Fx (msc m) (sI u m 1 0) u2 := (f1.mono (fun a j q => inT_msc q)).trans (f2.mono (fun a j q => by unfold msc; omega))
  have o2 : ∀ i, i < (uLs (sD S k) x y hX hY 16).length → gI u2 (m + 15) i = (srt (uLs (sD S k) x y hX hY 16)).getD i 0 := by
    intro i hi
    rw [g2 i hi]
    have := r1 i hi
    rw [Nat.zero_add] at this
    exact this
  have c2 : gI u2 m 1 = 0 := by
    rw [f2.2 m 1 (by omega), f1.2 m 1 (by unfold inT; omega)]
    exact C0
  suffices go : ∀ (n p : Nat) (v : Mm), p + n = 1681 → Fx (msc m) (sI u m 1 0) v → gI v m 1 = 0 → (∀ i, i < (uLs (sD S k) x y hX hY 16).length → gI v (m + 15) i = (srt (uLs (sD S k) x y hX hY 16)).getD i 0) → V_X12_knows_89 G Q (n + 1) m (nI k) hX hY (nI (uLs (sD S k) x y hX hY 16).length) (nI (knL S k x y hX hY p).length) (nI p) v from go 1681 0 u2 (by omega) F2 c2 o2
  intro n
  induction n with
  | zero =>
    intro p v hp f cv ov
    have hp' : p = 1681 := by omega
    subst hp'
    show V_X12_knows_89_B G Q (V_X12_knows_89 G Q 0) m (nI k) hX hY _ (nI (knL S k x y hX hY 1681).length) (nI 1681) v
    unfold V_X12_knows_89_B
    exact ⟨fun _ => h1 v (F0.trans f) cv, fun c => absurd (nI_le (a := 1681) (b := 1681) (by omega) (by omega)) c⟩
  | succ n ih =>
    intro p v hp f cv ov
    have es : knL S k x y hX hY (p + 1) = knL S k x y hX hY p ++ (if knB S k x y hX hY p then [p] else []) := flt_s
    obtain ⟨⟨hMv, hM2v, _⟩, hCv, _⟩ := hR0.ms f
    have bx := btw_40 (k := p % 41) (by omega)
    have bY := btw_40 (k := p / 41) (by omega)
    show V_X12_knows_89_B G Q (V_X12_knows_89 G Q (n + 1)) m (nI k) hX hY _ (nI (knL S k x y hX hY p).length) (nI p) v
    unfold V_X12_knows_89_B V_X12_knows_130
    rw [irm_41 (by omega), div_41 (by omega)]
    refine ⟨fun c => absurd ((nI_leI (a := 1681) (by omega) (by omega)).mp c) (by omega), fun _ => ⟨mk, s_X12_tellThief hD hMv hM2v (by omega) (hCv k hk) bx bY h2x h2y (fun v1 k1 e1 rr => ?_)⟩⟩
    have Fv : Fx (msc m) (sI u m 1 0) v1 := f.trans (k1.mono (fun a j q => inT_msc q))
    have cv1 : gI v1 m 1 = 0 := by rw [k1.2 m 1 (by unfold inT; omega)]; exact cv
    have ov1 : ∀ i, i < (uLs (sD S k) x y hX hY 16).length → gI v1 (m + 15) i = (srt (uLs (sD S k) x y hX hY 16)).getD i 0 := fun i hi => by rw [k1.2 _ _ (by unfold inT; omega)]; exact ov i hi
    have hlen2 := uLs_len (sD S k) (nI (p % 41)) (nI (p / 41)) hX hY 16
    have e0 : ∀ t : Int32, t + 0 = t := fun t => by rw [Int32.add_zero]
    have st := ih (p + 1) v1 (by omega) Fv cv1 ov1
    rw [e1]
    refine ⟨fun c => ⟨(uLs (sD S k) x y hX hY 16).length + 1, kn_in (k1.kMR hMv) (k1.kMR2 hM2v) (n := (uLs (sD S k) x y hX hY 16).length) (by omega) (fun a => ?_) (fun a => ?_) (uLs (sD S k) x y hX hY 16).length 0 (by omega) (fun j hj => absurd hj (by omega))⟩, fun c => ⟨1, kn_no ?_⟩⟩
    · have hl2 := nI_inj (by omega) (by omega) c
      have key := rows_iff (f := gI v1 (m + 14)) (g := gI v1 (m + 15)) (fun i hi => by have := rr i hi; rw [Nat.zero_add] at this; exact this) ov1 hl2
      have kb : knB S k x y hX hY p = true := by
        unfold knB
        rw [decide_eq_true_eq]
        exact key.mp (by rw [hl2]; exact a)
      rw [es, if_pos kb, List.length_append] at st
      rw [nI_1, nI_1]
      exact st
    · have hl2 := nI_inj (by omega) (by omega) c
      have key := rows_iff (f := gI v1 (m + 14)) (g := gI v1 (m + 15)) (fun i hi => by have := rr i hi; rw [Nat.zero_add] at this; exact this) ov1 hl2
      have kb : knB S k x y hX hY p = false := by
        unfold knB
        rw [decide_eq_false_iff_not]
        exact fun e => a (by have := key.mpr e; rw [hl2] at this; exact this)
      rw [es, kb] at st
      simp only [Bool.false_eq_true, if_false, List.append_nil] at st
      rw [nI_1, e0]
      exact st
    · have kb : knB S k x y hX hY p = false := by
        unfold knB
        rw [decide_eq_false_iff_not]
        intro e
        have := congrArg List.length e
        rw [srt_len, srt_len] at this
        exact c (by rw [this])
      rw [es, kb] at st
      simp only [Bool.false_eq_true, if_false, List.append_nil] at st
      rw [nI_1, e0]
      exact st
/-! word -/
theorem bts_0 {f : Nat → Bool} {n : Nat} : bts f n = 0 ↔ ∀ k, k < n → f k = false := by
  constructor
  · intro h k hk
    have := bts_bit f n k
    rw [h, Nat.zero_testBit] at this
    simpa [hk] using this
  · intro h
    apply Nat.eq_of_testBit_eq
    intro j
    rw [bts_bit, Nat.zero_testBit]
    by_cases hj : j < n
    · rw [h j hj]; simp
    · simp [hj]
theorem hdn_0 {D : Ld} {x y x2 y2 : Int32} : bts (fun k => hidW D k x y x2 y2) (nW D) = 0 ↔ hdn D 0 x y x2 y2 = false := by
  rw [bts_0]
  unfold hdn
  rw [List.any_eq_false]
  constructor
  · intro h k hk
    rw [List.mem_range] at hk
    simp [h k hk]
  · intro h k hk
    have := h k (List.mem_range.mpr hk)
    simpa using this
def wdB (S : St) (l : Nat) (x y : Int32) (tn p : Nat) : Bool := !decide (nI (p % 41) = x ∧ nI (p / 41) = y) && (!hdn (sD S l) 0 x y (nI (p % 41)) (nI (p / 41)) && !decide (wds (sD S l) x y (nI (p % 41)) (nI (p / 41)) tn 1 (nO (sD S l)) 1000 < hE (sD S l)))
def wdL (S : St) (l : Nat) (x y : Int32) (tn n : Nat) : List Nat := (List.range n).filter (wdB S l x y tn)
def wdO (l x y tn : Int32) : Prop := inN 6 l ∧ (btw 0 40 x ∧ btw 0 40 y) ∧ inN 3 tn
def wdV (S : St) (l x y tn : Int32) : Int32 := nI (wdL S l.toNatClampNeg x y tn.toNatClampNeg 1681).length
theorem c_word {Q : Int32 → Mm → Prop} {X : String → Mm → Prop} {z : Nat} {o : Nat → Nat} {S : St} {l x y tn : Int32} (hR : RC G u z o S) (hS : okS S) (h1 : wdO l x y tn → Q (wdV S l x y tn) u) (h0 : ¬ wdO l x y tn → X "java/util/NoSuchElementException" u) : V_X11_word G z l x y tn u Q X := by
  obtain ⟨h, hL, hC, _⟩ := hR
  refine ⟨h.k, c_needLand h hL (fun k hk e => c_needPlace (fun hx hy => c_needTone (fun t ht e2 => ?_) (fun g => h0 (fun q => g q.2.2))) (fun g => h0 (fun q => g q.2.1))) (fun g => h0 (fun q => g q.1))⟩
  subst e e2
  have hj := hL.2.2.1 k (by omega)
  have hD := hS.1 k hk
  have h1 := h1 ⟨⟨k, hk, rfl⟩, ⟨hx, hy⟩, ⟨t, ht, rfl⟩⟩
  unfold wdV at h1
  rw [nI_clamp (by omega), nI_clamp (by omega)] at h1
  suffices go : ∀ (n p : Nat), p + n = 1681 → V_X11_word_23 G Q X (n + 1) x y (nI t) (lnd z (o k)) (nI (wdL S k x y t p).length) (nI p) u from ⟨1682, go 1681 0 (by omega)⟩
  intro n
  induction n with
  | zero =>
    intro p hp
    have hp' : p = 1681 := by omega
    subst hp'
    show V_X11_word_23_B G Q X (V_X11_word_23 G Q X 0) x y (nI t) (lnd z (o k)) (nI (wdL S k x y t 1681).length) (nI 1681) u
    unfold V_X11_word_23_B
    exact ⟨fun _ => h1, fun c => absurd (nI_le (a := 1681) (b := 1681) (by omega) (by omega)) c⟩
  | succ n ih =>
    intro p hp
    have es : wdL S k x y t (p + 1) = wdL S k x y t p ++ (if wdB S k x y t p then [p] else []) := flt_s
    have st := ih (p + 1) (by omega)
    have no : wdB S k x y t p = false → V_X11_word_109 G Q X (V_X11_word_23 G Q X (n + 1)) x y (nI t) (lnd z (o k)) (nI (wdL S k x y t p).length) (nI p) u := by
      intro kb
      rw [es, kb] at st
      simp only [Bool.false_eq_true, if_false, List.append_nil] at st
      intro y2 hy2
      rw [hy2, nI_1]
      exact st
    have main : ¬ (nI (p % 41) = x ∧ nI (p / 41) = y) → V_X11_word_62 G Q X (V_X11_word_23 G Q X (n + 1)) x y (nI t) (lnd z (o k)) (nI (wdL S k x y t p).length) (nI p) (nI (p % 41)) (nI (p / 41)) (0 : Int32) u := by
      intro ne
      unfold V_X11_word_62
      refine ⟨fun _ => ⟨(h.lr hj).2.1, s_X4_hidersBetween hD (h.lr hj) (hC k hk) ⟨fun c => s_X4_strengthAlong (times := 1) hD (h.lr hj) (hC k hk) ht (by omega) ?_, fun c => no ?_⟩⟩, fun c => absurd rfl c⟩
      · have nh : hdn (sD S k) 0 x y (nI (p % 41)) (nI (p / 41)) = false := by
          have hb := bts_lt (fun w => hidW (sD S k) w x y (nI (p % 41)) (nI (p / 41))) (nW (sD S k))
          have h6 := hD.1
          have : 2 ^ nW (sD S k) ≤ 2 ^ 6 := Nat.pow_le_pow_right (by omega) h6
          rw [← hdn_0]
          exact nI_inj (b := 0) (by omega) (by omega) c
        rw [(hC k hk).2.2.2.1, show (1000 : Int32) * (100 - 0) / 100 = 1000 from by decide]
        refine ⟨fun c2 => no ?_, fun c2 y1 hy1 => ?_⟩
        · unfold wdB
          rw [decide_eq_true c2]
          simp
        · have kb : wdB S k x y t p = true := by
            unfold wdB
            rw [decide_eq_false ne, nh, decide_eq_false c2]
            rfl
          rw [es, if_pos kb, List.length_append] at st
          intro y2 hy2
          rw [hy2, nI_1, hy1, nI_1]
          exact st
      · have nh : hdn (sD S k) 0 x y (nI (p % 41)) (nI (p / 41)) = true := by
          cases q : hdn (sD S k) 0 x y (nI (p % 41)) (nI (p / 41))
          · rw [hdn_0.mpr q] at c
            exact absurd rfl c
          · rfl
        unfold wdB
        rw [nh]
        simp
    show V_X11_word_23_B G Q X (V_X11_word_23 G Q X (n + 1)) x y (nI t) (lnd z (o k)) (nI (wdL S k x y t p).length) (nI p) u
    unfold V_X11_word_23_B V_X11_word_61
    refine ⟨fun c => absurd ((nI_leI (a := 1681) (by omega) (by omega)).mp c) (by omega), fun _ a ha b hb => ?_⟩
    rw [irm_41 (by omega)] at ha
    rw [div_41 (by omega)] at hb
    subst ha hb
    refine ⟨fun e1 => ⟨fun e2 => ⟨fun c => absurd c (by decide), fun _ => no ?_⟩, fun e2 => main (fun q => e2 q.2)⟩, fun e1 => main (fun q => e1 q.1)⟩
    unfold wdB
    rw [decide_eq_true ⟨e1, e2⟩]
    rfl
theorem m_word {Q : Int32 → Mm → Prop} {m : Nat} {S : St} {l x y tn : Int32} (hR : RM G u m S) (hS : okS S) (h1 : wdO l x y tn → ∀ u', Fx (msc m) u u' → gI u' m 1 = 0 → Q (wdV S l x y tn) u') (h0 : ¬ wdO l x y tn → ∀ u' v, Fx (msc m) u u' → gI u' m 1 = 1 → Q v u') : V_X12_word G m l x y tn u Q := by
  have mk : kd G m = 12 := hR.1.1.2.1
  have m0 : 0 < m := hR.1.1.1
  refine ⟨mk, fun w hw => ?_⟩
  subst hw
  have hR0 := hR.put (c := 0)
  obtain ⟨⟨hM, hM2, _⟩, hC, _⟩ := id hR0
  have F0 : Fx (msc m) u (sI u m 1 0) := Fx.code0
  have C0 : gI (sI u m 1 0) m 1 = 0 := gI_code
  have nop : ¬ wdO l x y tn → V_X12_word_28 G Q m (sI u m 1 0) := fun g => ⟨mk, m_fail mk (h0 g _ _ F0.code gI_code)⟩
  refine m_isLand (fun k hk e => ⟨fun c => absurd c (by decide), fun _ => m_isPlace (fun hx hy => ⟨fun c => absurd c (by decide), fun _ => m_isTone (fun t ht e2 => ⟨fun c => absurd c (by decide), fun _ => ?_⟩) (fun g => ⟨fun _ => nop (fun q => g q.2.2), fun c => absurd rfl c⟩)⟩) (fun g => ⟨fun _ => nop (fun q => g q.2.1), fun c => absurd rfl c⟩)⟩) (fun g => ⟨fun _ => nop (fun q => g q.1), fun c => absurd rfl c⟩)
  subst e e2
  clear nop
  have hD := hS.1 k hk
  have h1 := h1 ⟨⟨k, hk, rfl⟩, ⟨hx, hy⟩, ⟨t, ht, rfl⟩⟩ _ F0 C0
  unfold wdV at h1
  rw [nI_clamp (by omega), nI_clamp (by omega)] at h1
  obtain ⟨_, _, _, _, _, ⟨a1, a2, a3⟩, _⟩ := id hM
  suffices go : ∀ (n p : Nat), p + n = 1681 → V_X12_word_40 G Q (n + 1) m (nI k) x y (nI t) (nI (wdL S k x y t p).length) (nI p) (sI u m 1 0) from ⟨1682, go 1681 0 (by omega)⟩
  intro n
  induction n with
  | zero =>
    intro p hp
    have hp' : p = 1681 := by omega
    subst hp'
    show V_X12_word_40_B G Q (V_X12_word_40 G Q 0) m (nI k) x y (nI t) (nI (wdL S k x y t 1681).length) (nI 1681) _
    unfold V_X12_word_40_B
    exact ⟨fun _ => h1, fun c => absurd (nI_le (a := 1681) (b := 1681) (by omega) (by omega)) c⟩
  | succ n ih =>
    intro p hp
    have es : wdL S k x y t (p + 1) = wdL S k x y t p ++ (if wdB S k x y t p then [p] else []) := flt_s
    have st := ih (p + 1) (by omega)
    have no : wdB S k x y t p = false → V_X12_word_128 G Q (V_X12_word_40 G Q (n + 1)) m (nI k) x y (nI t) (nI (wdL S k x y t p).length) (nI p) (sI u m 1 0) := by
      intro kb
      rw [es, kb] at st
      simp only [Bool.false_eq_true, if_false, List.append_nil] at st
      intro y2 hy2
      rw [hy2, nI_1]
      exact st
    have e0 : ∀ t : Int32, t + 0 = t := fun t => by rw [Int32.add_zero]
    have main : ¬ (nI (p % 41) = x ∧ nI (p / 41) = y) → V_X12_word_74 G Q (V_X12_word_40 G Q (n + 1)) m (nI k) x y (nI t) (nI (wdL S k x y t p).length) (nI p) (nI (p % 41)) (nI (p / 41)) (sI u m 1 0) := by
      intro ne
      unfold V_X12_word_74
      refine ⟨mk, s_X12_isHidden (aw := 0) hM (by omega) hD (hC k hk) (by decide) ⟨fun c => s_X12_throughWoods (times := 1) hM (by omega) hD (hC k hk) hx hy (btw_40 (by omega)) (btw_40 (by omega)) ht (by omega) ?_, fun c => no ?_⟩⟩
      · rw [bI_0] at c
        rw [a3, a1, a2, nI_clamp (by omega), (hC k hk).2.2.2.1]
        unfold V_X12_word_125
        refine ⟨by omega, rfl, vp_in_nI (by omega) (by omega), fun c2 y1 hy1 => ?_, fun c2 y1 hy1 => ?_⟩
        · rw [hy1, e0]
          refine no ?_
          unfold wdB
          rw [decide_eq_true c2]
          simp
        · have kb : wdB S k x y t p = true := by
            unfold wdB
            rw [decide_eq_false ne, c, decide_eq_false c2]
            rfl
          rw [es, if_pos kb, List.length_append] at st
          intro y2 hy2
          rw [hy2, nI_1, hy1, nI_1]
          exact st
      · have nh : hdn (sD S k) 0 x y (nI (p % 41)) (nI (p / 41)) = true := by
          rw [bI_0] at c
          exact Bool.of_not_eq_false c
        unfold wdB
        rw [nh]
        simp
    show V_X12_word_40_B G Q (V_X12_word_40 G Q (n + 1)) m (nI k) x y (nI t) (nI (wdL S k x y t p).length) (nI p) _
    unfold V_X12_word_40_B
    refine ⟨fun c => absurd ((nI_leI (a := 1681) (by omega) (by omega)).mp c) (by omega), fun _ a ha b hb => ?_⟩
    rw [irm_41 (by omega)] at ha
    rw [div_41 (by omega)] at hb
    subst ha hb
    refine ⟨fun e1 => ⟨fun e2 => no ?_, fun e2 => main (fun q => e2 q.2)⟩, fun e1 => main (fun q => e1 q.1)⟩
    unfold wdB
    rw [decide_eq_true ⟨e1, e2⟩]
    rfl
end KNOWS
