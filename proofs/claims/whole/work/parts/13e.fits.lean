/-! FITS, WHERE, AIRS, WHOSE on both sides -/
theorem fitP_iff {D : Ld} {aw : Nat} {x y yr : Int32} {tn : Nat} {v : Int32} {L : List Int32} {g : Nat → Int32} (hg : ∀ i, i < L.length → g i = (srt L).getD i 0) : fitP D aw x y yr tn v L.length g ↔ srt (mLs D aw x y yr tn (hE D) v 80) = srt L := by
  unfold fitP
  constructor
  · rintro ⟨h1, h2⟩
    apply List.ext_getElem
    · rw [srt_len, srt_len]; exact h1
    · intro i q1 q2
      rw [← gd_get q1, ← gd_get q2, ← hg i (by rw [srt_len] at q2; exact q2)]
      exact h2 i (by rw [srt_len] at q2; exact q2)
  · intro h
    have hl : (mLs D aw x y yr tn (hE D) v 80).length = L.length := by rw [← srt_len, h, srt_len]
    exact ⟨hl, fun i hi => by rw [h, hg i hi]⟩
def fitB (D : Ld) (aw : Nat) (x y yr : Int32) (tn : Nat) (v : Int32) (L : List Int32) : Bool := decide (srt (mLs D aw x y yr tn (hE D) v 80) = srt L)
theorem fitB_t {D : Ld} {aw : Nat} {x y yr : Int32} {tn : Nat} {v : Int32} {L : List Int32} {g : Nat → Int32} (hg : ∀ i, i < L.length → g i = (srt L).getD i 0) (h : fitP D aw x y yr tn v L.length g) : fitB D aw x y yr tn v L = true := by
  unfold fitB
  rw [decide_eq_true_eq]
  exact (fitP_iff hg).mp h
theorem fitB_f {D : Ld} {aw : Nat} {x y yr : Int32} {tn : Nat} {v : Int32} {L : List Int32} {g : Nat → Int32} (hg : ∀ i, i < L.length → g i = (srt L).getD i 0) (h : ¬ fitP D aw x y yr tn v L.length g) : fitB D aw x y yr tn v L = false := by
  unfold fitB
  rw [decide_eq_false_iff_not]
  exact fun c => h ((fitP_iff hg).mpr c)
/-- a station's tone -/
def tnS (B : Bk) (s : Nat) : Nat := (bkF B s 3).toNatClampNeg
theorem tnS_ok {B : Bk} (hB : okB B) {s : Nat} (hs : s < bkN B) : tnS B s < 3 ∧ bkF B s 3 = nI (tnS B s) := by
  obtain ⟨t, ht, e⟩ := (hB.2.2.1 s hs).2.2.1
  unfold tnS
  rw [e, nI_clamp (by omega)]
  exact ⟨ht, rfl⟩
theorem named_ok {B : Bk} (hB : okB B) {s : Nat} (hs : s < bkN B) (h : bkF B s 0 ≠ -1) : btw 0 40 (bkF B s 0) ∧ btw 0 40 (bkF B s 1) := by
  rcases (hB.2.2.1 s hs).1 with q | q
  · exact q
  · exact absurd q.1 h
section FITS
variable {G : Gx} {u : Mm}
theorem c_fit {Q : Int32 → Mm → Prop} {D : Ld} {B : Bk} {z j s aw tn : Nat} {x y yr : Int32} {L : List Nat} (h : HC0 G u z) (hB : BC u (z + 172) B) (hk : okB B) (hs : s < bkN B) (hD : okD D) (hj : j < 7) (hC : CL u (lnd z j) D) (hx : btw 0 40 x) (hy : btw 0 40 y) (ec : EC D aw x y yr tn (z + 452) L u) (nd : L.Nodup) (mem : ∀ k, k ∈ L ↔ k < 80 ∧ stE D aw x y yr tn k ≠ -1) (len : L.length ≤ 16) (hQ : ∀ u', Fx (inR (z + 452)) u u' → Q (bI (fitB D aw x y yr tn (aI D) (bkT B s))) u') : V_X3_fit G (z + 452) (z + 172 + 6 + 3 * s) (lnd z j) u Q := by
  have q := lnd_bd (z := z) hj
  have n20 := hk.1
  have l12 := (hk.2.2.1 s hs).2.2.2
  obtain ⟨_, t0, tk, _, ⟨w1, w2, w3⟩⟩ := h.bk.2.2.2.2.2.2.2.2 s (by omega)
  obtain ⟨_, g1, _, g3⟩ := hB.2.2.1 s hs
  have hg : ∀ i, i < (bkT B s).length → gI u (z + 172 + 6 + 3 * s + 2) i = (srt (bkT B s)).getD i 0 := by
    intro i hi
    have := g3 i hi
    rw [Nat.zero_add] at this
    rw [show z + 172 + 6 + 3 * s + 2 = z + 172 + 8 + 3 * s by omega]
    exact this
  refine s_X3_fit hD hx hy (h.lr hj) hC (by omega) h.ec.2 ec nd mem len tk (by omega) w3 (by omega) (by omega) w1 w2 g1 l12 (fun u' f c => ?_) (fun u' f c => ?_)
  · have := hQ u' f
    rw [fitB_t hg c] at this
    exact this
  · have := hQ u' f
    rw [fitB_f hg c] at this
    exact this
theorem BC_cst {z : Nat} {B : Bk} {v : Mm} (hB : BC u (z + 172) B) (hk : okB B) (f : Fx (cst z) u v) : BC v (z + 172) B := hB.keep hk (fun a j q1 q2 _ => f.2 a j (by unfold cst; omega))
theorem c_fitsAt {Q : Int32 → Mm → Prop} {D : Ld} {B : Bk} {z j s : Nat} {x y : Int32} (h : HC0 G u z) (hB : BC u (z + 172) B) (hk : okB B) (hs : s < bkN B) (hD : okD D) (hj : j < 7) (hC : CL u (lnd z j) D) (hx : btw 0 40 x) (hy : btw 0 40 y) (hQ : ∀ u', Fx (cst z) u u' → Q (bI (fitB D 0 x y (bkF B s 2) (tnS B s) (aI D) (bkT B s))) u') : V_X11_fitsAt G z (lnd z j) (z + 172 + 6 + 3 * s) x y u Q := by
  have n20 := hk.1
  obtain ⟨_, t0, tk, _⟩ := h.bk.2.2.2.2.2.2.2.2 s (by omega)
  obtain ⟨g0, _⟩ := hB.2.2.1 s hs
  obtain ⟨ht, et⟩ := tnS_ok hk hs
  unfold V_X11_fitsAt
  rw [h.sc.1, g0 2 (by omega), g0 3 (by omega), et]
  refine ⟨h.k, by omega, tk, h.sc.2.2.1, c_scene h hD hj hC hx hy ht (fun u' L f sc ec nd mem len => ?_)⟩
  have h' := h.fx f
  rw [h'.ec.1]
  exact ⟨by omega, h'.ec.2.2.1, c_fit h' (BC_cst hB hk f) hk hs hD hj (CL_cst hC hD hj f) hx hy ec nd mem len (fun u2 f2 => ⟨bI_01 _, hQ u2 (f.trans (f2.mono (fun a j q => inR_cst q)))⟩)⟩
theorem m_fitsAt {Q : Int32 → Mm → Prop} {D : Ld} {B : Bk} {m l s aw : Nat} {x y v : Int32} (hH : HM G u m) (hB : BM u m 16 10 27 28 B) (hk : okB B) (hs : s < bkN B) (hD : okD D) (hl : l < 7) (hC : ML u m l D) (ha : aw < 2 ^ 31) (hx : btw 0 40 x) (hy : btw 0 40 y) (hv : v ≠ 0) (hQ : ∀ u', Fx (inT m) u u' → Q (bI (fitB D aw x y (bkF B s 2) (tnS B s) v (bkT B s))) u') : V_X12_fitsAt G m (nI l) (nI aw) (nI s) x y v u Q := by
  have n20 := hk.1
  have l12 := (hk.2.2.1 s hs).2.2.2
  obtain ⟨g0, g1, _, g3⟩ := hB.2.2.1 s hs
  obtain ⟨ht, et⟩ := tnS_ok hk hs
  have e2 := g0 2 (by omega)
  have e3 := g0 3 (by omega)
  simp only [Nat.add_assoc, Nat.reduceAdd] at e2 e3 g1
  rw [et] at e3
  have hg : ∀ i, i < (bkT B s).length → (fun i => gI u (m + 22) (12 * s + i)) i = (srt (bkT B s)).getD i 0 := fun i hi => g3 i hi
  refine s_X12_fitsAt hD hH.1 hH.2.1 hH.2.2.1 hl hC hx hy ht ha hv (by omega) l12 e2 e3 g1 (fun u' f c => ?_) (fun u' f c => ?_)
  · have := hQ u' f
    rw [fitB_t hg c] at this
    exact this
  · have := hQ u' f
    rw [fitB_f hg c] at this
    exact this
def ftO (S : St) (l s : Int32) : Prop := inN 6 l ∧ inN (bkN (sB S)) s
def ftB (S : St) (l s : Nat) (x y v : Int32) : Bool := fitB (sD S l) 0 x y (bkF (sB S) s 2) (tnS (sB S) s) v (bkT (sB S) s)
def ftV (S : St) (l s : Int32) : Bool := !decide (bkF (sB S) s.toNatClampNeg 0 = -1) && ftB S l.toNatClampNeg s.toNatClampNeg (bkF (sB S) s.toNatClampNeg 0) (bkF (sB S) s.toNatClampNeg 1) (aI (sD S l.toNatClampNeg))
theorem c_fits {Q : Int32 → Mm → Prop} {X : String → Mm → Prop} {z : Nat} {o : Nat → Nat} {S : St} {l s : Int32} (hR : RC G u z o S) (hS : okS S) (h1 : ftO S l s → ∀ u', Fx (cst z) u u' → Q (bI (ftV S l s)) u') (h0 : ¬ ftO S l s → ∀ u', Fx (cst z) u u' → X "java/util/NoSuchElementException" u') : V_X11_fits G z l s u Q X := by
  obtain ⟨h, hL, hC, hB, _⟩ := hR
  have hk := hS.2.1
  have n20 := hk.1
  have R0 : Fx (cst z) u u := Fx.rfl'
  refine ⟨h.k, c_needLand h hL (fun k hkk e => c_needStation h hB hk (fun t ht e2 => ⟨(h.bk.2.2.2.2.2.2.2.2 t (by omega)).2.2.1, ?_⟩) (fun g => h0 (fun q => g q.2) _ R0)) (fun g => h0 (fun q => g q.1) _ R0)⟩
  subst e e2
  have el : (nI k).toNatClampNeg = k := nI_clamp (by omega)
  have et : (nI t).toNatClampNeg = t := nI_clamp (by omega)
  unfold ftV at h1
  rw [el, et] at h1
  have ok : ftO S (nI k) (nI t) := ⟨⟨k, hkk, rfl⟩, ⟨t, ht, rfl⟩⟩
  obtain ⟨g0, _⟩ := hB.2.2.1 t ht
  refine c_isNamed h hB hk ht (fun nm => ⟨fun c => absurd c (by decide), fun _ => ?_⟩) (fun nn => ⟨fun _ => ?_, fun c => absurd rfl c⟩)
  · rw [g0 0 (by omega), g0 1 (by omega)]
    obtain ⟨hx, hy⟩ := named_ok hk ht nm
    refine c_fitsAt h hB hk ht (hS.1 k hkk) (hL.2.2.1 k (by omega)) (hC k hkk) hx hy (fun u' f => ?_)
    have := h1 ok u' f
    rw [decide_eq_false nm] at this
    simp only [Bool.not_false, Bool.true_and] at this
    unfold ftB at this
    refine ⟨fun c => ?_, fun c => ?_⟩
    · rw [bI_0] at c
      rw [c] at this
      exact this
    · have c' : fitB (sD S k) 0 (bkF (sB S) t 0) (bkF (sB S) t 1) (bkF (sB S) t 2) (tnS (sB S) t) (aI (sD S k)) (bkT (sB S) t) = true := by
        rw [bI_0] at c
        exact Bool.of_not_eq_false c
      rw [c'] at this
      exact this
  · have := h1 ok u R0
    rw [decide_eq_true nn] at this
    exact this
theorem m_fits {Q : Int32 → Mm → Prop} {m : Nat} {S : St} {l s : Int32} (hR : RM G u m S) (hS : okS S) (h1 : ftO S l s → ∀ u', Fx (msc m) u u' → gI u' m 1 = 0 → Q (bI (ftV S l s)) u') (h0 : ¬ ftO S l s → ∀ u' v, Fx (msc m) u u' → gI u' m 1 = 1 → Q v u') : V_X12_fits G m l s u Q := by
  have mk : kd G m = 12 := hR.1.1.2.1
  have m0 : 0 < m := hR.1.1.1
  have hk := hS.2.1
  have n20 := hk.1
  refine ⟨mk, fun w hw => ?_⟩
  subst hw
  obtain ⟨hH, hC, hB, _⟩ := hR.put (c := 0)
  have F0 : Fx (msc m) u (sI u m 1 0) := Fx.code0
  have C0 : gI (sI u m 1 0) m 1 = 0 := gI_code
  have no : ¬ ftO S l s → V_X12_fits_20 G Q m (sI u m 1 0) := fun g => ⟨mk, fun w hw => by rw [hw]; exact h0 g _ _ F0.code gI_code⟩
  refine m_isLand (fun k hkk e => ⟨fun c => absurd c (by decide), fun _ => m_isStation mk n20 hB.1 (fun t ht e2 => ⟨fun c => absurd c (by decide), fun _ => ?_⟩) (fun g => ⟨fun _ => no (fun q => g q.2), fun c => absurd rfl c⟩)⟩) (fun g => ⟨fun _ => no (fun q => g q.1), fun c => absurd rfl c⟩)
  subst e e2
  have el : (nI k).toNatClampNeg = k := nI_clamp (by omega)
  have et : (nI t).toNatClampNeg = t := nI_clamp (by omega)
  clear no
  unfold ftV at h1
  rw [el, et] at h1
  have ok : ftO S (nI k) (nI t) := ⟨⟨k, hkk, rfl⟩, ⟨t, ht, rfl⟩⟩
  obtain ⟨g0, _⟩ := hB.2.2.1 t ht
  have e0 := g0 0 (by omega)
  have e1 := g0 1 (by omega)
  simp only [Nat.add_assoc, Nat.reduceAdd] at e0 e1
  obtain ⟨⟨_, _, _, _, _, _, ⟨a1, a2, a3⟩, _⟩, _, ⟨_, _, ⟨b1, b2, b3⟩, ⟨c1, c2, c3⟩, _⟩, _⟩ := id hH
  refine m_isNamed hH hB hk ht (fun nm => ⟨fun c => absurd c (by decide), fun _ => ?_⟩) (fun nn => ⟨fun _ => ?_, fun c => absurd rfl c⟩)
  · rw [a3, a1, a2, b3, b1, b2, c3, c1, c2, el, et, (hC k hkk).2.2.2.2.1, e0, e1]
    obtain ⟨hx, hy⟩ := named_ok hk ht nm
    refine ⟨by omega, rfl, vp_in_nI (by omega) (by omega), by omega, rfl, vp_in_nI (by omega) (by omega), by omega, rfl, vp_in_nI (by omega) (by omega), m_fitsAt (aw := 0) hH hB hk ht (hS.1 k hkk) (by omega) (hC k hkk) (by decide) hx hy (aI_ne (hS.1 k hkk)) (fun u' f => ?_)⟩
    have := h1 ok u' (F0.trans (f.mono (fun a j q => inT_msc q))) (by rw [f.2 m 1 (by unfold inT; omega)]; exact C0)
    rw [decide_eq_false nm] at this
    simp only [Bool.not_false, Bool.true_and] at this
    unfold ftB at this
    refine ⟨fun c => ?_, fun c => ?_⟩
    · rw [bI_0] at c
      rw [c] at this
      exact this
    · have c' : fitB (sD S k) 0 (bkF (sB S) t 0) (bkF (sB S) t 1) (bkF (sB S) t 2) (tnS (sB S) t) (aI (sD S k)) (bkT (sB S) t) = true := by
        rw [bI_0] at c
        exact Bool.of_not_eq_false c
      rw [c'] at this
      exact this
  · have := h1 ok _ F0 C0
    rw [decide_eq_true nn] at this
    exact this
/-! where -/
theorem flt_at {f : Nat → Bool} {k : Nat} (hf : f k = true) : ∀ {n : Nat}, k < n → ((List.range n).filter f).getD ((List.range k).filter f).length 0 = k ∧ ((List.range k).filter f).length < ((List.range n).filter f).length
  | 0, h => absurd h (by omega)
  | n + 1, h => by
    rw [List.range_succ, List.filter_append]
    rcases Nat.lt_or_ge k n with q | q
    · obtain ⟨i1, i2⟩ := flt_at hf q
      rw [gd_l i2, List.length_append]
      exact ⟨i1, by omega⟩
    · have : k = n := by omega
      subst this
      have e : List.filter f [k] = [k] := by simp [hf]
      rw [e, gd_r, List.length_append]
      exact ⟨rfl, by simp⟩
theorem flt_s {f : Nat → Bool} {k : Nat} : ((List.range (k + 1)).filter f) = ((List.range k).filter f) ++ (if f k then [k] else []) := by
  rw [List.range_succ, List.filter_append]
  congr 1
  by_cases c : f k = true
  · simp [c]
  · simp [c]
theorem flt_len (f : Nat → Bool) (k : Nat) : ((List.range k).filter f).length ≤ k := by
  have := List.length_filter_le f (List.range k)
  rw [List.length_range] at this
  exact this
def whB (S : St) (l s : Nat) (p : Nat) : Bool := ftB S l s (nI (p % 41)) (nI (p / 41)) (aI (sD S l))
def whL (S : St) (l s n : Nat) : List Nat := (List.range n).filter (whB S l s)
def whO (S : St) (l s i : Int32) : Prop := inN 6 l ∧ inN (bkN (sB S)) s ∧ (i = -1 ∨ inN (whL S l.toNatClampNeg s.toNatClampNeg 1681).length i)
def whV (S : St) (l s i : Int32) : Int32 := if i = -1 then nI (whL S l.toNatClampNeg s.toNatClampNeg 1681).length else nI ((whL S l.toNatClampNeg s.toNatClampNeg 1681).getD i.toNatClampNeg 0)
theorem irm_41 {k : Nat} (h : k < 2 ^ 31) : irm (nI k) (41 : Int32) = nI (k % 41) := pk_rem (d := 41) h (by omega) (by omega)
theorem div_41 {k : Nat} (h : k < 2 ^ 31) : nI k / (41 : Int32) = nI (k / 41) := pk_div (d := 41) h (by omega) (by omega)
/-- the i-th of those that fit is not among the first ones -/
def whI (S : St) (l s : Nat) (i : Int32) (k : Nat) : Prop := ∀ j, j < (whL S l s k).length → i ≠ nI j
theorem c_where {Q : Int32 → Mm → Prop} {X : String → Mm → Prop} {z : Nat} {o : Nat → Nat} {S : St} {l s i : Int32} (hR : RC G u z o S) (hS : okS S) (h1 : whO S l s i → ∀ u', Fx (cst z) u u' → Q (whV S l s i) u') (h0 : ¬ whO S l s i → ∀ u', Fx (cst z) u u' → X "java/util/NoSuchElementException" u') : V_X11_where G z l s i u Q X := by
  obtain ⟨h, hL, hC, hB, _⟩ := hR
  have hk := hS.2.1
  have n20 := hk.1
  have R0 : Fx (cst z) u u := Fx.rfl'
  refine ⟨h.k, c_needLand h hL (fun k hkk e => c_needStation h hB hk (fun t ht e2 => ⟨1682, ?_⟩) (fun g => h0 (fun q => g q.2.1) _ R0)) (fun g => h0 (fun q => g q.1) _ R0)⟩
  subst e e2
  have el : (nI k).toNatClampNeg = k := nI_clamp (by omega)
  have et : (nI t).toNatClampNeg = t := nI_clamp (by omega)
  unfold whV at h1
  unfold whO at h1 h0
  rw [el, et] at h1 h0
  have hD := hS.1 k hkk
  have hj := hL.2.2.1 k (by omega)
  suffices go : ∀ (n p : Nat) (v : Mm), p + n = 1681 → Fx (cst z) u v → whI S k t i p → V_X11_where_20 G Q X (n + 1) z i (lnd z (o k)) (z + 172 + 6 + 3 * t) (nI (whL S k t p).length) (nI p) v from go 1681 0 u (by omega) R0 (fun j hj => absurd hj (by simp [whL]))
  intro n
  induction n with
  | zero =>
    intro p v hp f hI
    have hp' : p = 1681 := by omega
    subst hp'
    show V_X11_where_20_B G Q X (V_X11_where_20 G Q X 0) z i (lnd z (o k)) (z + 172 + 6 + 3 * t) (nI (whL S k t 1681).length) (nI 1681) v
    unfold V_X11_where_20_B
    refine ⟨fun _ => ⟨fun e => ?_, fun ne => h0 (fun q => ?_) _ f⟩, fun c => absurd (nI_le (a := 1681) (b := 1681) (by omega) (by omega)) c⟩
    · have := h1 ⟨⟨k, hkk, rfl⟩, ⟨t, ht, rfl⟩, Or.inl e⟩ _ f
      rw [if_pos e] at this
      exact this
    · rcases q.2.2 with q | ⟨j, hj, q⟩
      · exact ne q
      · exact hI j hj q
  | succ n ih =>
    intro p v hp f hI
    have hlen : (whL S k t p).length ≤ p := flt_len _ _
    have es : whL S k t (p + 1) = whL S k t p ++ (if whB S k t p then [p] else []) := flt_s
    show V_X11_where_20_B G Q X (V_X11_where_20 G Q X (n + 1)) z i (lnd z (o k)) (z + 172 + 6 + 3 * t) (nI (whL S k t p).length) (nI p) v
    unfold V_X11_where_20_B V_X11_where_61
    rw [irm_41 (by omega), div_41 (by omega)]
    refine ⟨fun c => absurd ((nI_leI (a := 1681) (by omega) (by omega)).mp c) (by omega), fun _ => ⟨h.k, c_fitsAt (h.fx f) (BC_cst hB hk f) hk ht hD hj (CL_cst (hC k hkk) hD hj f) (btw_40 (by omega)) (btw_40 (by omega)) (fun v2 f2 => ?_)⟩⟩
    have F2 := f.trans f2
    refine ⟨fun c w hw => ?_, fun c => ?_⟩
    · rw [bI_0] at c
      have c' : whB S k t p = false := c
      rw [hw, nI_1]
      have st := ih (p + 1) v2 (by omega) F2
      unfold whI at st hI
      rw [es, c'] at st
      simp only [Bool.false_eq_true, if_false, List.append_nil] at st
      exact st hI
    · have c' : whB S k t p = true := by
        rw [bI_0] at c
        exact Bool.of_not_eq_false c
      obtain ⟨w1, w2⟩ := flt_at c' (show p < 1681 by omega)
      have w1 : (whL S k t 1681).getD (whL S k t p).length 0 = p := w1
      have w2 : (whL S k t p).length < (whL S k t 1681).length := w2
      refine ⟨fun e => ?_, fun ne w hw w3 hw3 => ?_⟩
      · have := h1 ⟨⟨k, hkk, rfl⟩, ⟨t, ht, rfl⟩, Or.inr ⟨_, w2, e.symm⟩⟩ _ F2
        rw [← e, if_neg (nI_m1 (by omega)), nI_clamp (by omega), w1] at this
        exact this
      · rw [hw, nI_1, hw3, nI_1]
        have st := ih (p + 1) v2 (by omega) F2
        unfold whI at st hI
        rw [es, if_pos c', List.length_append] at st
        refine st (fun j hj => ?_)
        simp only [List.length_cons, List.length_nil] at hj
        rcases Nat.lt_or_ge j (whL S k t p).length with q | q
        · exact hI j q
        · rw [show j = (whL S k t p).length by omega]
          exact fun e => ne e.symm
theorem m_where {Q : Int32 → Mm → Prop} {m : Nat} {S : St} {l s i : Int32} (hR : RM G u m S) (hS : okS S) (h1 : whO S l s i → ∀ u', Fx (msc m) u u' → gI u' m 1 = 0 → Q (whV S l s i) u') (h0 : ¬ whO S l s i → ∀ u' v, Fx (msc m) u u' → gI u' m 1 = 1 → Q v u') : V_X12_where G m l s i u Q := by
  have mk : kd G m = 12 := hR.1.1.2.1
  have m0 : 0 < m := hR.1.1.1
  have hk := hS.2.1
  have n20 := hk.1
  refine ⟨mk, fun w hw => ?_⟩
  subst hw
  have hR0 := hR.put (c := 0)
  obtain ⟨hH, hC, hB, _⟩ := id hR0
  have F0 : Fx (msc m) u (sI u m 1 0) := Fx.code0
  have C0 : gI (sI u m 1 0) m 1 = 0 := gI_code
  have no : ¬ whO S l s i → V_X12_where_25 G Q m (sI u m 1 0) := fun g => ⟨mk, m_fail mk (h0 g _ _ F0.code gI_code)⟩
  refine m_isLand (fun k hkk e => ⟨fun c => absurd c (by decide), fun _ => m_isStation mk n20 hB.1 (fun t ht e2 => ⟨fun c => absurd c (by decide), fun _ => ⟨fun c => ?_, fun c => no (fun q => ?_)⟩⟩) (fun g => ⟨fun _ => no (fun q => g q.2.1), fun c => absurd rfl c⟩)⟩) (fun g => ⟨fun _ => no (fun q => g q.1), fun c => absurd rfl c⟩)
  case refine_2 =>
    rw [fa_le, li_m1] at c
    rcases q.2.2 with q | q
    · rw [q, li_m1] at c
      omega
    · rw [inN_iff (by have := flt_len (whB S l.toNatClampNeg s.toNatClampNeg) 1681; unfold whL; omega)] at q
      omega
  subst e e2
  have el : (nI k).toNatClampNeg = k := nI_clamp (by omega)
  have et : (nI t).toNatClampNeg = t := nI_clamp (by omega)
  clear no
  unfold whV at h1
  unfold whO at h1 h0
  rw [el, et] at h1 h0
  have hD := hS.1 k hkk
  suffices go : ∀ (n p : Nat) (v : Mm), p + n = 1681 → Fx (inT m) (sI u m 1 0) v → whI S k t i p → V_X12_where_37 G Q (n + 1) m (nI k) (nI t) i (nI (whL S k t p).length) (nI p) v from ⟨1682, go 1681 0 _ (by omega) Fx.rfl' (fun j hj => absurd hj (by simp [whL]))⟩
  intro n
  induction n with
  | zero =>
    intro p v hp f hI
    have hp' : p = 1681 := by omega
    subst hp'
    have F1 : Fx (msc m) u v := F0.trans (f.mono (fun a j q => inT_msc q))
    have C1 : gI v m 1 = 0 := by rw [f.2 m 1 (by unfold inT; omega)]; exact C0
    show V_X12_where_37_B G Q (V_X12_where_37 G Q 0) m (nI k) (nI t) i (nI (whL S k t 1681).length) (nI 1681) v
    unfold V_X12_where_37_B
    refine ⟨fun _ => ⟨fun e => ?_, fun ne => ⟨mk, m_fail mk (h0 (fun q => ?_) _ _ F1.code gI_code)⟩⟩, fun c => absurd (nI_le (a := 1681) (b := 1681) (by omega) (by omega)) c⟩
    · have := h1 ⟨⟨k, hkk, rfl⟩, ⟨t, ht, rfl⟩, Or.inl e⟩ _ F1 C1
      rw [if_pos e] at this
      exact this
    · rcases q.2.2 with q | ⟨j, hj, q⟩
      · exact ne q
      · exact hI j hj q
  | succ n ih =>
    intro p v hp f hI
    have hlen : (whL S k t p).length ≤ p := flt_len _ _
    have es : whL S k t (p + 1) = whL S k t p ++ (if whB S k t p then [p] else []) := flt_s
    obtain ⟨hHv, hCv, hBv, _⟩ := hR0.ms (f.mono (fun a j q => inT_msc q))
    obtain ⟨⟨_, _, _, _, _, _, ⟨a1, a2, a3⟩, _⟩, _⟩ := id hHv
    show V_X12_where_37_B G Q (V_X12_where_37 G Q (n + 1)) m (nI k) (nI t) i (nI (whL S k t p).length) (nI p) v
    unfold V_X12_where_37_B V_X12_where_86
    rw [irm_41 (by omega), div_41 (by omega), a3, a1, a2, el, (hCv k hkk).2.2.2.2.1]
    refine ⟨fun c => absurd ((nI_leI (a := 1681) (by omega) (by omega)).mp c) (by omega), fun _ => ⟨mk, by omega, rfl, vp_in_nI (by omega) (by omega), m_fitsAt (aw := 0) hHv hBv hk ht hD (by omega) (hCv k hkk) (by decide) (btw_40 (by omega)) (btw_40 (by omega)) (aI_ne hD) (fun v2 f2 => ?_)⟩⟩
    have F2 := f.trans f2
    refine ⟨fun c w hw => ?_, fun c => ?_⟩
    · rw [bI_0] at c
      have c' : whB S k t p = false := c
      rw [hw, nI_1]
      have st := ih (p + 1) v2 (by omega) F2
      unfold whI at st hI
      rw [es, c'] at st
      simp only [Bool.false_eq_true, if_false, List.append_nil] at st
      exact st hI
    · have c' : whB S k t p = true := by
        rw [bI_0] at c
        exact Bool.of_not_eq_false c
      obtain ⟨w1, w2⟩ := flt_at c' (show p < 1681 by omega)
      have w1 : (whL S k t 1681).getD (whL S k t p).length 0 = p := w1
      have w2 : (whL S k t p).length < (whL S k t 1681).length := w2
      refine ⟨fun e => ?_, fun ne w hw w3 hw3 => ?_⟩
      · have F1 : Fx (msc m) u v2 := F0.trans (F2.mono (fun a j q => inT_msc q))
        have C1 : gI v2 m 1 = 0 := by rw [F2.2 m 1 (by unfold inT; omega)]; exact C0
        have := h1 ⟨⟨k, hkk, rfl⟩, ⟨t, ht, rfl⟩, Or.inr ⟨_, w2, e.symm⟩⟩ _ F1 C1
        rw [← e, if_neg (nI_m1 (by omega)), nI_clamp (by omega), w1] at this
        exact this
      · rw [hw, nI_1, hw3, nI_1]
        have st := ih (p + 1) v2 (by omega) F2
        unfold whI at st hI
        rw [es, if_pos c', List.length_append] at st
        refine st (fun j hj => ?_)
        simp only [List.length_cons, List.length_nil] at hj
        rcases Nat.lt_or_ge j (whL S k t p).length with q | q
        · exact hI j q
        · rw [show j = (whL S k t p).length by omega]
          exact fun e => ne e.symm
end FITS
