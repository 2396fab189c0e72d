/-! CLAPS on both sides -/
theorem aI_ne {D : Ld} (hD : okD D) : aI D ≠ 0 := by
  intro c
  have := hD.2.2.2.2.1
  rw [c] at this
  exact absurd this.1 (by decide)
theorem btw_40 {k : Nat} (h : k ≤ 40) : btw 0 40 (nI k) := by
  unfold btw
  rw [nI_toInt (by omega)]
  omega
section CLAPS
variable {G : Gx} {u : Mm}
def cse (z : Nat) : Nat → Nat → Prop := fun a _ => (z + 304 ≤ a ∧ a ≤ z + 310) ∨ (z + 452 ≤ a ∧ a ≤ z + 457)
theorem c_scene' {Q : Mm → Prop} {D : Ld} {z j tn : Nat} {x y yr : Int32} (h : HC0 G u z) (hD : okD D) (hj : j < 7) (hC : CL u (lnd z j) D) (hx : btw 0 40 x) (hy : btw 0 40 y) (ht : tn < 3) (hQ : ∀ u' L, Fx (cse z) u u' → SC D x y yr tn (z + 304) (nW D) (nB D) u' → EC D 0 x y yr tn (z + 452) L u' → L.Nodup → (∀ k, k ∈ L ↔ k < 80 ∧ stE D 0 x y yr tn k ≠ -1) → L.length ≤ 16 → Q u') : V_X6_look G (z + 304) (lnd z j) x y yr (nI tn) u (fun u1 => (gR u1 z 7) ≠ 0 ∧ (gR u1 z 5) ≠ 0 ∧ kd G (gR u1 z 7) = 3 ∧ V_X3_gather G (gR u1 z 7) (gR u1 z 5) (lnd z j) (0 : Int32) u1 (fun u2 => Q u2)) := by
  have q := lnd_bd (z := z) hj
  refine s_X6_look hD (h.lr hj) hC h.sc.2 (by omega) (fun u1 f1 sc => ?_)
  have h' : HC0 G u1 z := h.fx f1
  rw [h'.ec.1, h'.sc.1]
  refine ⟨by omega, by omega, h'.ec.2.2.1, ?_⟩
  exact s_X3_gather (aw := 0) hD ht hx hy (by decide) (h'.lr hj) (hC.fx hD f1 (fun b j q => by unfold inS at q; omega)) h'.sc.2 h'.ec.2 (by omega) (by omega) sc (fun u2 L f2 sc2 ec nd mem len => hQ u2 L ((f1.mono (fun a j q => by unfold inS at q; unfold cse; omega)).trans (f2.mono (fun a j q => by unfold inG inS at q; unfold cse; omega))) sc2 ec nd mem len)
theorem cse_cst {z a j : Nat} (h : cse z a j) : cst z a j := by unfold cse at h; unfold cst; omega
theorem c_scene {Q : Mm → Prop} {D : Ld} {z j tn : Nat} {x y yr : Int32} (h : HC0 G u z) (hD : okD D) (hj : j < 7) (hC : CL u (lnd z j) D) (hx : btw 0 40 x) (hy : btw 0 40 y) (ht : tn < 3) (hQ : ∀ u' L, Fx (cst z) u u' → SC D x y yr tn (z + 304) (nW D) (nB D) u' → EC D 0 x y yr tn (z + 452) L u' → L.Nodup → (∀ k, k ∈ L ↔ k < 80 ∧ stE D 0 x y yr tn k ≠ -1) → L.length ≤ 16 → Q u') : V_X6_look G (z + 304) (lnd z j) x y yr (nI tn) u (fun u1 => (gR u1 z 7) ≠ 0 ∧ (gR u1 z 5) ≠ 0 ∧ kd G (gR u1 z 7) = 3 ∧ V_X3_gather G (gR u1 z 7) (gR u1 z 5) (lnd z j) (0 : Int32) u1 (fun u2 => Q u2)) :=
  c_scene' h hD hj hC hx hy ht (fun u' L f => hQ u' L (f.mono (fun a j q => cse_cst q)))
theorem CL_cst {z j : Nat} {D : Ld} {v : Mm} (hC : CL u (lnd z j) D) (hD : okD D) (hj : j < 7) (f : Fx (cst z) u v) : CL v (lnd z j) D := by
  have q := lnd_bd (z := z) hj
  exact hC.fx hD f (fun b j q => by unfold cst at q; omega)
theorem inR_cst {z a j : Nat} (h : inR (z + 452) a j) : cst z a j := by unfold inR at h; unfold cst; omega
def clM (S : St) (l x y yr tn : Int32) : List Int32 := mLs (sD S l.toNatClampNeg) 0 x y yr tn.toNatClampNeg (hE (sD S l.toNatClampNeg)) (aI (sD S l.toNatClampNeg)) 80
def clO (S : St) (l x y yr tn i : Int32) : Prop := inN 6 l ∧ (btw 0 40 x ∧ btw 0 40 y) ∧ btw 0 99 yr ∧ inN 3 tn ∧ (i = -1 ∨ inN (clM S l x y yr tn).length i)
def clV (S : St) (l x y yr tn i : Int32) : Int32 := if i = -1 then nI (clM S l x y yr tn).length else (srt (clM S l x y yr tn)).getD i.toNatClampNeg 0
theorem c_clap {Q : Int32 → Mm → Prop} {X : String → Mm → Prop} {z : Nat} {o : Nat → Nat} {S : St} {l x y yr tn i : Int32} (hR : RC G u z o S) (hS : okS S) (h1 : clO S l x y yr tn i → ∀ u', Fx (cst z) u u' → Q (clV S l x y yr tn i) u') (h0 : ¬ clO S l x y yr tn i → ∀ u', Fx (cst z) u u' → X "java/util/NoSuchElementException" u') : V_X11_clap G z l x y yr tn i u Q X := by
  obtain ⟨h, hL, hC, _⟩ := hR
  have R0 : Fx (cst z) u u := Fx.rfl'
  refine ⟨h.k, h.k, c_needLand h hL (fun k hk e => c_needPlace (fun hx hy => c_needYear (fun hyr => c_needTone (fun t ht e2 => ?_) (fun g => h0 (fun q => g q.2.2.2.1) _ R0)) (fun g => h0 (fun q => g q.2.2.1) _ R0)) (fun g => h0 (fun q => g q.2.1) _ R0)) (fun g => h0 (fun q => g q.1) _ R0)⟩
  subst e e2
  have hj := hL.2.2.1 k (by omega)
  have hD := hS.1 k hk
  have el : (nI k).toNatClampNeg = k := nI_clamp (by omega)
  have et : (nI t).toNatClampNeg = t := nI_clamp (by omega)
  unfold clO at h1 h0
  unfold clV at h1
  unfold clM at h1 h0
  rw [el, et] at h1 h0
  rw [h.sc.1]
  refine ⟨by omega, h.sc.2.2.1, c_scene h hD hj (hC k hk) hx hy ht (fun u' L f sc ec nd mem len => ?_)⟩
  have h' := h.fx f
  have hC' := CL_cst (hC k hk) hD hj f
  rw [h'.ec.1, hC'.2.2.2.1]
  refine ⟨by omega, (h.lr hj).2.1, h'.ec.2.2.1, s_X3_orderHeard hD hx hy h'.ec.2 ec (fun k hk => ((mem k).mp hk).2) len (fun u2 f2 g5 r2 => ?_)⟩
  have F : Fx (cst z) u u2 := f.trans (f2.mono (fun a j q => inR_cst q))
  have el2 := len_eq (h := hE (sD S k)) (v := aI (sD S k)) nd mem
  have er := row_eq hD (h := hE (sD S k)) hx hy nd mem hD.2.2.2.2.1
  have hl16 := hLs_len (sD S k) 0 x y yr t (hE (sD S k)) L
  rw [el2, er] at h1
  rw [el2] at h0
  refine ⟨fun e => ?_, fun ne => ⟨fun c => h0 (fun q => ?_) _ F, fun c => ⟨fun c2 => ?_, fun c2 => h0 (fun q => ?_) _ F⟩⟩⟩
  · have := h1 ⟨⟨k, hk, rfl⟩, ⟨hx, hy⟩, hyr, ⟨t, ht, rfl⟩, Or.inl e⟩ _ F
    rw [if_pos e] at this
    exact this
  · rcases q.2.2.2.2 with q | q
    · exact ne q
    · rw [inN_iff (by omega)] at q
      rw [fa_lt, li_0] at c
      omega
  · rw [fa_lt, nI_toInt (by omega)] at c2
    rw [fa_lt, li_0] at c
    obtain ⟨j, hjl, e3⟩ := (inN_iff (n := (hLs (sD S k) 0 x y yr t (hE (sD S k)) L).length) (x := i) (by omega)).mpr (by omega)
    subst e3
    have h2 := h'.fx f2
    have hC2 := CL_cst (hC k hk) hD hj F
    obtain ⟨_, _, _, _, _, _, r1, r2', r3⟩ := h2.ec.2
    rw [h2.ec.1, r3, r1, r2', nI_clamp (by omega), hC2.2.2.2.2.1]
    refine ⟨by omega, h2.ec.2.2.1, by omega, rfl, vp_in_nI (by omega) (by omega), s_X11_byAir hD.2.2.2.2.1 ?_⟩
    have := h1 ⟨⟨k, hk, rfl⟩, ⟨hx, hy⟩, hyr, ⟨t, ht, rfl⟩, Or.inr ⟨j, hjl, rfl⟩⟩ _ F
    rw [if_neg ne, nI_clamp (by omega), gd_map (by rw [srt_len]; exact hjl)] at this
    have e4 := r2 j hjl
    rw [Nat.zero_add] at e4
    rw [e4]
    exact this
  · rcases q.2.2.2.2 with q | q
    · exact ne q
    · rw [inN_iff (by omega)] at q
      rw [fa_lt, nI_toInt (by omega)] at c2
      omega
theorem m_clap {Q : Int32 → Mm → Prop} {m : Nat} {S : St} {l x y yr tn i : Int32} (hR : RM G u m S) (hS : okS S) (h1 : clO S l x y yr tn i → ∀ u', Fx (msc m) u u' → gI u' m 1 = 0 → Q (clV S l x y yr tn i) u') (h0 : ¬ clO S l x y yr tn i → ∀ u' v, Fx (msc m) u u' → gI u' m 1 = 1 → Q v u') : V_X12_clap G m l x y yr tn i u Q := by
  have mk : kd G m = 12 := hR.1.1.2.1
  have m0 : 0 < m := hR.1.1.1
  refine ⟨mk, fun w hw => ?_⟩
  subst hw
  obtain ⟨⟨hM, hM2, hM3, hM4⟩, hC, _⟩ := hR.put (c := 0)
  have F0 : Fx (msc m) u (sI u m 1 0) := Fx.code0
  have C0 : gI (sI u m 1 0) m 1 = 0 := gI_code
  have no : ¬ clO S l x y yr tn i → V_X12_clap_36 G Q m (sI u m 1 0) := fun g => ⟨mk, m_fail mk (h0 g _ _ F0.code gI_code)⟩
  refine m_isLand (fun k hk e => ⟨fun c => absurd c (by decide), fun _ => m_isPlace (fun hx hy => ⟨fun c => absurd c (by decide), fun _ => m_isYear (fun hyr => ⟨fun c => absurd c (by decide), fun _ => m_isTone (fun t ht e2 => ⟨fun c => absurd c (by decide), fun _ => ?_⟩) (fun g => ⟨fun _ => no (fun q => g q.2.2.2.1), fun c => absurd rfl c⟩)⟩) (fun g => ⟨fun _ => no (fun q => g q.2.2.1), fun c => absurd rfl c⟩)⟩) (fun g => ⟨fun _ => no (fun q => g q.2.1), fun c => absurd rfl c⟩)⟩) (fun g => ⟨fun _ => no (fun q => g q.1), fun c => absurd rfl c⟩)
  subst e e2
  have hD := hS.1 k hk
  have el : (nI k).toNatClampNeg = k := nI_clamp (by omega)
  have et : (nI t).toNatClampNeg = t := nI_clamp (by omega)
  clear no
  unfold clO at h1 h0
  unfold clV at h1
  unfold clM at h1 h0
  rw [el, et] at h1 h0
  obtain ⟨_, _, _, _, _, _, ⟨a1, a2, a3⟩, _⟩ := id hM
  rw [a3, a1, a2, el, (hC k hk).2.2.2.2.1]
  refine ⟨by omega, rfl, vp_in_nI (by omega) (by omega), s_X12_tellRow (aw := 0) hD hM hM2 (by omega) (hC k hk) hx hy ht (by decide) (aI_ne hD) (fun u1 f1 t1 g26 r1 => ?_)⟩
  have F1 : Fx (msc m) u u1 := F0.trans (f1.mono (fun a j q => inT_msc q))
  have C1 : gI u1 m 1 = 0 := by rw [f1.2 m 1 (by unfold inT; omega)]; exact C0
  have hl80 := mLs_len (sD S k) 0 x y yr t (hE (sD S k)) (aI (sD S k)) 80
  rw [g26]
  refine ⟨fun e => ?_, fun ne => m_isInN (by omega) (fun j hj e => ⟨fun c => absurd c (by decide), fun _ => ?_⟩) (fun g => ⟨fun _ => m_fail mk (h0 (fun q => ?_) _ _ F1.code gI_code), fun c => absurd rfl c⟩)⟩
  · have := h1 ⟨⟨k, hk, rfl⟩, ⟨hx, hy⟩, hyr, ⟨t, ht, rfl⟩, Or.inl e⟩ _ F1 C1
    rw [if_pos e] at this
    exact this
  · subst e
    obtain ⟨_, _, ⟨s1, s2, s3⟩, _⟩ := f1.kMR2 hM2
    rw [s3, s1, s2, nI_clamp (by omega)]
    refine ⟨by omega, rfl, vp_in_nI (by omega) (by omega), ?_⟩
    have := h1 ⟨⟨k, hk, rfl⟩, ⟨hx, hy⟩, hyr, ⟨t, ht, rfl⟩, Or.inr ⟨j, hj, rfl⟩⟩ _ F1 C1
    rw [if_neg ne, nI_clamp (by omega)] at this
    have e4 := r1 j hj
    rw [Nat.zero_add] at e4
    rw [e4]
    exact this
  · rcases q.2.2.2.2 with q | q
    · exact ne q
    · exact g q
def sgO (l x y yr tn e : Int32) : Prop := inN 6 l ∧ (btw 0 40 x ∧ btw 0 40 y) ∧ btw 0 99 yr ∧ inN 3 tn ∧ inN 80 e
def sgV (S : St) (l x y yr tn e : Int32) : Int32 := stE (sD S l.toNatClampNeg) 0 x y yr tn.toNatClampNeg e.toNatClampNeg
theorem c_strength {Q : Int32 → Mm → Prop} {X : String → Mm → Prop} {z : Nat} {o : Nat → Nat} {S : St} {l x y yr tn i : Int32} (hR : RC G u z o S) (hS : okS S) (h1 : sgO l x y yr tn i → ∀ u', Fx (cst z) u u' → Q (sgV S l x y yr tn i) u') (h0 : ¬ sgO l x y yr tn i → ∀ u', Fx (cst z) u u' → X "java/util/NoSuchElementException" u') : V_X11_strength G z l x y yr tn i u Q X := by
  obtain ⟨h, hL, hC, _⟩ := hR
  have R0 : Fx (cst z) u u := Fx.rfl'
  refine ⟨h.k, h.k, c_needLand h hL (fun k hk e => c_needPlace (fun hx hy => c_needYear (fun hyr => c_needTone (fun t ht e2 => ?_) (fun g => h0 (fun q => g q.2.2.2.1) _ R0)) (fun g => h0 (fun q => g q.2.2.1) _ R0)) (fun g => h0 (fun q => g q.2.1) _ R0)) (fun g => h0 (fun q => g q.1) _ R0)⟩
  subst e e2
  have hj := hL.2.2.1 k (by omega)
  have hD := hS.1 k hk
  have el : (nI k).toNatClampNeg = k := nI_clamp (by omega)
  have et : (nI t).toNatClampNeg = t := nI_clamp (by omega)
  unfold sgV at h1
  rw [el, et] at h1
  refine ⟨fun c => h0 (fun q => ?_) _ R0, fun c => ⟨fun c2 => ?_, fun c2 => h0 (fun q => ?_) _ R0⟩⟩
  · have q := q.2.2.2.2
    rw [inN_iff (by omega)] at q
    rw [fa_lt, li_0] at c
    omega
  · rw [fa_lt, li_0] at c
    rw [fa_lt, li_80] at c2
    obtain ⟨n, hn, e3⟩ := (inN_iff (n := 80) (x := i) (by omega)).mpr (by omega)
    subst e3
    rw [h.sc.1]
    refine ⟨by omega, h.sc.2.2.1, c_scene h hD hj (hC k hk) hx hy ht (fun u' L f sc ec nd mem len => ?_)⟩
    have h' := h.fx f
    rw [h'.ec.1]
    refine ⟨by omega, h'.ec.2.2.1, s_X3_strengthOf h'.ec.2 ec mem len hn ?_⟩
    have := h1 ⟨⟨k, hk, rfl⟩, ⟨hx, hy⟩, hyr, ⟨t, ht, rfl⟩, ⟨n, hn, rfl⟩⟩ _ f
    rw [nI_clamp (by omega)] at this
    exact this
  · have q := q.2.2.2.2
    rw [inN_iff (by omega)] at q
    rw [fa_lt, li_80] at c2
    omega
theorem m_strength {Q : Int32 → Mm → Prop} {m : Nat} {S : St} {l x y yr tn i : Int32} (hR : RM G u m S) (hS : okS S) (h1 : sgO l x y yr tn i → ∀ u', Fx (msc m) u u' → gI u' m 1 = 0 → Q (sgV S l x y yr tn i) u') (h0 : ¬ sgO l x y yr tn i → ∀ u' v, Fx (msc m) u u' → gI u' m 1 = 1 → Q v u') : V_X12_strength G m l x y yr tn i u Q := by
  have mk : kd G m = 12 := hR.1.1.2.1
  have m0 : 0 < m := hR.1.1.1
  refine ⟨mk, fun w hw => ?_⟩
  subst hw
  obtain ⟨⟨hM, hM2, hM3, hM4⟩, hC, _⟩ := hR.put (c := 0)
  have F0 : Fx (msc m) u (sI u m 1 0) := Fx.code0
  have C0 : gI (sI u m 1 0) m 1 = 0 := gI_code
  have no : ¬ sgO l x y yr tn i → V_X12_strength_47 G Q m (sI u m 1 0) := fun g => ⟨mk, m_fail mk (h0 g _ _ F0.code gI_code)⟩
  refine m_isLand (fun k hk e => ⟨fun c => absurd c (by decide), fun _ => m_isPlace (fun hx hy => ⟨fun c => absurd c (by decide), fun _ => m_isYear (fun hyr => ⟨fun c => absurd c (by decide), fun _ => m_isTone (fun t ht e2 => ⟨fun c => absurd c (by decide), fun _ => m_isIn (fun a b => ⟨fun c => absurd c (by decide), fun _ => ?_⟩) (fun g => ⟨fun _ => no (fun q => g ?_), fun c => absurd rfl c⟩)⟩) (fun g => ⟨fun _ => no (fun q => g q.2.2.2.1), fun c => absurd rfl c⟩)⟩) (fun g => ⟨fun _ => no (fun q => g q.2.2.1), fun c => absurd rfl c⟩)⟩) (fun g => ⟨fun _ => no (fun q => g q.2.1), fun c => absurd rfl c⟩)⟩) (fun g => ⟨fun _ => no (fun q => g q.1), fun c => absurd rfl c⟩)
  · rw [li_0] at a
    rw [li_79] at b
    obtain ⟨n, hn, e3⟩ := (inN_iff (n := 80) (x := i) (by omega)).mpr (by omega)
    subst e e2 e3
    have hD := hS.1 k hk
    refine s_X12_tellEchoes (aw := 0) hM hM2 (by omega) hD (hC k hk) hx hy ht (by decide) (fun u1 f1 t1 => ?_)
    obtain ⟨⟨s1, s2, s3⟩, _⟩ := f1.kMR2 hM2
    have F1 : Fx (msc m) u u1 := F0.trans (f1.mono (fun a j q => by unfold msc; omega))
    have C1 : gI u1 m 1 = 0 := by rw [f1.2 m 1 (by omega)]; exact C0
    rw [s3, s1, s2, nI_clamp (by omega)]
    refine ⟨by omega, rfl, vp_in_nI (by omega) (by omega), ?_⟩
    have := h1 ⟨⟨k, hk, rfl⟩, ⟨hx, hy⟩, hyr, ⟨t, ht, rfl⟩, ⟨n, hn, rfl⟩⟩ _ F1 C1
    unfold sgV at this
    rw [nI_clamp (by omega), nI_clamp (by omega), nI_clamp (by omega), ← (t1 n hn).1] at this
    exact this
  · have q := q.2.2.2.2
    rw [inN_iff (by omega)] at q
    rw [li_0, li_79]
    omega
end CLAPS
