/-! A TEXT read whole -/
section PROG
variable {c : Nat → Nat} {n : Nat}
theorem kE_nxt {t : Tk} (h : okT n t) : kE t ≤ kE (nxt c n t) := Nat.le_trans (tS_bd h.1).1 (tE_bd h.1).1
theorem kE_rdT {lo hi fl : Nat} {t : Tk} (h : okT n t) : kE t ≤ kE (rdT c n lo hi fl t) := by
  unfold rdT
  split
  · split
    · split
      · split
        · exact kE_nxt h
        · exact Nat.le_refl _
      · exact Nat.le_refl _
    · exact Nat.le_refl _
  · exact Nat.le_refl _
theorem kE_sgT {t : Tk} (h : okT n t) : kE t ≤ kE (sgT c n t) := by
  unfold sgT
  split
  · split
    · exact kE_nxt h
    · exact Nat.le_refl _
  · exact Nat.le_refl _
theorem lsT_ok {t : Tk} (h : okT n t) : okT n (lsT c n t) := by
  unfold lsT
  split
  · exact rdT_ok (nxt_ok h)
  · exact h
theorem kE_lsT {t : Tk} (h : okT n t) : kE t ≤ kE (lsT c n t) := by
  unfold lsT
  split
  · exact Nat.le_trans (kE_nxt h) (kE_rdT (nxt_ok h))
  · exact Nat.le_refl _
theorem wl4_up {t : Tk} (h : okT n t) : okT n (wl4 c n t) ∧ kE t ≤ kE (wl4 c n t) := by
  have a1 : okT n (wl1 c n t) := rdT_ok h
  have a2 : okT n (wl2 c n t) := rdT_ok a1
  have a3 : okT n (wl3 c n t) := rdT_ok a2
  exact ⟨lsT_ok a3, Nat.le_trans (Nat.le_trans (kE_rdT h) (kE_rdT a1)) (Nat.le_trans (kE_rdT a2) (kE_lsT a3))⟩
theorem bn6_up {t : Tk} (h : okT n t) : okT n (bn6 c n t) ∧ kE t ≤ kE (bn6 c n t) := by
  have a1 : okT n (bn1 c n t) := rdT_ok h
  have a2 : okT n (bn2 c n t) := rdT_ok a1
  have a3 : okT n (bn3 c n t) := lsT_ok a2
  have b3 : kE t ≤ kE (bn3 c n t) := Nat.le_trans (Nat.le_trans (kE_rdT h) (kE_rdT a1)) (kE_lsT a2)
  have a4 : okT n (bn4 c n t) := rdT_ok (nxt_ok a3)
  have b4 : kE t ≤ kE (bn4 c n t) := Nat.le_trans b3 (Nat.le_trans (kE_nxt a3) (kE_rdT (nxt_ok a3)))
  unfold bn6
  split
  · exact ⟨rdT_ok a4, Nat.le_trans b4 (kE_rdT a4)⟩
  · exact ⟨a3, b3⟩
theorem wdI_up {t : Tk} (h : okT n t) : ∀ j, okT n (wdI c n t j) ∧ kE t ≤ kE (wdI c n t j)
  | 0 => by
    have a1 : okT n (wd1 c n t) := rdT_ok h
    have a2 : okT n (wd2 c n t) := rdT_ok a1
    have a3 : okT n (wd3 c n t) := rdT_ok a2
    exact ⟨rdT_ok a3, Nat.le_trans (Nat.le_trans (kE_rdT h) (kE_rdT a1)) (Nat.le_trans (kE_rdT a2) (kE_rdT a3))⟩
  | j + 1 => ⟨rdT_ok (wdI_up h j).1, Nat.le_trans (wdI_up h j).2 (kE_rdT (wdI_up h j).1)⟩
theorem isW_k {i : Nat} {t : Tk} (h : isW c n i t = true) : tK c n (kE t) = 0 := by
  unfold isW at h
  exact (of_decide_eq_true h).2.1
theorem wh_k {t : Tk} (h : wh c n t < 6) : tK c n (kE t) = 0 := isW_k (whF_is (c := c) (n := n) (t := t) 6 0 h)
theorem lnT_up {D : Ld} {hb ab : Bool} {t : Tk} (h : okT n t) (h0 : kC (lnT c n D hb ab t) = 0) : kE t < kE (lnT c n D hb ab t) := by
  have up : wh c n t < 6 → kE t < kE (nxt c n t) := fun q => by
    have k := wh_k q
    exact Nat.lt_of_le_of_lt (tS_bd h.1).1 ((tE_bd (c := c) h.1).2.2 (by omega))
  have ok1 := nxt_ok (c := c) h
  unfold lnT at h0 ⊢
  by_cases g0 : wh c n t < 2
  · rw [if_pos g0] at h0 ⊢
    unfold ln0 at h0 ⊢
    by_cases q : nW D < 6
    · rw [if_pos q]
      exact Nat.lt_of_lt_of_le (up (by omega)) (Nat.le_trans (wl4_up ok1).2 (kE_sgT (wl4_up ok1).1))
    · rw [if_neg q] at h0
      exact absurd h0 (by unfold kC flt4; omega)
  rw [if_neg g0] at h0 ⊢
  by_cases g2 : wh c n t = 2
  · rw [if_pos g2] at h0 ⊢
    unfold ln2 at h0 ⊢
    by_cases q : nB D < 6
    · rw [if_pos q]
      exact Nat.lt_of_lt_of_le (up (by omega)) (Nat.le_trans (bn6_up ok1).2 (kE_sgT (bn6_up ok1).1))
    · rw [if_neg q] at h0
      exact absurd h0 (by unfold kC flt4; omega)
  rw [if_neg g2] at h0 ⊢
  by_cases g3 : wh c n t = 3
  · rw [if_pos g3] at h0 ⊢
    unfold ln3 at h0 ⊢
    by_cases q : nO D < 4
    · rw [if_pos q]
      exact Nat.lt_of_lt_of_le (up (by omega)) (Nat.le_trans (wdI_up ok1 3).2 (kE_sgT (wdI_up ok1 3).1))
    · rw [if_neg q] at h0
      exact absurd h0 (by unfold kC flt4; omega)
  rw [if_neg g3] at h0 ⊢
  by_cases g4 : wh c n t = 4
  · rw [if_pos g4] at h0 ⊢
    unfold ln4 at h0 ⊢
    cases hb with
    | true => exact absurd h0 (by rw [if_pos rfl]; unfold kC flt4; omega)
    | false =>
      rw [if_neg (by decide)]
      exact Nat.lt_of_lt_of_le (up (by omega)) (Nat.le_trans (kE_rdT ok1) (kE_sgT (rdT_ok ok1)))
  rw [if_neg g4] at h0 ⊢
  by_cases g5 : wh c n t = 5
  · rw [if_pos g5] at h0 ⊢
    unfold ln5 at h0 ⊢
    cases ab with
    | true => exact absurd h0 (by rw [if_pos rfl]; unfold kC flt4; omega)
    | false =>
      rw [if_neg (by decide)]
      exact Nat.lt_of_lt_of_le (up (by omega)) (Nat.le_trans (kE_rdT ok1) (kE_sgT (rdT_ok ok1)))
  rw [if_neg g5] at h0
  exact absurd h0 (by unfold kC flt4; omega)
theorem btw_n {a b x : Nat} (h1 : a ≤ x) (h2 : x ≤ b) (hb : b < 10000) : btw a b (nI x) := by
  unfold btw
  rw [nI_toInt (by omega)]
  omega
theorem ldW_ok {D : Ld} {V : Nat → Int32} (h : okD D) (h6 : nW D < 6) (v0 : V 0 = 0 ∨ V 0 = 1) (v1 : btw 0 40 (V 1)) (v2 : btw 0 40 (V 2)) (v3 : btw 0 40 (V 3)) (v4 : btw 0 100 (V 4)) : okD (ldW D V) := by
  obtain ⟨c1, c2, c3, c4, c5, cw, cb, co⟩ := h
  refine ⟨h6, c2, c3, c4, c5, fun k hk => ?_, cb, co⟩
  have hk : k < nW D + 1 := hk
  show ((if k = nW D then V else dW D k) 0 = 0 ∨ (if k = nW D then V else dW D k) 0 = 1) ∧ btw 0 40 ((if k = nW D then V else dW D k) 1) ∧ btw 0 40 ((if k = nW D then V else dW D k) 2) ∧ btw 0 40 ((if k = nW D then V else dW D k) 3) ∧ btw 0 100 ((if k = nW D then V else dW D k) 4)
  by_cases e : k = nW D
  · rw [if_pos e]; exact ⟨v0, v1, v2, v3, v4⟩
  · rw [if_neg e]; exact cw k (by omega)
theorem ldB_ok {D : Ld} {V : Nat → Int32} (h : okD D) (h6 : nB D < 6) (v0 : btw 0 40 (V 0)) (v1 : btw 0 40 (V 1)) (v2 : btw 0 100 (V 2)) : okD (ldB D V) := by
  obtain ⟨c1, c2, c3, c4, c5, cw, cb, co⟩ := h
  refine ⟨c1, h6, c3, c4, c5, cw, fun k hk => ?_, co⟩
  have hk : k < nB D + 1 := hk
  show btw 0 40 ((if k = nB D then V else dB D k) 0) ∧ btw 0 40 ((if k = nB D then V else dB D k) 1) ∧ btw 0 100 ((if k = nB D then V else dB D k) 2)
  by_cases e : k = nB D
  · rw [if_pos e]; exact ⟨v0, v1, v2⟩
  · rw [if_neg e]; exact cb k (by omega)
theorem ldO_ok {D : Ld} {V : Nat → Int32} (h : okD D) (h6 : nO D < 4) (v : ∀ f, f < 4 → btw 0 40 (V f)) (v4 : ∀ f, f < 3 → btw 0 100 (V (4 + f))) : okD (ldO D V) := by
  obtain ⟨c1, c2, c3, c4, c5, cw, cb, co⟩ := h
  refine ⟨c1, c2, h6, c4, c5, cw, cb, fun k hk => ?_⟩
  have hk : k < nO D + 1 := hk
  show btw 0 40 ((if k = nO D then V else dO D k) 0) ∧ btw 0 40 ((if k = nO D then V else dO D k) 1) ∧ btw 0 40 ((if k = nO D then V else dO D k) 2) ∧ btw 0 40 ((if k = nO D then V else dO D k) 3) ∧ ∀ t, t < 3 → btw 0 100 ((if k = nO D then V else dO D k) (4 + t))
  by_cases e : k = nO D
  · rw [if_pos e]; exact ⟨v 0 (by omega), v 1 (by omega), v 2 (by omega), v 3 (by omega), v4⟩
  · rw [if_neg e]; exact co k (by omega)
theorem wdI_0 {t : Tk} : ∀ j, kC (wdI c n t j) = 0 → kC (wd4 c n t) = 0 ∧ ∀ i, i < j → rdV c n (wdI c n t i) ≤ 100
  | 0, h => ⟨h, fun i hi => absurd hi (by omega)⟩
  | j + 1, h => by
    have a := rdT_0 h
    obtain ⟨b1, b2⟩ := wdI_0 j a.1
    refine ⟨b1, fun i hi => ?_⟩
    by_cases e : i = j
    · rw [e]; exact a.2.2.1
    · exact b2 i (by omega)
theorem lnD_ok {D : Ld} {hb ab : Bool} {t : Tk} (hD : okD D) (h0 : kC (lnT c n D hb ab t) = 0) : okD (lnD c n D t) := by
  unfold lnT at h0
  unfold lnD
  by_cases g0 : wh c n t < 2
  · rw [if_pos g0] at h0 ⊢
    unfold ln0 at h0
    by_cases q : nW D < 6
    · rw [if_pos q] at h0
      obtain ⟨a3, b3⟩ := lsT_0 (sgT_0 h0)
      obtain ⟨a2, _, b2, _⟩ := rdT_0 a3
      obtain ⟨a1, _, b1, _⟩ := rdT_0 a2
      obtain ⟨a0, _, b0, _⟩ := rdT_0 a1
      refine ldW_ok hD q ?_ (btw_n (a := 0) (b := 40) (by omega) b0 (by omega)) (btw_n (a := 0) (b := 40) (by omega) b1 (by omega)) (btw_n (a := 0) (b := 40) (by omega) b2 (by omega)) (btw_n (a := 0) (b := 100) (by omega) b3 (by omega))
      show nI (wh c n t) = 0 ∨ nI (wh c n t) = 1
      have : wh c n t = 0 ∨ wh c n t = 1 := by omega
      rcases this with e | e
      · rw [e]; exact Or.inl rfl
      · rw [e]; exact Or.inr rfl
    · rw [if_neg q] at h0
      exact absurd h0 (by unfold kC flt4; omega)
  rw [if_neg g0] at h0 ⊢
  by_cases g2 : wh c n t = 2
  · rw [if_pos g2] at h0 ⊢
    unfold ln2 at h0
    by_cases q : nB D < 6
    · rw [if_pos q] at h0
      have h1 := sgT_0 h0
      have a3 : kC (bn3 c n (nxt c n t)) = 0 := by
        unfold bn6 at h1
        by_cases w : isW c n 6 (bn3 c n (nxt c n t)) = true
        · exact isW_0 w
        · rw [if_neg w] at h1; exact h1
      obtain ⟨a2, b2⟩ := lsT_0 a3
      obtain ⟨a1, _, b1, _⟩ := rdT_0 a2
      obtain ⟨a0, _, b0, _⟩ := rdT_0 a1
      exact ldB_ok hD q (btw_n (a := 0) (b := 40) (by omega) b0 (by omega)) (btw_n (a := 0) (b := 40) (by omega) b1 (by omega)) (btw_n (a := 0) (b := 100) (by omega) b2 (by omega))
    · rw [if_neg q] at h0
      exact absurd h0 (by unfold kC flt4; omega)
  rw [if_neg g2] at h0 ⊢
  by_cases g3 : wh c n t = 3
  · rw [if_pos g3] at h0 ⊢
    unfold ln3 at h0
    by_cases q : nO D < 4
    · rw [if_pos q] at h0
      obtain ⟨a4, b4⟩ := wdI_0 3 (sgT_0 h0)
      obtain ⟨a3, _, b3, _⟩ := rdT_0 a4
      obtain ⟨a2, _, b2, _⟩ := rdT_0 a3
      obtain ⟨a1, _, b1, _⟩ := rdT_0 a2
      obtain ⟨a0, _, b0, _⟩ := rdT_0 a1
      refine ldO_ok hD q (fun f hf => ?_) (fun f hf => ?_)
      · have : f = 0 ∨ f = 1 ∨ f = 2 ∨ f = 3 := by omega
        rcases this with e | e | e | e
        · rw [e]; exact btw_n (a := 0) (b := 40) (by omega) b0 (by omega)
        · rw [e]; exact btw_n (a := 0) (b := 40) (by omega) b1 (by omega)
        · rw [e]; exact btw_n (a := 0) (b := 40) (by omega) b2 (by omega)
        · rw [e]; exact btw_n (a := 0) (b := 40) (by omega) b3 (by omega)
      · unfold wdVs
        rw [if_neg (by omega), if_neg (by omega), if_neg (by omega), if_neg (by omega), show 4 + f - 4 = f by omega]
        exact btw_n (a := 0) (b := 100) (by omega) (b4 f hf) (by omega)
    · rw [if_neg q] at h0
      exact absurd h0 (by unfold kC flt4; omega)
  rw [if_neg g3] at h0 ⊢
  obtain ⟨c1, c2, c3, c4, c5, cw, cb, co⟩ := id hD
  by_cases g4 : wh c n t = 4
  · rw [if_pos g4] at h0 ⊢
    unfold ln4 at h0
    cases hb with
    | true => exact absurd h0 (by rw [if_pos rfl]; unfold kC flt4; omega)
    | false =>
      rw [if_neg (by decide)] at h0
      have b := (rdT_0 (sgT_0 h0)).2.2.1
      exact ⟨c1, c2, c3, btw_n (a := 0) (b := 1000) (by omega) b (by omega), c5, cw, cb, co⟩
  rw [if_neg g4] at h0 ⊢
  by_cases g5 : wh c n t = 5
  · rw [if_pos g5] at h0 ⊢
    unfold ln5 at h0
    cases ab with
    | true => exact absurd h0 (by rw [if_pos rfl]; unfold kC flt4; omega)
    | false =>
      rw [if_neg (by decide)] at h0
      have b := rdT_0 (sgT_0 h0)
      exact ⟨c1, c2, c3, c4, btw_n (a := 50) (b := 150) b.2.1 b.2.2.1 (by omega), cw, cb, co⟩
  rw [if_neg g5] at h0
  exact absurd h0 (by unfold kC flt4; omega)
end PROG
def rdF (c : Nat → Nat) (n : Nat) : Nat → Tk → Ld → Bool → Bool → Tk × Ld
  | 0, t, D, _, _ => (t, D)
  | f + 1, t, D, hb, ab => if kC t = 0 ∧ tK c n (kE t) ≠ 4 then rdF c n f (lnT c n D hb ab t) (lnD c n D t) (lnH c n hb t) (lnA c n ab t) else (t, D)
section READ
variable {G : Gx} {u : Mm} {c : Nat → Nat} {n : Nat}
theorem m_lines {Q : Int32 → Mm → Prop} {m : Nat} {l : Int32} (hH : HM G u m) (hn : n ≤ 700) (hc : ∀ i, c i < 256) : ∀ (f : Nat) (t : Tk) (D : Ld) (hb ab : Bool) (p : Int32) (w : Mm), 1 ≤ f → Fx (inML m) u w → MTk m c n t w → (kC t = 0 → ML w m 6 D ∧ okD D ∧ TD p hb ab ∧ n < kE t + f) → (∀ w', Fx (inML m) u w' → MTk m c n (rdF c n f t D hb ab).1 w' → (kC (rdF c n f t D hb ab).1 = 0 → ML w' m 6 (rdF c n f t D hb ab).2 ∧ okD (rdF c n f t D hb ab).2) → V_X12_land_96 G Q m l w') → V_X12_land_73 G Q f m l p w := by
  intro f
  induction f with
  | zero => intro t D hb ab p w h1; omega
  | succ f ih =>
    intro t D hb ab p w _ F T h hQ
    show V_X12_land_73_B G Q (V_X12_land_73 G Q f) m l p w
    unfold V_X12_land_73_B
    unfold rdF at hQ
    have ok := T.2.1
    have k4 := tK_le c n (kE t)
    rw [T.2.2.1]
    refine ⟨hH.1.2.1, fun q => ?_, fun q => ?_⟩
    · have q0 : kC t = 0 := nI_inj (b := 0) (by have := ok.2.1; omega) (by omega) q
      obtain ⟨L, hD, P, lt⟩ := h q0
      obtain ⟨_, g2, _⟩ := T.2.2.2.2 q0
      rw [g2]
      refine ⟨fun q => ?_, fun q => ?_⟩
      · have e4 : tK c n (kE t) = 4 := by
          have := nI_inj (b := 0) (by unfold tkM; omega) (by omega) q
          unfold tkM at this
          omega
        rw [if_neg (by omega)] at hQ
        exact hQ w F T (fun _ => ⟨L, hD⟩)
      · have n4 : tK c n (kE t) ≠ 4 := fun r => q (by rw [r]; rfl)
        rw [if_pos ⟨q0, n4⟩] at hQ
        have lt2 : kE t < n := by
          have : tS c n (kE t) < n := by
            unfold tK at n4
            split at n4
            · assumption
            · exact absurd rfl n4
          exact Nat.lt_of_le_of_lt (tS_bd ok.1).1 this
        refine m_readLine (hH.keep (fun a j _ _ => F.gR a j)) hn hc T q0 L hD P (fun p' u' f' T' L' => ?_)
        refine ih _ _ _ _ p' u' (by omega) (F.trans f') T' (fun r => ⟨(L' r).2, lnD_ok hD r, (L' r).1, ?_⟩) hQ
        have := lnT_up ok r
        omega
    · have n0 : kC t ≠ 0 := fun r => q (by rw [r]; rfl)
      rw [if_neg (fun r => n0 r.1)] at hQ
      exact hQ w F T (fun r => absurd r n0)
theorem wh_eq {t : Tk} : wh c n t = if isW c n 2 t = true then 0 else if isW c n 4 t = true then 1 else if isW c n 5 t = true then 2 else if isW c n 7 t = true then 3 else if isW c n 8 t = true then 4 else if isW c n 9 t = true then 5 else 6 := rfl
end READ
