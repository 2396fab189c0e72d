/-! NEXT: the class -/
theorem tbC_old {S : St} {yr : Int32} {tn n s : Nat} (h : s < n) : tbC S yr tn (n + 1) s = tbC S yr tn n s := by
  show (if s = n then _ else _) = _
  rw [if_neg (by omega)]
theorem tbC_new {S : St} {yr : Int32} {tn n : Nat} : tbC S yr tn (n + 1) n = (stN S yr tn (tbC S yr tn n) n).1 := by
  show (if n = n then _ else _) = _
  rw [if_pos rfl]
section CHOOSE
variable {G : Gx} {u : Mm}
def inK (z : Nat) : Nat → Nat → Prop := fun a _ => a = z + 472 ∨ a = z + 473
theorem c_choose {Q : Mm → Prop} {z tn most : Nat} {S : St} {yr : Int32} {u0 : Mm} (h : HC0 G u0 z) (hm : most < 64) (h8 : bkS (sB S) ≤ 8) (hA : KAl z S yr tn (bkS (sB S)) u0) (hQ : ∀ u', Fx (inK z) u0 u' → KTb z S yr tn (most + 1) u' → Q u') : V_X2_choose G (z + 462) (nI (bkS (sB S))) (nI most) u0 Q := by
  suffices go : ∀ (n s : Nat) (w : Mm), s + n = most + 1 → Fx (inK z) u0 w → KTb z S yr tn s w → V_X2_choose_2 G Q (n + 1) (z + 462) (nI (bkS (sB S))) (nI most) (nI s) w from ⟨most + 2, go (most + 1) 0 u0 (by omega) Fx.rfl' (fun s hs => absurd hs (by omega))⟩
  intro n
  induction n with
  | zero =>
    intro s w hs f hT
    have hs' : s = most + 1 := by omega
    subst hs'
    show V_X2_choose_2_B G Q (V_X2_choose_2 G Q 0) (z + 462) (nI (bkS (sB S))) (nI most) (nI (most + 1)) w
    unfold V_X2_choose_2_B
    exact ⟨fun _ => hQ w f hT, fun c => absurd (nI_lt (by omega) (by omega)) c⟩
  | succ n ih =>
    intro s w hs f hT
    have hw := h.fx f
    obtain ⟨_, k0, k2, _, _, _, _, ⟨b7, b8, b9⟩, ⟨c7, c8, c9⟩⟩ := hw.ch
    have es : (nI s).toNatClampNeg = s := nI_clamp (by omega)
    have hg := tbC_good S yr tn s (by omega)
    -- behind the spots
    have done : ∀ x, Fx (inK z) u0 x → (∀ t, t < s → gI x (z + 472) t = tbC S yr tn s t ∧ gI x (z + 473) t = (stN S yr tn (tbC S yr tn t) t).2) → gI x (z + 472) s = (stN S yr tn (tbC S yr tn s) s).1 → gI x (z + 473) s = (stN S yr tn (tbC S yr tn s) s).2 → V_X2_choose_115 G Q (V_X2_choose_2 G Q (n + 1)) (z + 462) (nI (bkS (sB S))) (nI most) (nI s) x := by
      intro x fx ht e1 e2 y hy
      rw [hy, nI_1]
      refine ih (s + 1) x (by omega) fx (fun t ht2 => ?_)
      by_cases q : t = s
      · rw [q, tbC_new]
        exact ⟨e1, e2⟩
      · rw [tbC_old (by omega)]
        exact ht t (by omega)
    -- the spots
    have spots : ¬ pc s < 2 → ∀ (r k : Nat) (cf : Int32 × Int32) (x : Mm), k + r = bkS (sB S) → Fx (inK z) u0 x → (∀ t, t < s → gI x (z + 472) t = tbC S yr tn s t ∧ gI x (z + 473) t = (stN S yr tn (tbC S yr tn t) t).2) → gI x (z + 472) s = cf.1 → gI x (z + 473) s = cf.2 → (cf.1 = -1 ∨ (1 ≤ cf.1.toInt ∧ cf.1.toInt ≤ s)) → stI S yr tn (tbC S yr tn s) s (bkS (sB S)) r cf = stN S yr tn (tbC S yr tn s) s → V_X2_choose_42 G Q (V_X2_choose_2 G Q (n + 1)) (r + 1) (z + 462) (nI (bkS (sB S))) (nI most) (nI s) (nI k) x := by
      intro hp r
      induction r with
      | zero =>
        intro k cf x hk fx ht e1 e2 hc hst
        have hk' : k = bkS (sB S) := by omega
        subst hk'
        show V_X2_choose_42_B G Q (V_X2_choose_2 G Q (n + 1)) (V_X2_choose_42 G Q (V_X2_choose_2 G Q (n + 1)) 0) (z + 462) (nI (bkS (sB S))) (nI most) (nI s) (nI (bkS (sB S))) x
        unfold V_X2_choose_42_B
        have hst : cf = stN S yr tn (tbC S yr tn s) s := hst
        exact ⟨fun _ => done x fx ht (by rw [e1, hst]) (by rw [e2, hst]), fun c => absurd (nI_le (Nat.le_refl _) (by omega)) c⟩
      | succ r ihr =>
        intro k cf x hk fx ht e1 e2 hc hst
        have hx := h.fx fx
        obtain ⟨_, _, _, _, _, _, _, ⟨x7, x8, x9⟩, ⟨y7, y8, y9⟩⟩ := hx.ch
        have ek : bkS (sB S) - (r + 1) = k := by omega
        have hst : stI S yr tn (tbC S yr tn s) s (bkS (sB S)) r (stU (cfV S yr tn (tbC S yr tn s) s (bkS (sB S) - (r + 1))) (bkS (sB S) - (r + 1)) cf) = stN S yr tn (tbC S yr tn s) s := hst
        rw [ek] at hst
        have c0 : cf.1 ≠ 0 := by
          intro q
          rcases hc with r | r
          · rw [q] at r; exact absurd r (by decide)
          · rw [q, li_0] at r; omega
        have hcf := cfI_good (A := alN S yr tn k) hg (by omega) 6 0 (by rw [li_0]; omega) (by rw [li_0]; have := pc2_pos hp; omega)
        have e1' : gI x (z + 462 + 10) s = cf.1 := e1
        have skip : stU (cfV S yr tn (tbC S yr tn s) s k) k cf = cf → V_X2_choose_109 G Q (V_X2_choose_2 G Q (n + 1)) (V_X2_choose_42 G Q (V_X2_choose_2 G Q (n + 1)) (r + 1)) (z + 462) (nI (bkS (sB S))) (nI most) (nI s) (nI k) x := by
          intro q y hy
          rw [q] at hst
          rw [hy, nI_1]
          exact ihr (k + 1) cf x (by omega) fx ht e1 e2 hc hst
        have take : stU (cfV S yr tn (tbC S yr tn s) s k) k cf = (cfV S yr tn (tbC S yr tn s) s k, nI k) → cfV S yr tn (tbC S yr tn s) s k ≠ -1 → V_X2_choose_93 G Q (V_X2_choose_2 G Q (n + 1)) (V_X2_choose_42 G Q (V_X2_choose_2 G Q (n + 1)) (r + 1)) (z + 462) (nI (bkS (sB S))) (nI most) (nI s) (nI k) (cfV S yr tn (tbC S yr tn s) s k) x := by
          intro q qn
          rw [q] at hst
          unfold V_X2_choose_93 V_X2_choose_109
          rw [x9, x7, x8, es]
          refine ⟨k2, by omega, rfl, vp_in_nI (by omega) (by omega), fun w1 ew1 => ?_⟩
          have ew1 : w1 = sI x (z + 472) s (cfV S yr tn (tbC S yr tn s) s k) := ew1
          have kR : gR w1 (z + 462) 4 = z + 462 + 11 := by rw [ew1, gR_sI]; exact y9
          rw [kR, y7, y8]
          refine ⟨by omega, rfl, vp_in_nI (by omega) (by omega), fun w2 ew2 y hy => ?_⟩
          have ew2 : w2 = sI w1 (z + 473) s (nI k) := ew2
          rw [hy, nI_1]
          refine ihr (k + 1) _ w2 (by omega) ?_ (fun t ht2 => ?_) ?_ ?_ ?_ hst
          · rw [ew2, ew1]
            exact fx.trans ((Fx.put (by unfold inK; omega)).trans (Fx.put (by unfold inK; omega)))
          · rw [ew2, gI_sI, if_neg (by omega), ew1, gI_sI, if_neg (by omega), gI_sI, if_neg (by omega), gI_sI, if_neg (by omega)]
            exact ht t ht2
          · rw [ew2, gI_sI, if_neg (by omega), ew1, gI_sI, if_pos ⟨rfl, rfl⟩]
          · rw [ew2, gI_sI, if_pos ⟨rfl, rfl⟩]
          · rcases hcf with r | r
            · exact absurd r qn
            · exact Or.inr r
        show V_X2_choose_42_B G Q (V_X2_choose_2 G Q (n + 1)) (V_X2_choose_42 G Q (V_X2_choose_2 G Q (n + 1)) (r + 1)) (z + 462) (nI (bkS (sB S))) (nI most) (nI s) (nI k) x
        unfold V_X2_choose_42_B
        rw [x9, x7, x8, es, e1']
        refine ⟨fun c => absurd ((nI_leI (by omega) (by omega)).mp c) (by omega), fun _ => ⟨k2, by omega, rfl, vp_in_nI (by omega) (by omega), fun c => absurd c c0, fun _ => c_clapsFrom (cl := tbC S yr tn s) hx (by omega) (by omega) (fun l hl => by rw [fx.2 _ _ (by unfold inK; omega)]; exact hA k (by omega) l hl) (fun t ht2 => (ht t ht2).1) ⟨fun q => skip (by unfold stU; rw [if_pos q]), fun q => ?_⟩⟩⟩
        rw [x9, x7, x8, e1']
        refine ⟨by omega, rfl, vp_in_nI (by omega) (by omega), fun q2 => take (by unfold stU; rw [if_neg q, if_pos (Or.inl q2)]) q, fun q2 => ⟨fun q3 => skip (by unfold stU; rw [if_neg q, if_neg (fun r => r.elim q2 (fun r => absurd q3 (Int32.not_le.mpr r)))]), fun q3 => take (by unfold stU; rw [if_neg q, if_pos (Or.inr (Int32.not_le.mp q3))]) q⟩⟩
    -- the head of a set
    have head : ∀ t2 : Int32, (t2 = if pc s < 2 then 0 else -1) → V_X2_choose_31 G Q (V_X2_choose_2 G Q (n + 1)) (z + 462) (nI (bkS (sB S))) (nI most) (nI s) (z + 462 + 10) (nI s) t2 w := by
      intro t2 e
      unfold V_X2_choose_31
      rw [b7, b8, es]
      refine ⟨rfl, vp_in_nI (by omega) (by omega), fun w1 ew1 => ?_⟩
      have ew1 : w1 = sI w (z + 472) s t2 := ew1
      have kR : gR w1 (z + 462) 4 = z + 462 + 11 := by rw [ew1, gR_sI]; exact c9
      rw [kR, c7, c8]
      refine ⟨k2, by omega, rfl, vp_in_nI (by omega) (by omega), fun w2 ew2 => ⟨bkS (sB S) + 1, ?_⟩⟩
      have ew2 : w2 = sI w1 (z + 473) s (-1) := ew2
      have f2 : Fx (inK z) u0 w2 := by
        rw [ew2, ew1]
        exact f.trans ((Fx.put (by unfold inK; omega)).trans (Fx.put (by unfold inK; omega)))
      have ht : ∀ t, t < s → gI w2 (z + 472) t = tbC S yr tn s t ∧ gI w2 (z + 473) t = (stN S yr tn (tbC S yr tn t) t).2 := by
        intro t ht
        rw [ew2, gI_sI, if_neg (by omega), ew1, gI_sI, if_neg (by omega), gI_sI, if_neg (by omega), gI_sI, if_neg (by omega)]
        exact hT t ht
      have v1 : gI w2 (z + 472) s = t2 := by rw [ew2, gI_sI, if_neg (by omega), ew1, gI_sI, if_pos ⟨rfl, rfl⟩]
      have v2 : gI w2 (z + 473) s = -1 := by rw [ew2, gI_sI, if_pos ⟨rfl, rfl⟩]
      by_cases hp : pc s < 2
      · rw [if_pos hp] at e
        have est : stN S yr tn (tbC S yr tn s) s = (0, -1) := by unfold stN; rw [if_pos hp]
        have hx := h.fx f2
        obtain ⟨_, _, _, _, _, _, _, ⟨x7, x8, x9⟩, _⟩ := hx.ch
        show V_X2_choose_42_B G Q (V_X2_choose_2 G Q (n + 1)) (V_X2_choose_42 G Q (V_X2_choose_2 G Q (n + 1)) (bkS (sB S))) (z + 462) (nI (bkS (sB S))) (nI most) (nI s) (nI 0) w2
        unfold V_X2_choose_42_B
        have v1' : gI w2 (z + 462 + 10) s = 0 := by rw [← e]; exact v1
        rw [x9, x7, x8, es, v1']
        have fin := done w2 f2 ht (by rw [v1, est, e]) (by rw [v2, est])
        exact ⟨fun _ => fin, fun _ => ⟨k2, by omega, rfl, vp_in_nI (by omega) (by omega), fun _ => fin, fun c => absurd rfl c⟩⟩
      · rw [if_neg hp] at e
        exact spots hp (bkS (sB S)) 0 (-1, -1) w2 (by omega) f2 ht (by rw [v1, e]) v2 (Or.inl rfl) (by unfold stN; rw [if_neg hp])
    show V_X2_choose_2_B G Q (V_X2_choose_2 G Q (n + 1)) (z + 462) (nI (bkS (sB S))) (nI most) (nI s) w
    unfold V_X2_choose_2_B
    rw [b9]
    refine ⟨fun c => absurd ((nI_ltI (by omega) (by omega)).mp c) (by omega), fun _ => ⟨fun c => absurd ((nI_leI (a := 64) (by omega) (by omega)).mp c) (by omega), fun _ => ⟨k2, by omega, s_bitCount (by omega) ⟨fun c => head _ ?_, fun c => head _ ?_⟩⟩⟩⟩
    · have c := (nI_leI (a := 2) (by omega) (by have := pc_le s; omega)).mp c
      rw [if_neg (by omega)]
    · have c : ¬ 2 ≤ pc s := fun q => c (nI_le (a := 2) q (by have := pc_le s; omega))
      rw [if_pos (by omega)]
noncomputable def nxE (lands yr tn what : Int32) : Int32 := pick (¬ (btw 0 99 yr ∧ inN 3 tn ∧ inN 2 what)) 1 (pick (¬ inN 64 lands) 2 0)
def nxV (S : St) (lands yr tn what : Int32) : Int32 := if what = 0 then (stN S yr tn.toNatClampNeg (tbC S yr tn.toNatClampNeg lands.toNatClampNeg) lands.toNatClampNeg).1 else (stN S yr tn.toNatClampNeg (tbC S yr tn.toNatClampNeg lands.toNatClampNeg) lands.toNatClampNeg).2
theorem KAl.fx {z tn n : Nat} {S : St} {yr : Int32} {P : Nat → Nat → Prop} {v : Mm} (h : KAl z S yr tn n u) (f : Fx P u v) (hp : ∀ a j, P a j → a ≠ z + 471) : KAl z S yr tn n v := fun k hk l hl => by rw [f.2 _ _ (fun c => hp _ _ c rfl)]; exact h k hk l hl
theorem c_next {Q : Int32 → Mm → Prop} {X : String → Mm → Prop} {z : Nat} {o : Nat → Nat} {S : St} {lands yr tn what : Int32} (hR : RC G u z o S) (hS : okS S) (hQ : ∀ u', Kc z u u' → (nxE lands yr tn what = 0 → Q (nxV S lands yr tn what) u') ∧ (nxE lands yr tn what = 1 → X "java/util/NoSuchElementException" u') ∧ (nxE lands yr tn what = 2 → X "java/lang/IllegalArgumentException" u')) : V_X11_next G z lands yr tn what u Q X := by
  obtain ⟨h, hL, hC, hB, _⟩ := id hR
  have hk := hS.2.1
  have s8 := hk.2.1
  unfold nxE at hQ
  have no1 : ¬ (btw 0 99 yr ∧ inN 3 tn ∧ inN 2 what) → X "java/util/NoSuchElementException" u := fun g => (hQ u Kc.rfl').2.1 (pick_t g)
  refine c_needYear (fun hyr => c_needTone (fun t ht et => ?_) (fun g => no1 (fun q => g q.2.1))) (fun g => no1 (fun q => g q.1))
  subst et
  have main : inN 2 what → V_X11_next_30 G Q X z lands yr (nI t) what u := by
    intro hw
    rw [pick_f (fun q => q ⟨hyr, ⟨t, ht, rfl⟩, hw⟩)] at hQ
    have no2 : ¬ inN 64 lands → X "java/lang/IllegalArgumentException" u := fun g => (hQ u Kc.rfl').2.2 (pick_t g)
    unfold V_X11_next_30 V_X11_next_40
    refine ⟨fun c => no2 (fun q => ?_), fun c => ⟨fun c2 => ?_, fun c2 => no2 (fun q => ?_)⟩⟩
    · rw [inN_iff (by omega)] at q
      rw [fa_lt, li_0] at c
      omega
    case refine_3 =>
      rw [inN_iff (by omega)] at q
      rw [fa_lt, li_64] at c2
      omega
    obtain ⟨d, hd, ed⟩ := (inN_iff (n := 64) (x := lands) (by omega)).mpr (by rw [fa_lt, li_0] at c; rw [fa_lt, li_64] at c2; omega)
    subst ed
    have hQ : ∀ u', Fx (cst z) u u' → Q (nxV S (nI d) yr (nI t) what) u' := fun u' f' => (hQ u' (Kc.of f')).1 (by rw [pick_f (fun q => q ⟨d, hd, rfl⟩)])
    unfold nxV at hQ
    rw [nI_clamp (by omega), nI_clamp (by omega)] at hQ
    suffices go : ∀ (n k : Nat) (w : Mm), k + n = bkS (sB S) → Fx (cst z) u w → KAl z S yr t k w → V_X11_next_54 G Q X (n + 1) z (nI d) yr (nI t) what (nI k) w from ⟨_, go _ 0 u (Nat.zero_add _) Fx.rfl' (fun k hk => absurd hk (by omega))⟩
    intro n
    induction n with
    | zero =>
      intro k w hkn f hA
      have hk' : k = bkS (sB S) := by omega
      subst hk'
      have hwH := h.fx f
      have hBw := BC_cst hB hk f
      show V_X11_next_54_B G Q X (V_X11_next_54 G Q X 0) z (nI d) yr (nI t) what (nI (bkS (sB S))) w
      unfold V_X11_next_54_B
      rw [hwH.bk.1, hwH.ch.1, hBw.2.1]
      refine ⟨h.k, by omega, hwH.bk.2.2.1, fun _ => ⟨by omega, hwH.ch.2.2.1, c_choose hwH hd s8 hA (fun w2 f2 hT => ?_)⟩, fun c => absurd (nI_le (Nat.le_refl _) (by omega)) c⟩
      have F2 : Fx (cst z) u w2 := f.trans (f2.mono (fun a j q => by unfold inK at q; unfold cst; omega))
      have h2 := hwH.fx f2
      obtain ⟨g1, g0, g2, _, _, _, _, ⟨b7, b8, b9⟩, ⟨c7, c8, c9⟩⟩ := h2.ch
      have q := hQ w2 F2
      obtain ⟨v1, v2⟩ := hT d (by omega)
      rw [tbC_new] at v1
      have v1' : gI w2 (z + 462 + 10) d = (stN S yr t (tbC S yr t d) d).1 := v1
      have v2' : gI w2 (z + 462 + 11) d = (stN S yr t (tbC S yr t d) d).2 := v2
      rw [g1, b9, b7, b8, c9, c7, c8, nI_clamp (by omega), v1', v2']
      refine ⟨fun e => ⟨by omega, g2, by omega, rfl, vp_in_nI (by omega) (by omega), ?_⟩, fun e => ⟨by omega, g2, by omega, rfl, vp_in_nI (by omega) (by omega), ?_⟩⟩
      · rw [if_pos e] at q; exact q
      · rw [if_neg e] at q; exact q
    | succ n ih =>
      intro k w hkn f hA
      have hwH := h.fx f
      have hBw := BC_cst hB hk f
      show V_X11_next_54_B G Q X (V_X11_next_54 G Q X (n + 1)) z (nI d) yr (nI t) what (nI k) w
      unfold V_X11_next_54_B
      rw [hwH.bk.1, hBw.2.1]
      refine ⟨h.k, by omega, hwH.bk.2.2.1, fun c => absurd ((nI_leI (by omega) (by omega)).mp c) (by omega), fun _ => ?_⟩
      suffices inn : ∀ (r l : Nat) (w : Mm), l + r = 6 → Fx (cst z) u w → KAl z S yr t k w → KRw z S yr t k l w → V_X11_next_69 G Q X (V_X11_next_54 G Q X (n + 1)) (r + 1) z (nI d) yr (nI t) what (nI k) (nI l) w from ⟨7, inn 6 0 w (by omega) f hA (fun l hl => absurd hl (by omega))⟩
      intro r
      induction r with
      | zero =>
        intro l w hl f hA hK
        have hl' : l = 6 := by omega
        subst hl'
        have hwH := h.fx f
        show V_X11_next_69_B G Q X (V_X11_next_54 G Q X (n + 1)) (V_X11_next_69 G Q X (V_X11_next_54 G Q X (n + 1)) 0) z (nI d) yr (nI t) what (nI k) (nI 6) w
        unfold V_X11_next_69_B
        rw [hwH.ch.1]
        refine ⟨fun _ => ⟨h.k, by omega, hwH.ch.2.2.1, c_compareRows hwH (by omega) hK (fun w2 f2 ha y hy => ?_)⟩, fun c => absurd (nI_le (a := 6) (b := 6) (by omega) (by omega)) c⟩
        rw [hy, nI_1]
        refine ih (k + 1) w2 (by omega) (f.trans (f2.mono (fun a j q => by unfold cst; omega))) (fun k2 hk2 l hl => ?_)
        by_cases q : k2 = k
        · rw [q]; exact ha l hl
        · rw [f2.2 _ _ (by omega)]
          exact hA k2 (by omega) l hl
      | succ r ihr =>
        intro l w hl f hA hK
        have hwH := h.fx f
        have hBw := BC_cst hB hk f
        have hj := hL.2.2.1 l (by omega)
        have hD := hS.1 l (by omega)
        have hCw := CL_cst (hC l (by omega)) hD hj f
        have ql := lnd_bd (z := z) hj
        obtain ⟨bx, bY⟩ := hk.2.2.2 k (by omega)
        obtain ⟨x1, x2⟩ := hBw.2.2.2.1 k (by omega)
        obtain ⟨_, b0, b1, ⟨p1, p2, p3⟩, ⟨q1, q2, q3⟩, _⟩ := id hwH.bk
        obtain ⟨l1, l2, l3⟩ := hwH.2.2.1
        have eL : gR w (z + 27) l = lnd z (o l) := by rw [f.gR]; exact hL.1 l (by omega)
        show V_X11_next_69_B G Q X (V_X11_next_54 G Q X (n + 1)) (V_X11_next_69 G Q X (V_X11_next_54 G Q X (n + 1)) (r + 1)) z (nI d) yr (nI t) what (nI k) (nI l) w
        unfold V_X11_next_69_B
        rw [l1, l2, l3, nI_clamp (show l < 2 ^ 31 by omega), eL]
        refine ⟨fun c => absurd ((nI_leI (a := 6) (by omega) (by omega)).mp c) (by omega), fun _ => ⟨h.k, by omega, rfl, vp_in_nI (by omega) (by omega), by omega, fun y hy => ?_⟩⟩
        subst hy
        rw [hwH.sc.1, hwH.bk.1, p3, p1, p2, q3, q1, q2, nI_clamp (show k < 2 ^ 31 by omega), x1, x2]
        refine ⟨by omega, by omega, b1, by omega, rfl, vp_in_nI (by omega) (by omega), by omega, rfl, vp_in_nI (by omega) (by omega), hwH.sc.2.2.1, c_scene' hwH hD hj hCw bx bY ht (fun w2 L f2 sc ec nd mem len => ?_)⟩
        have h2 := hwH.fx f2
        have hC2 := CL_cst hCw hD hj (f2.mono (fun a j q => cse_cst q))
        rw [h2.ch.1, h2.ec.1]
        refine ⟨by omega, by omega, h2.ch.2.2.1, c_keepRow h2 hD hj hC2 (by omega) bx bY ec nd mem len (fun w3 f3 m16 y1 y2 y hy => ?_)⟩
        rw [hy, nI_1]
        have er : (rwN S yr t k l).length = (mLs (sD S l) 0 (bkP (sB S) k 0) (bkP (sB S) k 1) yr t (hE (sD S l)) (aI (sD S l)) 80).length := srt_len _
        refine ihr (l + 1) w3 (by omega) ((f.trans (f2.mono (fun a j q => cse_cst q))).trans (f3.mono (fun a j q => by unfold inR at q; unfold cst; omega))) ((hA.fx f2 (fun a j q => by unfold cse at q; omega)).fx f3 (fun a j q => by unfold inR at q; omega)) (fun l2 hl2 => ?_)
        by_cases q : l2 = l
        · subst q
          refine ⟨by omega, by rw [er]; exact y1, fun i hi => ?_⟩
          have := y2 i (by omega)
          rw [Nat.zero_add] at this
          exact this
        · obtain ⟨r1, r2, r3⟩ := hK l2 (by omega)
          refine ⟨r1, ?_, fun i hi => ?_⟩
          · rw [f3.2 _ _ (by unfold inR; omega), f2.2 _ _ (by unfold cse; omega)]; exact r2
          · rw [f3.2 _ _ (by unfold inR; omega), f2.2 _ _ (by unfold cse; omega)]; exact r3 i hi
  refine ⟨fun e => main ⟨0, by omega, e⟩, fun e0 => ⟨fun e => main ⟨1, by omega, e⟩, fun e1 => no1 (fun q => ?_)⟩⟩
  obtain ⟨n, hn, e⟩ := q.2.2
  have : n = 0 ∨ n = 1 := by omega
  rcases this with rfl | rfl
  · exact e0 e
  · exact e1 e
end CHOOSE
