/-! NEXT: the model -/
def LK (f : Nat → List Int32) (l o : Nat) : Prop := o ≤ l ∧ f o = f l ∧ ∀ j, j < o → f j ≠ f l
theorem LK_iff {f : Nat → List Int32} {l j a b : Nat} (h1 : LK f l a) (h2 : LK f j b) : a = b ↔ f l = f j := by
  constructor
  · intro e
    subst e
    rw [← h1.2.1, h2.2.1]
  · intro e
    rcases Nat.lt_trichotomy a b with q | q | q
    · exact absurd (h1.2.1.trans e) (h2.2.2 a q)
    · exact q
    · exact absurd (h2.2.1.trans e.symm) (h1.2.2 b q)
def mbI (pt : Nat → Nat) (cl : Nat → Int32) (set : Nat) : Nat → Int32 → Int32
  | 0, w => w + 1
  | n + 1, w => if pt (5 - n) = set ∨ cl (pt (5 - n)) = -1 then -1 else mbI pt cl set n (mx w (cl (pt (5 - n))))
def PFs (pt : Nat → Nat) (cl : Nat → Int32) (set : Nat) (v : Int32) : Prop := ((∃ o, o < 6 ∧ (pt o = set ∨ cl (pt o) = -1)) ∧ v = -1) ∨ ((¬ ∃ o, o < 6 ∧ (pt o = set ∨ cl (pt o) = -1)) ∧ ∃ w : Int32, v = w + 1 ∧ 0 ≤ w.toInt ∧ (∀ o, o < 6 → (cl (pt o)).toInt ≤ w.toInt) ∧ (w = 0 ∨ ∃ o, o < 6 ∧ w = cl (pt o)))
theorem mbI_PF {pt : Nat → Nat} {cl : Nat → Int32} {set : Nat} : ∀ (n : Nat) (w : Int32), n ≤ 6 → 0 ≤ w.toInt → (¬ ∃ o, o < 6 - n ∧ (pt o = set ∨ cl (pt o) = -1)) → (∀ o, o < 6 - n → (cl (pt o)).toInt ≤ w.toInt) → (w = 0 ∨ ∃ o, o < 6 - n ∧ w = cl (pt o)) → PFs pt cl set (mbI pt cl set n w)
  | 0, w, hn, h0, hb, hm, hx => Or.inr ⟨fun ⟨l, hl, q⟩ => hb ⟨l, by omega, q⟩, w, rfl, h0, fun l hl => hm l (by omega), hx.imp id (fun ⟨l, hl, q⟩ => ⟨l, by omega, q⟩)⟩
  | n + 1, w, hn, h0, hb, hm, hx => by
    unfold mbI
    split
    · rename_i q
      exact Or.inl ⟨⟨5 - n, by omega, q⟩, rfl⟩
    · rename_i q
      refine mbI_PF n _ (by omega) (by rw [mx_I]; omega) (fun ⟨l, hl, hq⟩ => ?_) (fun l hl => ?_) ?_
      · by_cases e : l = 5 - n
        · rw [e] at hq; exact q hq
        · exact hb ⟨l, by omega, hq⟩
      · rw [mx_I]
        by_cases e : l = 5 - n
        · rw [e]; omega
        · have := hm l (by omega)
          omega
      · unfold mx
        split
        · exact Or.inr ⟨5 - n, by omega, rfl⟩
        · exact hx.imp id (fun ⟨l, hl, q⟩ => ⟨l, by omega, q⟩)
theorem PF_CF {pt A : Nat → Nat} {cl : Nat → Int32} {set : Nat} {v : Int32} (h : PFs pt cl set v) (k1 : ∀ l, l < 6 → set.testBit l = true → ∃ o, o < 6 ∧ pt o = set &&& A l) (k2 : ∀ o, o < 6 → pt o = 0 ∨ ∃ l, l < 6 ∧ set.testBit l = true ∧ pt o = set &&& A l) (h0 : set ≠ 0) (c0 : cl 0 = 0) : CFs A cl set v := by
  have bad : (∃ o, o < 6 ∧ (pt o = set ∨ cl (pt o) = -1)) ↔ ∃ l, l < 6 ∧ set.testBit l = true ∧ (set &&& A l = set ∨ cl (set &&& A l) = -1) := by
    constructor
    · rintro ⟨o, ho, q⟩
      rcases k2 o ho with e | ⟨l, hl, hb, e⟩
      · rw [e] at q
        rcases q with q | q
        · exact absurd q.symm h0
        · rw [c0] at q; exact absurd q (by decide)
      · rw [e] at q
        exact ⟨l, hl, hb, q⟩
    · rintro ⟨l, hl, hb, q⟩
      obtain ⟨o, ho, e⟩ := k1 l hl hb
      rw [← e] at q
      exact ⟨o, ho, q⟩
  rcases h with ⟨b, e⟩ | ⟨b, w, e, p, m, x⟩
  · exact Or.inl ⟨bad.mp b, e⟩
  · refine Or.inr ⟨fun q => b (bad.mpr q), w, e, p, fun l hl hb => ?_, ?_⟩
    · obtain ⟨o, ho, e⟩ := k1 l hl hb
      rw [← e]; exact m o ho
    · rcases x with x | ⟨o, ho, x⟩
      · exact Or.inl x
      · rcases k2 o ho with e | ⟨l, hl, hb, e⟩
        · rw [e, c0] at x; exact Or.inl x
        · rw [e] at x; exact Or.inr ⟨l, hl, hb, x⟩
theorem tbC_0 {S : St} {yr : Int32} {tn : Nat} : ∀ {n : Nat}, 0 < n → tbC S yr tn n 0 = 0
  | 0, h => absurd h (by omega)
  | n + 1, _ => by
    rcases Nat.eq_zero_or_pos n with e | e
    · subst e
      rw [tbC_new]
      unfold stN
      rw [pc_0]
      rfl
    · rw [tbC_old e]
      exact tbC_0 e
section MNEXT
variable {G : Gx} {u : Mm}
theorem al_in {Q : Int32 → Mm → Prop} {m n : Nat} (hM : MR G u m) (hM2 : MR2 G u m) (hn : n ≤ 80) (h1 : (∀ i, i < n → gI u (m + 14) i = gI u (m + 15) i) → Q 1 u) (h0 : (¬ ∀ i, i < n → gI u (m + 14) i = gI u (m + 15) i) → Q 0 u) : ∀ (k i : Nat), i + k = n → (∀ j, j < i → gI u (m + 14) j = gI u (m + 15) j) → V_X12_areAlike_111 G Q (k + 1) m (nI n) (1 : Int32) (nI i) u := by
  obtain ⟨_, _, ⟨s1, s2, s3⟩, ⟨t1, t2, t3⟩⟩ := hM2
  have m0 := hM.1
  intro k
  induction k with
  | zero =>
    intro i hi hh
    have : i = n := by omega
    subst this
    show V_X12_areAlike_111_B G Q (V_X12_areAlike_111 G Q 0) m (nI i) (1 : Int32) (nI i) u
    unfold V_X12_areAlike_111_B
    exact ⟨fun c => absurd c (by decide), fun _ => ⟨fun _ => ⟨Or.inr rfl, h1 hh⟩, fun c => absurd (nI_le (Nat.le_refl _) (by omega)) c⟩⟩
  | succ k ih =>
    intro i hi hh
    show V_X12_areAlike_111_B G Q (V_X12_areAlike_111 G Q (k + 1)) m (nI n) (1 : Int32) (nI i) u
    unfold V_X12_areAlike_111_B V_X12_areAlike_145
    rw [s3, s1, s2, t3, t1, t2, nI_clamp (by omega)]
    refine ⟨fun c => absurd c (by decide), fun _ => ⟨fun c => absurd ((nI_leI (by omega) (by omega)).mp c) (by omega), fun _ => ⟨hM.2.1, by omega, rfl, vp_in_nI (by omega) (by omega), by omega, rfl, vp_in_nI (by omega) (by omega), fun c y hy => ?_, fun c y hy => ?_⟩⟩⟩
    · rw [hy, nI_1]
      refine ih (i + 1) (by omega) (fun j hj => ?_)
      rcases Nat.lt_or_ge j i with q | q
      · exact hh j q
      · rw [show j = i by omega]; exact c
    · show V_X12_areAlike_111_B G Q (V_X12_areAlike_111 G Q k) m (nI n) (0 : Int32) y u
      unfold V_X12_areAlike_111_B
      exact ⟨fun _ => ⟨Or.inl rfl, h0 (fun q => c (q i (by omega)))⟩, fun c => absurd rfl c⟩
def inA (m : Nat) : Nat → Nat → Prop := fun a j => inT m a j ∨ a = m + 15
theorem inA_msc {m a j : Nat} (h : inA m a j) : msc m a j := by unfold inA inT at h; unfold msc; omega
theorem m_spotRow {N : Mm → Prop} {m a k t : Nat} {S : St} {yr : Int32} (hR : RM G u m S) (hS : okS S) (ha : a < 6) (hk : k < bkS (sB S)) (ht : t < 3) (hN : ∀ u', Fx (inT m) u u' → gI u' m 26 = nI (rwN S yr t k a).length → (∀ i, i < (rwN S yr t k a).length → gI u' (m + 14) i = (rwN S yr t k a).getD i 0) → N u') : kd G m = 12 ∧ (gR u m 36) ≠ 0 ∧ kd G (gR u m 36) = 13 ∧ vp_in (nI k) (ln G (gR u m 36)) ∧ (gR u m 37) ≠ 0 ∧ kd G (gR u m 37) = 13 ∧ vp_in (nI k) (ln G (gR u m 37)) ∧ (gR u m 6) ≠ 0 ∧ kd G (gR u m 6) = 13 ∧ vp_in (nI a) (ln G (gR u m 6)) ∧ V_X12_tellRow G m (nI a) (0 : Int32) (gI u (gR u m 36) (nI k).toNatClampNeg) (gI u (gR u m 37) (nI k).toNatClampNeg) yr (nI t) (gI u (gR u m 6) (nI a).toNatClampNeg) u (fun u' => N u') := by
  obtain ⟨hH, hC, hB, _⟩ := id hR
  obtain ⟨hM, hM2, hM3, _⟩ := id hH
  have m0 := hM.1
  have s8 := hS.2.1.2.1
  obtain ⟨bx, bY⟩ := hS.2.1.2.2.2 k hk
  obtain ⟨x1, x2⟩ := hB.2.2.2.1 k hk
  simp only [Nat.add_assoc, Nat.reduceAdd] at x1 x2
  obtain ⟨_, _, _, _, _, _, ⟨a1, a2, a3⟩, _⟩ := id hM
  obtain ⟨_, _, _, _, _, _, _, _, _, ⟨p1, p2, p3⟩, ⟨q1, q2, q3⟩⟩ := id hM3
  have la : (rwN S yr t k a).length = (mLs (sD S a) 0 (bkP (sB S) k 0) (bkP (sB S) k 1) yr t (hE (sD S a)) (aI (sD S a)) 80).length := srt_len _
  have hv8 : vp_in (nI k) 8 := vp_in_nI (by omega) (by omega)
  have hv7 : vp_in (nI a) 7 := vp_in_nI (by omega) (by omega)
  have n1 : m + 23 ≠ 0 := by omega
  have n2 : m + 24 ≠ 0 := by omega
  have n3 : m + 6 ≠ 0 := by omega
  have hl7 : a < 7 := by omega
  rw [p3, p1, p2, q3, q1, q2, a3, a1, a2, nI_clamp (show a < 2 ^ 31 by omega), nI_clamp (show k < 2 ^ 31 by omega), x1, x2, (hC a ha).2.2.2.2.1]
  clear p1 p2 p3 q1 q2 q3 a1 a2 a3 x1 x2
  refine ⟨hM.2.1, n1, rfl, hv8, n2, rfl, hv8, n3, rfl, hv7, s_X12_tellRow (aw := 0) (hS.1 a ha) hM hM2 hl7 (hC a ha) bx bY ht (by decide) (aI_ne (hS.1 a ha)) (fun u1 f1 t1 g1 r1 => hN u1 f1 (by rw [la]; exact g1) (fun i hi => ?_))⟩
  have := r1 i (by rw [← la]; exact hi)
  rw [Nat.zero_add] at this
  exact this
theorem rwN_80 (S : St) (yr : Int32) (t k a : Nat) : (rwN S yr t k a).length ≤ 80 := by
  unfold rwN
  rw [srt_len]
  exact mLs_len _ _ _ _ _ _ _ _ _
theorem m_areAlike {Q : Int32 → Mm → Prop} {m a b k t : Nat} {S : St} {yr : Int32} (hR : RM G u m S) (hS : okS S) (ha : a < 6) (hb : b < 6) (hk : k < bkS (sB S)) (ht : t < 3) (hQ : ∀ u', Fx (inA m) u u' → Q (bI (decide (rwN S yr t k a = rwN S yr t k b))) u') : V_X12_areAlike G m (nI a) (nI b) (nI k) yr (nI t) u Q := by
  have hM := hR.1.1
  have hM2 := hR.1.2.1
  have m0 := hM.1
  have mk := hM.2.1
  have a80 := rwN_80 S yr t k a
  have b80 := rwN_80 S yr t k b
  refine m_spotRow hR hS ha hk ht (fun u1 f1 g1 r1 y hy => ⟨(rwN S yr t k a).length + 1, ?_⟩)
  rw [hy, g1]
  suffices go : ∀ (n i : Nat) (w : Mm), i + n = (rwN S yr t k a).length → Fx (fun c _ => c = m + 15) u1 w → (∀ j, j < i → gI w (m + 15) j = (rwN S yr t k a).getD j 0) → V_X12_areAlike_37 G Q (n + 1) m (nI b) (nI k) yr (nI t) (nI (rwN S yr t k a).length) (nI i) w from go _ 0 u1 (Nat.zero_add _) Fx.rfl' (fun j hj => absurd hj (by omega))
  intro n
  induction n with
  | zero =>
    intro i w hi f hh
    have hi' : i = (rwN S yr t k a).length := by omega
    subst hi'
    have Fw : Fx (inA m) u w := (f1.mono (fun c j q => Or.inl q)).trans (f.mono (fun c j q => Or.inr q))
    have hRw := hR.ms (Fw.mono (fun c j q => inA_msc q))
    show V_X12_areAlike_37_B G Q (V_X12_areAlike_37 G Q 0) m (nI b) (nI k) yr (nI t) (nI (rwN S yr t k a).length) (nI (rwN S yr t k a).length) w
    unfold V_X12_areAlike_37_B V_X12_areAlike_106
    refine ⟨fun _ => m_spotRow hRw hS hb hk ht (fun u2 f2 g2 r2 => ?_), fun c => absurd (nI_le (Nat.le_refl _) (by omega)) c⟩
    have F2 : Fx (inA m) u u2 := Fw.trans (f2.mono (fun c j q => Or.inl q))
    have q2 := hQ u2 F2
    rw [g2]
    refine ⟨fun c => ⟨(rwN S yr t k a).length + 1, ?_⟩, fun c => ⟨1, ?_⟩⟩
    · have hl := nI_inj (by omega) (by omega) c
      have key := lists_iff (M := rwN S yr t k b) (N := rwN S yr t k a) (f := gI u2 (m + 14)) (g := gI u2 (m + 15)) r2 (fun i hi => by rw [f2.2 _ _ (by unfold inT; omega)]; exact hh i hi) hl.symm
      refine al_in (f2.kMR hRw.1.1) (f2.kMR2 hRw.1.2.1) (by omega) (fun x => ?_) (fun x => ?_) _ 0 (Nat.zero_add _) (fun j hj => absurd hj (by omega))
      · have e := key.mp (by rw [← hl]; exact x)
        rw [decide_eq_true e.symm] at q2
        exact q2
      · rw [decide_eq_false (fun e => x (by have := key.mpr e.symm; rw [← hl] at this; exact this))] at q2
        exact q2
    · show V_X12_areAlike_111_B G Q (V_X12_areAlike_111 G Q 0) m (nI (rwN S yr t k a).length) (0 : Int32) (0 : Int32) u2
      unfold V_X12_areAlike_111_B
      rw [decide_eq_false (fun e => c (by rw [e]))] at q2
      exact ⟨fun _ => ⟨Or.inl rfl, q2⟩, fun c => absurd rfl c⟩
  | succ n ih =>
    intro i w hi f hh
    obtain ⟨_, _, ⟨s1, s2, s3⟩, ⟨t1', t2', t3'⟩⟩ := f.kMR2 (f1.kMR2 hM2)
    show V_X12_areAlike_37_B G Q (V_X12_areAlike_37 G Q (n + 1)) m (nI b) (nI k) yr (nI t) (nI (rwN S yr t k a).length) (nI i) w
    unfold V_X12_areAlike_37_B
    rw [s3, s1, s2, t3', t1', t2', nI_clamp (show i < 2 ^ 31 by omega)]
    refine ⟨fun c => absurd ((nI_leI (by omega) (by omega)).mp c) (by omega), fun _ => ⟨mk, by omega, by omega, rfl, vp_in_nI (by omega) (by omega), rfl, vp_in_nI (by omega) (by omega), fun w2 ew2 y2 hy2 => ?_⟩⟩
    rw [hy2, nI_1, ew2]
    refine ih (i + 1) _ (by omega) (f.trans (Fx.put rfl)) (fun j hj => ?_)
    rw [gI_sI]
    by_cases e : j = i
    · rw [if_pos ⟨rfl, e⟩, e, f.2 _ _ (by omega)]
      exact r1 i (by omega)
    · rw [if_neg (by omega)]
      exact hh j (by omega)
/-- the likes of the model -/
def LKT (m : Nat) (S : St) (yr : Int32) (t n : Nat) (u : Mm) : Prop := ∀ k, k < n → ∀ l, l < 6 → ∃ o, gI u (m + 28) (6 * k + l) = nI o ∧ LK (rwN S yr t k) l o
theorem l6_mul (s : Nat) : (6 : Int32) * nI s = nI (6 * s) := nI_litM 6 s
def inB (m : Nat) : Nat → Nat → Prop := fun a j => inA m a j ∨ a = m + 28
theorem inB_msc {m a j : Nat} (h : inB m a j) : msc m a j := by unfold inB inA inT at h; unfold msc; omega
theorem m_tellLikes {Q : Mm → Prop} {m t : Nat} {S : St} {yr : Int32} (hR : RM G u m S) (hS : okS S) (ht : t < 3) (hQ : ∀ u', Fx (inB m) u u' → LKT m S yr t (bkS (sB S)) u' → Q u') : V_X12_tellLikes G m yr (nI t) u Q := by
  have mk : kd G m = 12 := hR.1.1.2.1
  have m0 : 0 < m := hR.1.1.1
  have s8 := hS.2.1.2.1
  suffices go : ∀ (n k : Nat) (w : Mm), k + n = bkS (sB S) → Fx (inB m) u w → LKT m S yr t k w → V_X12_tellLikes_2 G Q (n + 1) m yr (nI t) (nI k) w from ⟨_, go _ 0 u (Nat.zero_add _) Fx.rfl' (fun k hk => absurd hk (by omega))⟩
  intro n
  induction n with
  | zero =>
    intro k w hk f hT
    have hk' : k = bkS (sB S) := by omega
    subst hk'
    have hB := (hR.ms (f.mono (fun a j q => inB_msc q))).2.2.1
    show V_X12_tellLikes_2_B G Q (V_X12_tellLikes_2 G Q 0) m yr (nI t) (nI (bkS (sB S))) w
    unfold V_X12_tellLikes_2_B
    rw [hB.2.1]
    exact ⟨mk, fun _ => hQ w f hT, fun c => absurd (nI_le (Nat.le_refl _) (by omega)) c⟩
  | succ n ih =>
    intro k w hk f hT
    have hB := (hR.ms (f.mono (fun a j q => inB_msc q))).2.2.1
    show V_X12_tellLikes_2_B G Q (V_X12_tellLikes_2 G Q (n + 1)) m yr (nI t) (nI k) w
    unfold V_X12_tellLikes_2_B
    rw [hB.2.1]
    refine ⟨mk, fun c => absurd ((nI_leI (by omega) (by omega)).mp c) (by omega), fun _ => ?_⟩
    suffices inn : ∀ (r l : Nat) (w : Mm), l + r = 6 → Fx (inB m) u w → LKT m S yr t k w → (∀ j, j < l → ∃ o, gI w (m + 28) (6 * k + j) = nI o ∧ LK (rwN S yr t k) j o) → V_X12_tellLikes_13 G Q (V_X12_tellLikes_2 G Q (n + 1)) (r + 1) m yr (nI t) (nI k) (nI l) w from ⟨7, inn 6 0 w (by omega) f hT (fun j hj => absurd hj (by omega))⟩
    intro r
    induction r with
    | zero =>
      intro l w hl f hT hh
      have hl' : l = 6 := by omega
      subst hl'
      show V_X12_tellLikes_13_B G Q (V_X12_tellLikes_2 G Q (n + 1)) (V_X12_tellLikes_13 G Q (V_X12_tellLikes_2 G Q (n + 1)) 0) m yr (nI t) (nI k) (nI 6) w
      unfold V_X12_tellLikes_13_B
      refine ⟨fun _ y hy => ?_, fun c => absurd (nI_le (a := 6) (b := 6) (by omega) (by omega)) c⟩
      rw [hy, nI_1]
      refine ih (k + 1) w (by omega) f (fun k2 hk2 l hl => ?_)
      by_cases q : k2 = k
      · rw [q]; exact hh l hl
      · exact hT k2 (by omega) l hl
    | succ r ihr =>
      intro l w hl f hT hh
      have rec' : ∀ (o : Nat) (x : Mm), LK (rwN S yr t k) l o → Fx (inB m) u x → LKT m S yr t k x → (∀ j, j < l → ∃ o, gI x (m + 28) (6 * k + j) = nI o ∧ LK (rwN S yr t k) j o) → V_X12_tellLikes_50 G Q (V_X12_tellLikes_2 G Q (n + 1)) (V_X12_tellLikes_13 G Q (V_X12_tellLikes_2 G Q (n + 1)) (r + 1)) m yr (nI t) (nI k) (nI l) (nI o) x := by
        intro o x hLK fx hTx hhx
        obtain ⟨_, _, _, ⟨_, _, _, ⟨a1, a2, a3⟩, _⟩⟩ := (hR.ms (fx.mono (fun a j q => inB_msc q))).1
        unfold V_X12_tellLikes_50
        rw [a3, a1, a2, l6_mul, nI_add, nI_clamp (by omega)]
        refine ⟨mk, by omega, rfl, vp_in_nI (by omega) (by omega), fun w2 ew2 y hy => ?_⟩
        rw [hy, nI_1, ew2]
        refine ihr (l + 1) _ (by omega) (fx.trans (Fx.put (by unfold inB; omega))) (fun k2 hk2 l2 hl2 => ?_) (fun j hj => ?_)
        · rw [gI_sI, if_neg (by omega)]
          exact hTx k2 hk2 l2 hl2
        · rw [gI_sI]
          by_cases q : j = l
          · subst q
            rw [if_pos ⟨rfl, rfl⟩]
            exact ⟨o, rfl, hLK⟩
          · rw [if_neg (by omega)]
            exact hhx j (by omega)
      show V_X12_tellLikes_13_B G Q (V_X12_tellLikes_2 G Q (n + 1)) (V_X12_tellLikes_13 G Q (V_X12_tellLikes_2 G Q (n + 1)) (r + 1)) m yr (nI t) (nI k) (nI l) w
      unfold V_X12_tellLikes_13_B
      refine ⟨fun c => absurd ((nI_leI (a := 6) (by omega) (by omega)).mp c) (by omega), fun _ => ?_⟩
      suffices inn2 : ∀ (q o : Nat) (x : Mm), o + q = l → Fx (inB m) u x → LKT m S yr t k x → (∀ j, j < l → ∃ o, gI x (m + 28) (6 * k + j) = nI o ∧ LK (rwN S yr t k) j o) → (∀ j, j < o → rwN S yr t k j ≠ rwN S yr t k l) → V_X12_tellLikes_23 G Q (V_X12_tellLikes_2 G Q (n + 1)) (V_X12_tellLikes_13 G Q (V_X12_tellLikes_2 G Q (n + 1)) (r + 1)) (q + 1) m yr (nI t) (nI k) (nI l) (nI o) x from ⟨_, inn2 _ 0 w (Nat.zero_add _) f hT hh (fun j hj => absurd hj (by omega))⟩
      intro q
      induction q with
      | zero =>
        intro o x ho fx hTx hhx hne
        have ho' : o = l := by omega
        subst ho'
        show V_X12_tellLikes_23_B G Q (V_X12_tellLikes_2 G Q (n + 1)) (V_X12_tellLikes_13 G Q (V_X12_tellLikes_2 G Q (n + 1)) (r + 1)) (V_X12_tellLikes_23 G Q (V_X12_tellLikes_2 G Q (n + 1)) (V_X12_tellLikes_13 G Q (V_X12_tellLikes_2 G Q (n + 1)) (r + 1)) 0) m yr (nI t) (nI k) (nI o) (nI o) x
        unfold V_X12_tellLikes_23_B
        exact ⟨fun _ => rec' o x ⟨Nat.le_refl _, rfl, hne⟩ fx hTx hhx, fun c => absurd (nI_le (Nat.le_refl _) (by omega)) c⟩
      | succ q ihq =>
        intro o x ho fx hTx hhx hne
        show V_X12_tellLikes_23_B G Q (V_X12_tellLikes_2 G Q (n + 1)) (V_X12_tellLikes_13 G Q (V_X12_tellLikes_2 G Q (n + 1)) (r + 1)) (V_X12_tellLikes_23 G Q (V_X12_tellLikes_2 G Q (n + 1)) (V_X12_tellLikes_13 G Q (V_X12_tellLikes_2 G Q (n + 1)) (r + 1)) (q + 1)) m yr (nI t) (nI k) (nI l) (nI o) x
        unfold V_X12_tellLikes_23_B
        refine ⟨fun c => absurd ((nI_leI (by omega) (by omega)).mp c) (by omega), fun _ => ⟨mk, m_areAlike (hR.ms (fx.mono (fun a j q => inB_msc q))) hS (by omega) (by omega) (by omega) ht (fun x2 f2 => ?_)⟩⟩
        have F2 : Fx (inB m) u x2 := fx.trans (f2.mono (fun a j q => Or.inl q))
        have T2 : LKT m S yr t k x2 := fun k2 hk2 l2 hl2 => by rw [f2.2 _ _ (by unfold inA inT; omega)]; exact hTx k2 hk2 l2 hl2
        have H2 : ∀ j, j < l → ∃ o, gI x2 (m + 28) (6 * k + j) = nI o ∧ LK (rwN S yr t k) j o := fun j hj => by rw [f2.2 _ _ (by unfold inA inT; omega)]; exact hhx j hj
        refine ⟨fun c y hy => ?_, fun c => ?_⟩
        · rw [bI_0, decide_eq_false_iff_not] at c
          rw [hy, nI_1]
          refine ihq (o + 1) x2 (by omega) F2 T2 H2 (fun j hj => ?_)
          by_cases e : j = o
          · rw [e]; exact c
          · exact hne j (by omega)
        · rw [bI_0, decide_eq_false_iff_not] at c
          exact rec' o x2 ⟨by omega, Classical.not_not.mp c, hne⟩ F2 T2 H2
/-- the part of a set whose like is o -/
def ptN (lk : Nat → Nat) (set o : Nat) : Nat := bts (fun l => set.testBit l && decide (lk l = o)) 6
theorem ptN_key {S : St} {yr : Int32} {t k set : Nat} {lk : Nat → Nat} (hs : set < 64) (hlk : ∀ l, l < 6 → LK (rwN S yr t k) l (lk l)) {l : Nat} (hl : l < 6) (hb : set.testBit l = true) : ptN lk set (lk l) = set &&& alN S yr t k l := by
  apply Nat.eq_of_testBit_eq
  intro j
  unfold ptN alN
  rw [bts_bit, Nat.testBit_and, bts_bit]
  by_cases hj : j < 6
  · have e := LK_iff (hlk j hj) (hlk l hl)
    have e2 : decide (lk j = lk l) = decide (rwN S yr t k l = rwN S yr t k j) := by
      rw [decide_eq_decide, e]
      exact ⟨Eq.symm, Eq.symm⟩
    rw [e2]
    simp [hj]
  · simp [hj]
theorem m_clapsBy {Q : Int32 → Mm → Prop} {m t k set : Nat} {S : St} {yr : Int32} {cl : Nat → Int32} (hH : HM G u m) (hk8 : k < 8) (hs : set < 64) (h0 : set ≠ 0) (c0 : cl 0 = 0) (hA : ∀ l, l < 6 → ∃ o, gI u (m + 28) (6 * k + l) = nI o ∧ LK (rwN S yr t k) l o) (hT : ∀ s, s < set → gI u (m + 29) s = cl s) (hQ : Q (cfV S yr t cl set k) u) : V_X12_clapsBy G m (nI set) (nI k) u Q := by
  have mk := hH.1.2.1
  have m0 := hH.1.1
  obtain ⟨_, _, _, ⟨_, _, _, ⟨a1, a2, a3⟩, ⟨b1, b2, b3⟩, _⟩⟩ := id hH
  have hlk : ∀ l, l < 6 → gI u (m + 28) (6 * k + l) = nI (gI u (m + 28) (6 * k + l)).toNatClampNeg ∧ LK (rwN S yr t k) l (gI u (m + 28) (6 * k + l)).toNatClampNeg := by
    intro l hl
    obtain ⟨o, e, h⟩ := hA l hl
    have ho : o < 2 ^ 31 := by have := h.1; omega
    rw [e, nI_clamp ho]
    exact ⟨rfl, h⟩
  have key : ∀ l, l < 6 → set.testBit l = true → ptN (fun l => (gI u (m + 28) (6 * k + l)).toNatClampNeg) set ((gI u (m + 28) (6 * k + l)).toNatClampNeg) = set &&& alN S yr t k l := fun l hl hb => ptN_key (lk := fun l => (gI u (m + 28) (6 * k + l)).toNatClampNeg) hs (fun l hl => (hlk l hl).2) hl hb
  have k2 : ∀ o, o < 6 → ptN (fun l => (gI u (m + 28) (6 * k + l)).toNatClampNeg) set o = 0 ∨ ∃ l, l < 6 ∧ set.testBit l = true ∧ ptN (fun l => (gI u (m + 28) (6 * k + l)).toNatClampNeg) set o = set &&& alN S yr t k l := by
    intro o ho
    by_cases hz : ptN (fun l => (gI u (m + 28) (6 * k + l)).toNatClampNeg) set o = 0
    · exact Or.inl hz
    · right
      unfold ptN at hz
      rw [bts_0] at hz
      have : ∃ l, l < 6 ∧ (set.testBit l && decide ((gI u (m + 28) (6 * k + l)).toNatClampNeg = o)) = true := by
        apply Classical.byContradiction
        intro c
        apply hz
        intro l hl
        cases q : (set.testBit l && decide ((gI u (m + 28) (6 * k + l)).toNatClampNeg = o))
        · rfl
        · exact absurd ⟨l, hl, q⟩ c
      obtain ⟨l, hl, q⟩ := this
      rw [Bool.and_eq_true, decide_eq_true_eq] at q
      refine ⟨l, hl, q.1, ?_⟩
      rw [← q.2]
      exact key l hl q.1
  have k1 : ∀ l, l < 6 → set.testBit l = true → ∃ o, o < 6 ∧ ptN (fun l => (gI u (m + 28) (6 * k + l)).toNatClampNeg) set o = set &&& alN S yr t k l := fun l hl hb => ⟨_, by have := (hlk l hl).2.1; omega, key l hl hb⟩
  have sp : mbI (ptN (fun l => (gI u (m + 28) (6 * k + l)).toNatClampNeg) set) cl set 6 0 = cfV S yr t cl set k := CFs_one (PF_CF (mbI_PF 6 0 (Nat.le_refl _) (by rw [li_0]; omega) (fun ⟨o, ho, _⟩ => absurd ho (by omega)) (fun o ho => absurd ho (by omega)) (Or.inl rfl)) k1 k2 h0 c0) cfV_CF
  rw [← sp] at hQ
  suffices go : ∀ (n o : Nat) (w : Int32), o + n = 6 → Q (mbI (ptN (fun l => (gI u (m + 28) (6 * k + l)).toNatClampNeg) set) cl set n w) u → V_X12_clapsBy_5 G Q (n + 1) m (nI set) (nI k) w (nI o) u from ⟨7, go 6 0 0 (by omega) hQ⟩
  intro n
  induction n with
  | zero =>
    intro o w ho hq
    have ho' : o = 6 := by omega
    subst ho'
    show V_X12_clapsBy_5_B G Q (V_X12_clapsBy_5 G Q 0) m (nI set) (nI k) w (nI 6) u
    unfold V_X12_clapsBy_5_B
    exact ⟨fun _ => hq, fun c => absurd (nI_le (a := 6) (b := 6) (by omega) (by omega)) c⟩
  | succ n ih =>
    intro o w ho hq
    have ho5 : 5 - n = o := by omega
    unfold mbI at hq
    rw [ho5] at hq
    show V_X12_clapsBy_5_B G Q (V_X12_clapsBy_5 G Q (n + 1)) m (nI set) (nI k) w (nI o) u
    unfold V_X12_clapsBy_5_B
    refine ⟨fun c => absurd ((nI_leI (a := 6) (by omega) (by omega)).mp c) (by omega), fun _ => ?_⟩
    suffices inn : ∀ (r l : Nat), l + r = 6 → V_X12_clapsBy_18 G Q (V_X12_clapsBy_5 G Q (n + 1)) (r + 1) m (nI set) (nI k) w (nI o) (nI (bts (fun l => set.testBit l && decide ((gI u (m + 28) (6 * k + l)).toNatClampNeg = o)) l)) (nI l) u from ⟨7, inn 6 0 (by omega)⟩
    intro r
    induction r with
    | zero =>
      intro l hl
      have hl' : l = 6 := by omega
      subst hl'
      show V_X12_clapsBy_18_B G Q (V_X12_clapsBy_5 G Q (n + 1)) (V_X12_clapsBy_18 G Q (V_X12_clapsBy_5 G Q (n + 1)) 0) m (nI set) (nI k) w (nI o) (nI (ptN (fun l => (gI u (m + 28) (6 * k + l)).toNatClampNeg) set o)) (nI 6) u
      unfold V_X12_clapsBy_18_B
      have p64 : ptN (fun l => (gI u (m + 28) (6 * k + l)).toNatClampNeg) set o < 64 := bts_lt _ 6
      refine ⟨fun _ => ⟨fun e => ?_, fun e => ?_⟩, fun c => absurd (nI_le (a := 6) (b := 6) (by omega) (by omega)) c⟩
      · have e := nI_inj (by omega) (by omega) e
        rw [if_pos (Or.inl e)] at hq
        exact hq
      · have ne : ptN (fun l => (gI u (m + 28) (6 * k + l)).toNatClampNeg) set o ≠ set := fun q => e (by rw [q])
        have lt : ptN (fun l => (gI u (m + 28) (6 * k + l)).toNatClampNeg) set o < set := by
          rcases k2 o (by omega) with q | ⟨l, _, _, q⟩
          · rw [q]; omega
          · have : set &&& alN S yr t k l ≤ set := Nat.and_le_left
            omega
        rw [b3, b1, b2, nI_clamp (by omega), hT _ lt]
        refine ⟨mk, by omega, rfl, vp_in_nI (by omega) (by omega), fun e2 => ?_, fun e2 x hx y hy => ?_⟩
        · rw [if_pos (Or.inr e2)] at hq
          exact hq
        · rw [if_neg (fun q => q.elim ne e2)] at hq
          rw [hy, nI_1, hx]
          exact ih (o + 1) _ (by omega) hq
    | succ r ihr =>
      intro l hl
      have st := ihr (l + 1) (by omega)
      have eb : bts (fun l => set.testBit l && decide ((gI u (m + 28) (6 * k + l)).toNatClampNeg = o)) (l + 1) = bts (fun l => set.testBit l && decide ((gI u (m + 28) (6 * k + l)).toNatClampNeg = o)) l + (if (set.testBit l && decide ((gI u (m + 28) (6 * k + l)).toNatClampNeg = o)) then 2 ^ l else 0) := rfl
      obtain ⟨el1, el2⟩ := hlk l (by omega)
      have no : (set.testBit l && decide ((gI u (m + 28) (6 * k + l)).toNatClampNeg = o)) = false → V_X12_clapsBy_61 G Q (V_X12_clapsBy_5 G Q (n + 1)) (V_X12_clapsBy_18 G Q (V_X12_clapsBy_5 G Q (n + 1)) (r + 1)) m (nI set) (nI k) w (nI o) (nI l) (nI (bts (fun l => set.testBit l && decide ((gI u (m + 28) (6 * k + l)).toNatClampNeg = o)) l)) u := by
        intro q x hx y hy
        rw [eb, q] at st
        simp only [Bool.false_eq_true, if_false, Nat.add_zero] at st
        have e0 : nI (bts (fun l => set.testBit l && decide ((gI u (m + 28) (6 * k + l)).toNatClampNeg = o)) l) ||| (0 : Int32) = nI (bts (fun l => set.testBit l && decide ((gI u (m + 28) (6 * k + l)).toNatClampNeg = o)) l) := by
          have := fa_or (bts (fun l => set.testBit l && decide ((gI u (m + 28) (6 * k + l)).toNatClampNeg = o)) l) 0
          rw [Nat.or_zero] at this
          exact this
        rw [hx, e0, hy, nI_1]
        exact st
      show V_X12_clapsBy_18_B G Q (V_X12_clapsBy_5 G Q (n + 1)) (V_X12_clapsBy_18 G Q (V_X12_clapsBy_5 G Q (n + 1)) (r + 1)) m (nI set) (nI k) w (nI o) (nI (bts (fun l => set.testBit l && decide ((gI u (m + 28) (6 * k + l)).toNatClampNeg = o)) l)) (nI l) u
      unfold V_X12_clapsBy_18_B
      rw [bit_s (by omega) (by omega), a3, a1, a2, l6_mul, nI_add, nI_clamp (show 6 * k + l < 2 ^ 31 by omega)]
      refine ⟨fun c => absurd ((nI_leI (a := 6) (by omega) (by omega)).mp c) (by omega), fun _ => ⟨fun c => ?_, fun c => no ?_⟩⟩
      · have tb : set.testBit l = true := by
          cases q : set.testBit l
          · rw [q] at c; exact absurd c (by decide)
          · rfl
        refine ⟨mk, by omega, rfl, vp_in_nI (by omega) (by omega), fun e x hx y hy => ?_, fun e => no ?_⟩
        · have e2 : (gI u (m + 28) (6 * k + l)).toNatClampNeg = o := by rw [e, nI_clamp (by omega)]
          rw [eb, tb, decide_eq_true e2] at st
          rw [hx, shl_1 l (by omega), fa_or, bts_or, hy, nI_1]
          exact st
        · have e2 : (gI u (m + 28) (6 * k + l)).toNatClampNeg ≠ o := fun q => e (by rw [el1, q])
          rw [decide_eq_false e2, Bool.and_false]
      · have tb : set.testBit l = false := by
          cases q : set.testBit l
          · rfl
          · rw [q] at c; exact absurd rfl c
        rw [tb, Bool.false_and]
theorem m_next {Q : Int32 → Mm → Prop} {m : Nat} {S : St} {lands yr tn what : Int32} (hR : RM G u m S) (hS : okS S) (hQ : ∀ u' w, Fx (msc m) u u' → gI u' m 1 = nxE lands yr tn what → (nxE lands yr tn what = 0 → w = nxV S lands yr tn what) → Q w u') : V_X12_next G m lands yr tn what u Q := by
  have mk : kd G m = 12 := hR.1.1.2.1
  have m0 : 0 < m := hR.1.1.1
  have s8 := hS.2.1.2.1
  refine ⟨mk, fun w hw => ?_⟩
  subst hw
  have hR0 := hR.put (c := 0)
  have F0 : Fx (msc m) u (sI u m 1 0) := Fx.code0
  have C0 : gI (sI u m 1 0) m 1 = 0 := gI_code
  unfold nxE at hQ
  have no : ¬ (btw 0 99 yr ∧ inN 3 tn ∧ inN 2 what) → V_X12_next_30 G Q m (sI u m 1 0) := fun g => ⟨mk, m_fail mk (hQ _ _ F0.code (by rw [pick_t g]; exact gI_code) (fun q => by rw [pick_t g] at q; exact absurd q (by decide)))⟩
  refine m_isYear (fun hyr => ⟨fun c => absurd c (by decide), fun _ => m_isTone (fun t ht et => ⟨fun c => absurd c (by decide), fun _ => ⟨fun c => no (fun q => ?_), fun c => ⟨fun c2 => ?_, fun c2 => no (fun q => ?_)⟩⟩⟩) (fun g => ⟨fun _ => no (fun q => g q.2.1), fun c => absurd rfl c⟩)⟩) (fun g => ⟨fun _ => no (fun q => g q.1), fun c => absurd rfl c⟩)
  · have q := q.2.2
    rw [inN_iff (by omega)] at q
    rw [fa_lt, li_0] at c
    omega
  case refine_3 =>
    have q := q.2.2
    rw [inN_iff (by omega)] at q
    rw [fa_le, li_1] at c2
    omega
  subst et
  clear no
  have hw : inN 2 what := (inN_iff (by omega)).mpr (by rw [fa_lt, li_0] at c; rw [fa_le, li_1] at c2; omega)
  rw [pick_f (fun q => q ⟨hyr, ⟨t, ht, rfl⟩, hw⟩)] at hQ
  refine m_isIn (fun a b => ⟨fun c => absurd c (by decide), fun _ => ?_⟩) (fun g => ⟨fun _ => ?_, fun c => absurd rfl c⟩)
  case refine_2 =>
    have g2 : ¬ inN 64 lands := fun q => g (by rw [inN_iff (by omega)] at q; rw [li_0, li_63]; omega)
    exact m_fail mk (hQ _ _ F0.code (by rw [pick_t g2]; exact gI_code) (fun q => by rw [pick_t g2] at q; exact absurd q (by decide)))
  rw [li_0] at a
  rw [li_63] at b
  obtain ⟨d, hd, ed⟩ := (inN_iff (n := 64) (x := lands) (by omega)).mpr (by omega)
  subst ed
  have hQ : ∀ u', Fx (msc m) u u' → gI u' m 1 = 0 → Q (nxV S (nI d) yr (nI t) what) u' := fun u' f' c' => hQ u' _ f' (by rw [pick_f (fun q => q ⟨d, hd, rfl⟩)]; exact c') (fun _ => rfl)
  unfold nxV at hQ
  rw [nI_clamp (show t < 2 ^ 31 by omega), nI_clamp (show d < 2 ^ 31 by omega)] at hQ
  refine m_tellLikes hR0 hS ht (fun u1 f1 hL => ?_)
  have c1 : gI u1 m 1 = 0 := by rw [f1.2 _ _ (by unfold inB inA inT; omega)]; exact C0
  have F1 : Fx (msc m) u u1 := F0.trans (f1.mono (fun a j q => inB_msc q))
  have hR1 := hR0.ms (f1.mono (fun a j q => inB_msc q))
  suffices go : ∀ (n s : Nat) (x5 : Int32) (w : Mm), s + n = d + 1 → Fx (fun a _ => a = m + 29) u1 w → (∀ j, j < s → gI w (m + 29) j = tbC S yr t s j) → (∀ p, s = p + 1 → x5 = (stN S yr t (tbC S yr t p) p).2) → V_X12_next_64 G Q (n + 1) m (nI d) what x5 (nI s) w from ⟨_, go (d + 1) 0 (-1) u1 (by omega) Fx.rfl' (fun j hj => absurd hj (by omega)) (fun p hp => absurd hp (by omega))⟩
  intro n
  induction n with
  | zero =>
    intro s x5 w hs f hT hx
    have hs' : s = d + 1 := by omega
    subst hs'
    obtain ⟨_, _, _, ⟨_, _, _, _, ⟨b1, b2, b3⟩, _⟩⟩ := hR1.1.fx f
    have q := hQ w (F1.trans (f.mono (fun a j q => by unfold msc; omega))) (by rw [f.2 _ _ (by omega)]; exact c1)
    have v1 := hT d (by omega)
    rw [tbC_new] at v1
    show V_X12_next_64_B G Q (V_X12_next_64 G Q 0) m (nI d) what x5 (nI (d + 1)) w
    unfold V_X12_next_64_B
    rw [b3, b1, b2, nI_clamp (by omega), v1]
    refine ⟨fun _ => ⟨fun e => ⟨mk, by omega, rfl, vp_in_nI (by omega) (by omega), ?_⟩, fun e => ?_⟩, fun c => absurd (nI_lt (by omega) (by omega)) c⟩
    · rw [if_pos e] at q; exact q
    · rw [if_neg e] at q
      rw [hx d rfl]
      exact q
  | succ n ih =>
    intro s x5 w hs f hT hx
    obtain ⟨_, _, _, ⟨_, _, _, _, ⟨b1, b2, b3⟩, _⟩⟩ := hR1.1.fx f
    have es : (nI s).toNatClampNeg = s := nI_clamp (by omega)
    have hg := tbC_good S yr t s (by omega)
    have hpl := pc_le s
    -- behind the spots
    have done : ∀ (x : Mm) (fst : Int32), Fx (fun a _ => a = m + 29) u1 x → (∀ j, j < s → gI x (m + 29) j = tbC S yr t s j) → gI x (m + 29) s = (stN S yr t (tbC S yr t s) s).1 → fst = (stN S yr t (tbC S yr t s) s).2 → V_X12_next_176 G Q (V_X12_next_64 G Q (n + 1)) m (nI d) what fst (nI s) x := by
      intro x fst fx ht e1 e2 y hy
      rw [hy, nI_1]
      refine ih (s + 1) fst x (by omega) fx (fun j hj => ?_) (fun p hp => ?_)
      · by_cases q : j = s
        · rw [q, tbC_new]; exact e1
        · rw [tbC_old (by omega)]; exact ht j (by omega)
      · have : p = s := by omega
        rw [this]; exact e2
    -- the spots
    have spots : ¬ pc s < 2 → ∀ (r k : Nat) (cf : Int32 × Int32) (x : Mm), k + r = bkS (sB S) → Fx (fun a _ => a = m + 29) u1 x → (∀ j, j < s → gI x (m + 29) j = tbC S yr t s j) → gI x (m + 29) s = cf.1 → stI S yr t (tbC S yr t s) s (bkS (sB S)) r cf = stN S yr t (tbC S yr t s) s → V_X12_next_97 G Q (V_X12_next_64 G Q (n + 1)) (r + 1) m (nI d) what cf.2 (nI s) (nI k) x := by
      intro hp r
      have h0 := pc2_pos hp
      induction r with
      | zero =>
        intro k cf x hk fx ht e1 hst
        have hk' : k = bkS (sB S) := by omega
        subst hk'
        have hB := (hR1.fx fx (fun a j q => Or.inl (by unfold msc; omega))).2.2.1
        show V_X12_next_97_B G Q (V_X12_next_64 G Q (n + 1)) (V_X12_next_97 G Q (V_X12_next_64 G Q (n + 1)) 0) m (nI d) what cf.2 (nI s) (nI (bkS (sB S))) x
        unfold V_X12_next_97_B
        rw [hB.2.1]
        have hst : cf = stN S yr t (tbC S yr t s) s := hst
        exact ⟨mk, fun _ => done x _ fx ht (by rw [e1, hst]) (by rw [hst]), fun c => absurd (nI_le (Nat.le_refl _) (by omega)) c⟩
      | succ r ihr =>
        intro k cf x hk fx ht e1 hst
        have hRx := hR1.fx fx (fun a j q => Or.inl (by unfold msc; omega))
        obtain ⟨hHx, _, hB, _⟩ := id hRx
        obtain ⟨_, _, _, ⟨_, _, _, _, ⟨x1, x2, x3⟩, _⟩⟩ := id hHx
        have ek : bkS (sB S) - (r + 1) = k := by omega
        have hst : stI S yr t (tbC S yr t s) s (bkS (sB S)) r (stU (cfV S yr t (tbC S yr t s) s (bkS (sB S) - (r + 1))) (bkS (sB S) - (r + 1)) cf) = stN S yr t (tbC S yr t s) s := hst
        rw [ek] at hst
        have skip : stU (cfV S yr t (tbC S yr t s) s k) k cf = cf → V_X12_next_170 G Q (V_X12_next_64 G Q (n + 1)) (V_X12_next_97 G Q (V_X12_next_64 G Q (n + 1)) (r + 1)) m (nI d) what cf.2 (nI s) (nI k) x := by
          intro q y hy
          rw [q] at hst
          rw [hy, nI_1]
          exact ihr (k + 1) cf x (by omega) fx ht e1 hst
        have take : stU (cfV S yr t (tbC S yr t s) s k) k cf = (cfV S yr t (tbC S yr t s) s k, nI k) → V_X12_next_157 G Q (V_X12_next_64 G Q (n + 1)) (V_X12_next_97 G Q (V_X12_next_64 G Q (n + 1)) (r + 1)) m (nI d) what (nI s) (nI k) (cfV S yr t (tbC S yr t s) s k) x := by
          intro q
          rw [q] at hst
          unfold V_X12_next_157 V_X12_next_170
          rw [x3, x1, x2, es]
          refine ⟨mk, by omega, rfl, vp_in_nI (by omega) (by omega), fun w1 ew1 y hy => ?_⟩
          rw [hy, nI_1, ew1]
          refine ihr (k + 1) (cfV S yr t (tbC S yr t s) s k, nI k) _ (by omega) (fx.trans (Fx.put rfl)) (fun j hj => ?_) ?_ hst
          · rw [gI_sI, if_neg (by omega)]; exact ht j hj
          · rw [gI_sI, if_pos ⟨rfl, rfl⟩]
        show V_X12_next_97_B G Q (V_X12_next_64 G Q (n + 1)) (V_X12_next_97 G Q (V_X12_next_64 G Q (n + 1)) (r + 1)) m (nI d) what cf.2 (nI s) (nI k) x
        unfold V_X12_next_97_B
        rw [hB.2.1]
        refine ⟨mk, fun c => absurd ((nI_leI (by omega) (by omega)).mp c) (by omega), fun _ => s_bitsOf (by omega) ⟨fun c => ?_, fun _ => m_clapsBy (cl := tbC S yr t s) hHx (by omega) (by omega) (by omega) (tbC_0 h0) (fun l hl => by rw [fx.2 _ _ (by omega)]; exact hL k (by omega) l hl) ht ⟨fun q => skip (by unfold stU; rw [if_pos q]), fun q => ?_⟩⟩⟩
        · have := (nI_leI (b := 1) (by omega) (by omega)).mp c
          omega
        · rw [x3, x1, x2, es, e1]
          refine ⟨by omega, rfl, vp_in_nI (by omega) (by omega), fun q2 => take (by unfold stU; rw [if_neg q, if_pos (Or.inl q2)]), fun q2 => ⟨fun q3 => take (by unfold stU; rw [if_neg q, if_pos (Or.inr q3)]), fun q3 => skip (by unfold stU; rw [if_neg q, if_neg (fun r => r.elim q2 q3)])⟩⟩
    have head : ∀ t2 : Int32, (t2 = if pc s < 2 then 0 else -1) → V_X12_next_90 G Q (V_X12_next_64 G Q (n + 1)) m (nI d) what (nI s) (m + 29) (nI s) t2 w := by
      intro t2 e
      unfold V_X12_next_90
      rw [b1, b2, es]
      refine ⟨rfl, vp_in_nI (by omega) (by omega), fun w1 ew1 => ⟨bkS (sB S) + 1, ?_⟩⟩
      have f2 : Fx (fun a _ => a = m + 29) u1 w1 := by rw [ew1]; exact f.trans (Fx.put rfl)
      have ht : ∀ j, j < s → gI w1 (m + 29) j = tbC S yr t s j := by
        intro j hj
        rw [ew1, gI_sI, if_neg (by omega)]
        exact hT j hj
      have v1 : gI w1 (m + 29) s = t2 := by rw [ew1, gI_sI, if_pos ⟨rfl, rfl⟩]
      by_cases hp : pc s < 2
      · rw [if_pos hp] at e
        have est : stN S yr t (tbC S yr t s) s = (0, -1) := by unfold stN; rw [if_pos hp]
        have hB := (hR1.fx f2 (fun a j q => Or.inl (by unfold msc; omega))).2.2.1
        show V_X12_next_97_B G Q (V_X12_next_64 G Q (n + 1)) (V_X12_next_97 G Q (V_X12_next_64 G Q (n + 1)) (bkS (sB S))) m (nI d) what (-1) (nI s) (nI 0) w1
        unfold V_X12_next_97_B
        have fin := done w1 (-1) f2 ht (by rw [v1, est, e]) (by rw [est])
        exact ⟨mk, fun _ => fin, fun _ => s_bitsOf (by omega) ⟨fun _ => fin, fun c => absurd (nI_le (b := 1) (by omega) (by omega)) c⟩⟩
      · rw [if_neg hp] at e
        exact spots hp (bkS (sB S)) 0 (-1, -1) w1 (by omega) f2 ht (by rw [v1, e]) (by unfold stN; rw [if_neg hp])
    show V_X12_next_64_B G Q (V_X12_next_64 G Q (n + 1)) m (nI d) what x5 (nI s) w
    unfold V_X12_next_64_B
    rw [b3]
    refine ⟨fun c => absurd ((nI_ltI (by omega) (by omega)).mp c) (by omega), fun _ => ⟨mk, by omega, s_bitsOf (by omega) ⟨fun c => head _ ?_, fun c => head _ ?_⟩⟩⟩
    · have c := (nI_leI (a := 2) (by omega) (by omega)).mp c
      rw [if_neg (by omega)]
    · have c : ¬ 2 ≤ pc s := fun q => c (nI_le (a := 2) q (by omega))
      rw [if_pos (by omega)]
end MNEXT
