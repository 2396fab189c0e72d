/-! NEXT: what both sides tell -/
def rwN (S : St) (yr : Int32) (tn k l : Nat) : List Int32 := srt (mLs (sD S l) 0 (bkP (sB S) k 0) (bkP (sB S) k 1) yr tn (hE (sD S l)) (aI (sD S l)) 80)
def alN (S : St) (yr : Int32) (tn k l : Nat) : Nat := bts (fun j => decide (rwN S yr tn k l = rwN S yr tn k j)) 6
/-- the claps of a set if the first is at a spot: lands from 6 - n on -/
def cfI (A : Nat → Nat) (cl : Nat → Int32) (set : Nat) : Nat → Int32 → Int32
  | 0, w => w + 1
  | n + 1, w => if set.testBit (5 - n) then (if set &&& A (5 - n) = set ∨ cl (set &&& A (5 - n)) = -1 then -1 else cfI A cl set n (mx w (cl (set &&& A (5 - n))))) else cfI A cl set n w
def cfV (S : St) (yr : Int32) (tn : Nat) (cl : Nat → Int32) (set k : Nat) : Int32 := cfI (alN S yr tn k) cl set 6 0
def stU (v : Int32) (k : Nat) (cf : Int32 × Int32) : Int32 × Int32 := if v = -1 then cf else if cf.1 = -1 ∨ v < cf.1 then (v, nI k) else cf
/-- all spots, from N - n on -/
def stI (S : St) (yr : Int32) (tn : Nat) (cl : Nat → Int32) (set N : Nat) : Nat → Int32 × Int32 → Int32 × Int32
  | 0, cf => cf
  | n + 1, cf => stI S yr tn cl set N n (stU (cfV S yr tn cl set (N - (n + 1))) (N - (n + 1)) cf)
def stN (S : St) (yr : Int32) (tn : Nat) (cl : Nat → Int32) (set : Nat) : Int32 × Int32 := if pc set < 2 then (0, -1) else stI S yr tn cl set (bkS (sB S)) (bkS (sB S)) (-1, -1)
/-- the table of claps, sets below n -/
def tbC (S : St) (yr : Int32) (tn : Nat) : Nat → Nat → Int32
  | 0, _ => 0
  | n + 1, s => if s = n then (stN S yr tn (tbC S yr tn n) n).1 else tbC S yr tn n s
def goodC (n : Nat) (cl : Nat → Int32) : Prop := ∀ s, s < n → cl s = -1 ∨ (0 ≤ (cl s).toInt ∧ (cl s).toInt ≤ s)
theorem and_lt {a b : Nat} (h : a &&& b ≠ a) : a &&& b < a := Nat.lt_of_le_of_ne Nat.and_le_left h
theorem cfI_good {A : Nat → Nat} {cl : Nat → Int32} {set : Nat} (hg : goodC set cl) (hs : set < 64) : ∀ (n : Nat) (w : Int32), 0 ≤ w.toInt → w.toInt < set → cfI A cl set n w = -1 ∨ (1 ≤ (cfI A cl set n w).toInt ∧ (cfI A cl set n w).toInt ≤ set)
  | 0, w, h0, h1 => by
    right
    show 1 ≤ (w + 1).toInt ∧ (w + 1).toInt ≤ set
    rw [fb_addI (by rw [li_1]; omega) (by rw [li_1]; omega), li_1]
    omega
  | n + 1, w, h0, h1 => by
    unfold cfI
    split
    · split
      · exact Or.inl rfl
      · rename_i q
        have q1 : set &&& A (5 - n) ≠ set := fun e => q (Or.inl e)
        have q2 : cl (set &&& A (5 - n)) ≠ -1 := fun e => q (Or.inr e)
        have lt := and_lt q1
        rcases hg _ lt with e | e
        · exact absurd e q2
        · refine cfI_good hg hs n _ ?_ ?_
          · rw [mx_I]; omega
          · rw [mx_I]; omega
    · exact cfI_good hg hs n w h0 h1
theorem stI_good {S : St} {yr : Int32} {tn : Nat} {cl : Nat → Int32} {set N : Nat} (hg : goodC set cl) (hs : set < 64) (h0 : 0 < set) : ∀ (n : Nat) (cf : Int32 × Int32), (cf.1 = -1 ∨ (1 ≤ cf.1.toInt ∧ cf.1.toInt ≤ set)) → (stI S yr tn cl set N n cf).1 = -1 ∨ (1 ≤ (stI S yr tn cl set N n cf).1.toInt ∧ (stI S yr tn cl set N n cf).1.toInt ≤ set)
  | 0, cf, h => h
  | n + 1, cf, h => by
    unfold stI
    refine stI_good hg hs h0 n _ ?_
    unfold stU
    split
    · exact h
    · rename_i q
      split
      · rcases cfI_good (A := alN S yr tn (N - (n + 1))) hg hs 6 0 (by rw [li_0]; omega) (by rw [li_0]; omega) with e | e
        · exact absurd e q
        · exact Or.inr e
      · exact h
theorem pc2_pos {n : Nat} (h : ¬ pc n < 2) : 0 < n := by
  rcases Nat.eq_zero_or_pos n with e | e
  · rw [e, pc_0] at h; omega
  · exact e
theorem tbC_good (S : St) (yr : Int32) (tn : Nat) : ∀ n, n ≤ 64 → goodC n (tbC S yr tn n)
  | 0, _ => fun s hs => absurd hs (by omega)
  | n + 1, hn => by
    intro s hs
    have ih := tbC_good S yr tn n (by omega)
    unfold tbC
    by_cases e : s = n
    · rw [if_pos e]
      unfold stN
      split
      · right
        show 0 ≤ (0 : Int32).toInt ∧ (0 : Int32).toInt ≤ s
        rw [li_0]
        omega
      · rename_i q
        rcases stI_good (S := S) (yr := yr) (tn := tn) (N := bkS (sB S)) ih (by omega) (pc2_pos q) (bkS (sB S)) (-1, -1) (Or.inl rfl) with r | r
        · exact Or.inl r
        · exact Or.inr (by omega)
    · rw [if_neg e]
      exact ih s (by omega)
/-- what the claps from a spot are: told without an order -/
def CFs (A : Nat → Nat) (cl : Nat → Int32) (set : Nat) (v : Int32) : Prop := ((∃ l, l < 6 ∧ set.testBit l = true ∧ (set &&& A l = set ∨ cl (set &&& A l) = -1)) ∧ v = -1) ∨ ((¬ ∃ l, l < 6 ∧ set.testBit l = true ∧ (set &&& A l = set ∨ cl (set &&& A l) = -1)) ∧ ∃ w : Int32, v = w + 1 ∧ 0 ≤ w.toInt ∧ (∀ l, l < 6 → set.testBit l = true → (cl (set &&& A l)).toInt ≤ w.toInt) ∧ (w = 0 ∨ ∃ l, l < 6 ∧ set.testBit l = true ∧ w = cl (set &&& A l)))
theorem CFs_one {A : Nat → Nat} {cl : Nat → Int32} {set : Nat} {v v2 : Int32} (h1 : CFs A cl set v) (h2 : CFs A cl set v2) : v = v2 := by
  rcases h1 with ⟨b1, e1⟩ | ⟨b1, w1, e1, p1, m1, x1⟩
  · rcases h2 with ⟨b2, e2⟩ | ⟨b2, _⟩
    · rw [e1, e2]
    · exact absurd b1 b2
  · rcases h2 with ⟨b2, _⟩ | ⟨b2, w2, e2, p2, m2, x2⟩
    · exact absurd b2 b1
    · have l1 : w1.toInt ≤ w2.toInt := by
        rcases x1 with x | ⟨l, hl, hb, x⟩
        · rw [x, li_0]; exact p2
        · rw [x]; exact m2 l hl hb
      have l2 : w2.toInt ≤ w1.toInt := by
        rcases x2 with x | ⟨l, hl, hb, x⟩
        · rw [x, li_0]; exact p1
        · rw [x]; exact m1 l hl hb
      rw [e1, e2, Int32.toInt_inj.mp (show w1.toInt = w2.toInt by omega)]
theorem cfI_CF {A : Nat → Nat} {cl : Nat → Int32} {set : Nat} : ∀ (n : Nat) (w : Int32), n ≤ 6 → 0 ≤ w.toInt → (¬ ∃ l, l < 6 - n ∧ set.testBit l = true ∧ (set &&& A l = set ∨ cl (set &&& A l) = -1)) → (∀ l, l < 6 - n → set.testBit l = true → (cl (set &&& A l)).toInt ≤ w.toInt) → (w = 0 ∨ ∃ l, l < 6 - n ∧ set.testBit l = true ∧ w = cl (set &&& A l)) → CFs A cl set (cfI A cl set n w)
  | 0, w, hn, h0, hb, hm, hx => Or.inr ⟨fun ⟨l, hl, q⟩ => hb ⟨l, by omega, q⟩, w, rfl, h0, fun l hl => hm l (by omega), hx.imp id (fun ⟨l, hl, q⟩ => ⟨l, by omega, q⟩)⟩
  | n + 1, w, hn, h0, hb, hm, hx => by
    unfold cfI
    split
    · rename_i tb
      split
      · rename_i q
        exact Or.inl ⟨⟨5 - n, by omega, tb, q⟩, rfl⟩
      · rename_i q
        refine cfI_CF n _ (by omega) (by rw [mx_I]; omega) (fun ⟨l, hl, hl2, hq⟩ => ?_) (fun l hl hl2 => ?_) ?_
        · by_cases e : l = 5 - n
          · rw [e] at hq; exact q hq
          · exact hb ⟨l, by omega, hl2, hq⟩
        · rw [mx_I]
          by_cases e : l = 5 - n
          · rw [e]; omega
          · have := hm l (by omega) hl2
            omega
        · unfold mx
          split
          · exact Or.inr ⟨5 - n, by omega, tb, rfl⟩
          · exact hx.imp id (fun ⟨l, hl, q⟩ => ⟨l, by omega, q⟩)
    · rename_i tb
      refine cfI_CF n w (by omega) h0 (fun ⟨l, hl, hl2, hq⟩ => ?_) (fun l hl hl2 => ?_) (hx.imp id (fun ⟨l, hl, q⟩ => ⟨l, by omega, q⟩))
      · by_cases e : l = 5 - n
        · rw [e] at hl2; exact tb hl2
        · exact hb ⟨l, by omega, hl2, hq⟩
      · by_cases e : l = 5 - n
        · rw [e] at hl2; exact absurd hl2 tb
        · exact hm l (by omega) hl2
theorem cfV_CF {S : St} {yr : Int32} {tn : Nat} {cl : Nat → Int32} {set k : Nat} : CFs (alN S yr tn k) cl set (cfV S yr tn cl set k) :=
  cfI_CF 6 0 (Nat.le_refl _) (by rw [li_0]; omega) (fun ⟨l, hl, _⟩ => absurd hl (by omega)) (fun l hl => absurd hl (by omega)) (Or.inl rfl)
section NEXT
variable {G : Gx} {u : Mm}
def cho (z : Nat) : Nat → Nat → Prop := fun a _ => z + 464 ≤ a ∧ a ≤ z + 473
theorem c_keepRow {Q : Mm → Prop} {D : Ld} {z j l tn : Nat} {x y yr : Int32} {L : List Nat} (h : HC0 G u z) (hD : okD D) (hj : j < 7) (hC : CL u (lnd z j) D) (hl : l < 6) (hx : btw 0 40 x) (hy : btw 0 40 y) (ec : EC D 0 x y yr tn (z + 452) L u) (nd : L.Nodup) (mem : ∀ k, k ∈ L ↔ k < 80 ∧ stE D 0 x y yr tn k ≠ -1) (len : L.length ≤ 16) (hQ : ∀ u', Fx (fun a i => inR (z + 452) a i ∨ (a = z + 470 ∧ i = l) ∨ a = z + 464 + l) u u' → (mLs D 0 x y yr tn (hE D) (aI D) 80).length ≤ 16 → gI u' (z + 470) l = nI (mLs D 0 x y yr tn (hE D) (aI D) 80).length → Rw u' (z + 464 + l) 0 (mLs D 0 x y yr tn (hE D) (aI D) 80) → Q u') : V_X2_keepRow G (z + 462) (nI l) (z + 452) (lnd z j) u Q := by
  have ql := lnd_bd (z := z) hj
  obtain ⟨_, k0, k2, ⟨k3, k4, k5⟩, k6, ⟨k7, k8, k9⟩, _⟩ := h.ch
  obtain ⟨r1, r2, r3⟩ := k6 l hl
  have el : (nI l).toNatClampNeg = l := nI_clamp (by omega)
  unfold V_X2_keepRow
  rw [k9, k7, k8, hC.2.2.2.1, el]
  refine ⟨k2, by omega, (h.lr hj).2.1, h.ec.2.2.1, s_X3_orderHeard hD hx hy h.ec.2 ec (fun k hk => ((mem k).mp hk).2) len (fun u1 f1 g5 rr => ⟨rfl, vp_in_nI hl (by omega), fun u2 e2 => ⟨(hLs D 0 x y yr tn (hE D) L).length + 1, ?_⟩⟩)⟩
  have hl16 := hLs_len D 0 x y yr tn (hE D) L
  have el2 := len_eq (h := hE D) (v := aI D) nd mem
  have er := row_eq hD (h := hE D) hx hy nd mem hD.2.2.2.2.1
  have f2 : Fx (fun a i => inR (z + 452) a i ∨ (a = z + 470 ∧ i = l) ∨ a = z + 464 + l) u u2 := by
    rw [e2]
    exact (f1.mono (fun a i q => Or.inl q)).trans (Fx.put (by omega))
  have y2 : gI u2 (z + 470) l = nI (hLs D 0 x y yr tn (hE D) L).length := by rw [e2, gI_sI, if_pos ⟨rfl, rfl⟩]
  have rr2 : Rw u2 (z + 452 + 5) 0 (hLs D 0 x y yr tn (hE D) L) := rr.same (fun i _ => by rw [e2, gI_sI, if_neg (by omega)])
  clear e2
  suffices go : ∀ (n i : Nat) (w : Mm), i + n = (hLs D 0 x y yr tn (hE D) L).length → Fx (fun a i => inR (z + 452) a i ∨ (a = z + 470 ∧ i = l) ∨ a = z + 464 + l) u w → gI w (z + 470) l = nI (hLs D 0 x y yr tn (hE D) L).length → Rw w (z + 452 + 5) 0 (hLs D 0 x y yr tn (hE D) L) → (∀ t, t < i → gI w (z + 464 + l) t = (srt (mLs D 0 x y yr tn (hE D) (aI D) 80)).getD t 0) → V_X2_keepRow_17 G Q (n + 1) (z + 462) (nI l) (z + 452) (lnd z j) (nI i) w from go _ 0 u2 (Nat.zero_add _) f2 y2 rr2 (fun t ht => absurd ht (by omega))
  intro n
  induction n with
  | zero =>
    intro i w hi f yl r1' hh
    have hi' : i = (hLs D 0 x y yr tn (hE D) L).length := by omega
    have hw := h.fx f
    obtain ⟨_, k0, k2, _, _, ⟨k7, k8, k9⟩, _⟩ := hw.ch
    show V_X2_keepRow_17_B G Q (V_X2_keepRow_17 G Q 0) (z + 462) (nI l) (z + 452) (lnd z j) (nI i) w
    unfold V_X2_keepRow_17_B
    rw [k9, k7, k8, el]
    refine ⟨k2, by omega, rfl, vp_in_nI hl (by omega), fun _ => hQ w f (by omega) (by rw [el2]; exact yl) (fun t ht => ?_), fun c => absurd (by rw [show z + 462 + 8 = z + 470 by omega, yl]; exact nI_le (by omega) (by omega)) c⟩
    rw [Nat.zero_add]
    exact hh t (by omega)
  | succ n ih =>
    intro i w hi f yl r1' hh
    have hw := h.fx f
    obtain ⟨_, k0, k2, ⟨k3, k4, k5⟩, k6, ⟨k7, k8, k9⟩, _⟩ := hw.ch
    obtain ⟨q1, q2, q3⟩ := k6 l hl
    obtain ⟨_, _, _, _, _, _, s1, s2, s3⟩ := hw.ec.2
    have hCw := hC.fx hD f (fun b i q => by unfold inR at q; omega)
    have e4 := r1' i (by omega)
    rw [Nat.zero_add] at e4
    show V_X2_keepRow_17_B G Q (V_X2_keepRow_17 G Q (n + 1)) (z + 462) (nI l) (z + 452) (lnd z j) (nI i) w
    unfold V_X2_keepRow_17_B
    rw [k9, k7, k8, el, k5, k3, k4, q1, q2, q3, s3, s1, s2, nI_clamp (by omega), e4, hCw.2.2.2.2.1]
    have yl2 : gI w (z + 462 + 8) l = nI (hLs D 0 x y yr tn (hE D) L).length := yl
    rw [yl2]
    refine ⟨k2, by omega, rfl, vp_in_nI hl (by omega), fun c => absurd ((nI_leI (by omega) (by omega)).mp c) (by omega), fun _ => ⟨by omega, rfl, vp_in_nI hl (by omega), by omega, hw.ec.2.2.1, by omega, rfl, vp_in_nI (by omega) (by omega), (h.lr hj).2.1, s_X11_byAir hD.2.2.2.2.1 ⟨rfl, vp_in_nI (by omega) (by omega), fun w2 ew2 y3 hy3 => ?_⟩⟩⟩
    have ew2 : w2 = sI w (z + 464 + l) i ((srt (hLs D 0 x y yr tn (hE D) L)).getD i 0 / aI D) := by
      rw [ew2, show z + 462 + 2 + l = z + 464 + l by omega]
    rw [hy3, nI_1]
    refine ih (i + 1) w2 (by omega) (by rw [ew2]; exact f.trans (Fx.put (by omega))) (by rw [ew2, gI_sI, if_neg (by omega)]; exact yl) (r1'.same (fun t _ => by rw [ew2, gI_sI, if_neg (by omega)])) (fun t ht => ?_)
    rw [ew2, gI_sI]
    by_cases q : t = i
    · rw [if_pos ⟨rfl, q⟩, q, er, gd_map (by rw [srt_len]; omega)]
    · rw [if_neg (by omega)]
      exact hh t (by omega)
/-- the rows of all lands at a spot -/
def KRw (z : Nat) (S : St) (yr : Int32) (tn k n : Nat) (u : Mm) : Prop := ∀ l, l < n → (rwN S yr tn k l).length ≤ 16 ∧ gI u (z + 470) l = nI (rwN S yr tn k l).length ∧ ∀ i, i < (rwN S yr tn k l).length → gI u (z + 464 + l) i = (rwN S yr tn k l).getD i 0
theorem lists_iff {M N : List Int32} {f g : Nat → Int32} (hf : ∀ i, i < M.length → f i = M.getD i 0) (hg : ∀ i, i < N.length → g i = N.getD i 0) (hl : M.length = N.length) : (∀ i, i < M.length → f i = g i) ↔ M = N := by
  constructor
  · intro h
    apply List.ext_getElem hl
    intro i q1 q2
    have := h i q1
    rw [hf i q1, hg i q2, gd_get q1, gd_get q2] at this
    exact this
  · intro h i hi
    rw [hf i hi, hg i (by omega), h]
theorem l6_mulr (s : Nat) : nI s * (6 : Int32) = nI (s * 6) := nI_litR 6 s
theorem c_compareRows {Q : Mm → Prop} {z k tn : Nat} {S : St} {yr : Int32} {u0 : Mm} (h : HC0 G u0 z) (hk8 : k < 8) (hK : KRw z S yr tn k 6 u0) (hQ : ∀ u', Fx (fun a i => a = z + 471 ∧ 6 * k ≤ i ∧ i < 6 * k + 6) u0 u' → (∀ l, l < 6 → gI u' (z + 471) (6 * k + l) = nI (alN S yr tn k l)) → Q u') : V_X2_compareRows G (z + 462) (nI k) u0 Q := by
  suffices go : ∀ (n l : Nat) (w : Mm), l + n = 6 → Fx (fun a i => a = z + 471 ∧ 6 * k ≤ i ∧ i < 6 * k + 6) u0 w → (∀ t, t < l → gI w (z + 471) (6 * k + t) = nI (alN S yr tn k t)) → V_X2_compareRows_2 G Q (n + 1) (z + 462) (nI k) (nI l) w from ⟨7, go 6 0 u0 (by omega) Fx.rfl' (fun t ht => absurd ht (by omega))⟩
  intro n
  induction n with
  | zero =>
    intro l w hl f hh
    have hl' : l = 6 := by omega
    subst hl'
    show V_X2_compareRows_2_B G Q (V_X2_compareRows_2 G Q 0) (z + 462) (nI k) (nI 6) w
    unfold V_X2_compareRows_2_B
    exact ⟨fun _ => hQ w f hh, fun c => absurd (nI_le (a := 6) (b := 6) (by omega) (by omega)) c⟩
  | succ n ih =>
    intro l w hl f hh
    have hw := h.fx f
    have hKw : KRw z S yr tn k 6 w := fun t ht => ⟨(hK t ht).1, by rw [f.2 _ _ (by omega)]; exact (hK t ht).2.1, fun i hi => by rw [f.2 _ _ (by omega)]; exact (hK t ht).2.2 i hi⟩
    obtain ⟨_, k0, k2, ⟨k3, k4, k5⟩, k6, ⟨k7, k8, k9⟩, ⟨a7, a8, a9⟩, _⟩ := hw.ch
    show V_X2_compareRows_2_B G Q (V_X2_compareRows_2 G Q (n + 1)) (z + 462) (nI k) (nI l) w
    unfold V_X2_compareRows_2_B
    refine ⟨fun c => absurd ((nI_leI (a := 6) (by omega) (by omega)).mp c) (by omega), fun _ => ?_⟩
    suffices inn : ∀ (r t : Nat), t + r = 6 → V_X2_compareRows_13 G Q (V_X2_compareRows_2 G Q (n + 1)) (r + 1) (z + 462) (nI k) (nI l) (nI (bts (fun j => decide (rwN S yr tn k l = rwN S yr tn k j)) t)) (nI t) w from ⟨7, inn 6 0 (by omega)⟩
    intro r
    induction r with
    | zero =>
      intro t ht
      have ht' : t = 6 := by omega
      subst ht'
      show V_X2_compareRows_13_B G Q (V_X2_compareRows_2 G Q (n + 1)) (V_X2_compareRows_13 G Q (V_X2_compareRows_2 G Q (n + 1)) 0) (z + 462) (nI k) (nI l) (nI (bts (fun j => decide (rwN S yr tn k l = rwN S yr tn k j)) 6)) (nI 6) w
      unfold V_X2_compareRows_13_B
      rw [a9, a7, a8, l6_mulr, nI_add, nI_clamp (by omega)]
      refine ⟨fun _ => ⟨k2, by omega, rfl, vp_in_nI (by omega) (by omega), fun w2 ew2 y hy => ?_⟩, fun c => absurd (nI_le (a := 6) (b := 6) (by omega) (by omega)) c⟩
      have ew2 : w2 = sI w (z + 471) (6 * k + l) (nI (alN S yr tn k l)) := by rw [ew2, Nat.mul_comm k 6]; rfl
      rw [hy, nI_1, ew2]
      refine ih (l + 1) _ (by omega) (f.trans (Fx.put ⟨rfl, by omega, by omega⟩)) (fun t ht => ?_)
      rw [gI_sI]
      by_cases q : t = l
      · rw [if_pos ⟨rfl, by omega⟩, q]
      · rw [if_neg (by omega)]
        exact hh t (by omega)
    | succ r ihr =>
      intro t ht
      have st := ihr (t + 1) (by omega)
      have eb : bts (fun j => decide (rwN S yr tn k l = rwN S yr tn k j)) (t + 1) = bts (fun j => decide (rwN S yr tn k l = rwN S yr tn k j)) t + (if decide (rwN S yr tn k l = rwN S yr tn k t) then 2 ^ t else 0) := rfl
      obtain ⟨l16, ln1, lr⟩ := hKw l (by omega)
      obtain ⟨t16, tn1, tr⟩ := hKw t (by omega)
      obtain ⟨q1, q2, q3⟩ := k6 l (by omega)
      obtain ⟨p1, p2, p3⟩ := k6 t (by omega)
      have ln1' : gI w (z + 462 + 8) l = nI (rwN S yr tn k l).length := ln1
      have tn1' : gI w (z + 462 + 8) t = nI (rwN S yr tn k t).length := tn1
      have no : rwN S yr tn k l ≠ rwN S yr tn k t → V_X2_compareRows_68 G Q (V_X2_compareRows_2 G Q (n + 1)) (V_X2_compareRows_13 G Q (V_X2_compareRows_2 G Q (n + 1)) (r + 1)) (z + 462) (nI k) (nI l) (nI (bts (fun j => decide (rwN S yr tn k l = rwN S yr tn k j)) t)) (nI t) w := by
        intro ne y hy
        rw [eb, decide_eq_false ne] at st
        simp only [Bool.false_eq_true, if_false, Nat.add_zero] at st
        rw [hy, nI_1]
        exact st
      show V_X2_compareRows_13_B G Q (V_X2_compareRows_2 G Q (n + 1)) (V_X2_compareRows_13 G Q (V_X2_compareRows_2 G Q (n + 1)) (r + 1)) (z + 462) (nI k) (nI l) (nI (bts (fun j => decide (rwN S yr tn k l = rwN S yr tn k j)) t)) (nI t) w
      unfold V_X2_compareRows_13_B
      rw [k9, k7, k8, k5, k3, k4, nI_clamp (show l < 2 ^ 31 by omega), nI_clamp (show t < 2 ^ 31 by omega), q1, p1, ln1', tn1']
      refine ⟨fun c => absurd ((nI_leI (a := 6) (by omega) (by omega)).mp c) (by omega), fun _ => ⟨k2, by omega, rfl, vp_in_nI (by omega) (by omega), vp_in_nI (by omega) (by omega), fun c => ?_, fun c => no (fun e => c (by rw [e]))⟩⟩
      have hl2 := nI_inj (by omega) (by omega) c
      have key := lists_iff (M := rwN S yr tn k l) (N := rwN S yr tn k t) (f := gI w (z + 462 + 2 + l)) (g := gI w (z + 462 + 2 + t)) (fun i hi => by rw [show z + 462 + 2 + l = z + 464 + l by omega]; exact lr i hi) (fun i hi => by rw [show z + 462 + 2 + t = z + 464 + t by omega]; exact tr i hi) hl2
      refine ⟨by omega, rfl, vp_in_nI (by omega) (by omega), by omega, vp_in_nI (by omega) (by omega), by omega, s_X11_sameStart q2 p2 (by omega) (by omega) (by omega) (by omega) (fun a => ⟨fun c => absurd c (by decide), fun _ y hy y2 hy2 => ?_⟩) (fun a => ⟨fun _ => no (fun e => a (key.mpr e)), fun c => absurd rfl c⟩)⟩
      rw [eb, decide_eq_true (key.mp a), if_pos rfl] at st
      rw [hy2, nI_1, hy, shl_1 t (by omega), fa_or, bts_or]
      exact st
/-- the tables of the choosing -/
def KAl (z : Nat) (S : St) (yr : Int32) (tn n : Nat) (u : Mm) : Prop := ∀ k, k < n → ∀ l, l < 6 → gI u (z + 471) (6 * k + l) = nI (alN S yr tn k l)
def KTb (z : Nat) (S : St) (yr : Int32) (tn n : Nat) (u : Mm) : Prop := ∀ s, s < n → gI u (z + 472) s = tbC S yr tn n s ∧ gI u (z + 473) s = (stN S yr tn (tbC S yr tn s) s).2
theorem alN_lt (S : St) (yr : Int32) (tn k l : Nat) : alN S yr tn k l < 64 := bts_lt _ 6
theorem c_clapsFrom {Q : Int32 → Mm → Prop} {z k tn set : Nat} {S : St} {yr : Int32} {cl : Nat → Int32} (h : HC0 G u z) (hk8 : k < 8) (hs : set < 64) (hA : ∀ l, l < 6 → gI u (z + 471) (6 * k + l) = nI (alN S yr tn k l)) (hT : ∀ s, s < set → gI u (z + 472) s = cl s) (hQ : Q (cfV S yr tn cl set k) u) : V_X2_clapsFrom G (z + 462) (nI k) (nI set) u Q := by
  obtain ⟨_, k0, k2, _, _, _, ⟨a7, a8, a9⟩, ⟨b7, b8, b9⟩, _⟩ := h.ch
  suffices go : ∀ (n l : Nat) (w : Int32), l + n = 6 → Q (cfI (alN S yr tn k) cl set n w) u → V_X2_clapsFrom_5 G Q (n + 1) (z + 462) (nI k) (nI set) w (nI l) u from ⟨7, go 6 0 0 (by omega) hQ⟩
  intro n
  induction n with
  | zero =>
    intro l w hl hq
    have hl' : l = 6 := by omega
    subst hl'
    show V_X2_clapsFrom_5_B G Q (V_X2_clapsFrom_5 G Q 0) (z + 462) (nI k) (nI set) w (nI 6) u
    unfold V_X2_clapsFrom_5_B
    exact ⟨fun _ => hq, fun c => absurd (nI_le (a := 6) (b := 6) (by omega) (by omega)) c⟩
  | succ n ih =>
    intro l w hl hq
    have hl5 : 5 - n = l := by omega
    unfold cfI at hq
    rw [hl5] at hq
    show V_X2_clapsFrom_5_B G Q (V_X2_clapsFrom_5 G Q (n + 1)) (z + 462) (nI k) (nI set) w (nI l) u
    unfold V_X2_clapsFrom_5_B V_X2_clapsFrom_68
    have hA' : gI u (z + 462 + 9) (k * 6 + l) = nI (alN S yr tn k l) := by rw [Nat.mul_comm k 6]; exact hA l (by omega)
    rw [bit_u (by omega) (by omega), a9, a7, a8, b9, b7, b8, l6_mulr, nI_add, nI_clamp (show k * 6 + l < 2 ^ 31 by omega), hA', fa_and]
    have hand : set &&& alN S yr tn k l ≤ set := Nat.and_le_left
    refine ⟨fun c => absurd ((nI_leI (a := 6) (by omega) (by omega)).mp c) (by omega), fun _ => ⟨fun c y hy => ?_, fun c => ?_⟩⟩
    · have tb : set.testBit l = false := by
        cases q : set.testBit l
        · rfl
        · rw [q] at c; exact absurd c (by decide)
      rw [tb] at hq
      rw [hy, nI_1]
      exact ih (l + 1) w (by omega) hq
    · have tb : set.testBit l = true := by
        cases q : set.testBit l
        · rw [q] at c; exact absurd rfl c
        · rfl
      rw [tb, if_pos rfl] at hq
      refine ⟨k2, by omega, rfl, vp_in_nI (by omega) (by omega), fun x hx => ?_⟩
      subst hx
      refine ⟨fun e => ?_, fun e => ?_⟩
      · have e := nI_inj (by omega) (by omega) e
        rw [if_pos (Or.inl e)] at hq
        exact hq
      · have ne : set &&& alN S yr tn k l ≠ set := fun q => e (by rw [q])
        have lt := and_lt ne
        rw [nI_clamp (by omega)]
        have hT' : gI u (z + 462 + 10) (set &&& alN S yr tn k l) = cl (set &&& alN S yr tn k l) := hT _ lt
        rw [hT']
        refine ⟨by omega, rfl, vp_in_nI (by omega) (by omega), fun e2 => ?_, fun e2 x hx y hy => ?_⟩
        · rw [if_pos (Or.inr e2)] at hq
          exact hq
        · rw [if_neg (fun q => q.elim ne e2)] at hq
          rw [hy, nI_1, hx]
          exact ih (l + 1) _ (by omega) hq
end NEXT
