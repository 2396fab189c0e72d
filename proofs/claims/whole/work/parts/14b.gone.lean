/-! GONE on both sides -/
def pnB (B : Bk) (yr : Int32) (s : Nat) : Bool := !decide (bkF B s 0 = -1) && decide (bkF B s 2 = yr)
def pnL (B : Bk) (yr : Int32) (n : Nat) : List Nat := (List.range n).filter (pnB B yr)
/-- the stations of that year are picked -/
def PkI (z : Nat) (L : List Nat) (u : Mm) : Prop := gI u (z + 172) 7 = nI L.length ∧ ∀ i, i < L.length → gR u (z + 177) i = z + 172 + 6 + 3 * L.getD i 0
theorem gd_memN {L : List Nat} {i : Nat} (h : i < L.length) : L.getD i 0 ∈ L := gd_mem h
theorem pnL_mem {B : Bk} {yr : Int32} {n s : Nat} (h : s ∈ pnL B yr n) : s < n ∧ bkF B s 0 ≠ -1 ∧ bkF B s 2 = yr := by
  unfold pnL at h
  obtain ⟨h1, h2⟩ := List.mem_filter.mp h
  rw [List.mem_range] at h1
  unfold pnB at h2
  simp only [Bool.and_eq_true, Bool.not_eq_true', decide_eq_false_iff_not, decide_eq_true_eq] at h2
  exact ⟨h1, h2.1, h2.2⟩
theorem pcf_lt : ∀ (k m n : Nat), n < 2 ^ m → pcf k n ≤ m
  | 0, m, n, _ => Nat.zero_le _
  | k + 1, 0, n, h => by
    have h0 : n = 0 := by have : n < 1 := h; omega
    have := pcf_lt k 0 (n / 2) (by rw [h0]; decide)
    show n % 2 + pcf k (n / 2) ≤ 0
    omega
  | k + 1, m + 1, n, h => by
    have := pcf_lt k m (n / 2) (by rw [Nat.pow_succ] at h; omega)
    show n % 2 + pcf k (n / 2) ≤ m + 1
    omega
theorem pc_bound {m n : Nat} (h : n < 2 ^ m) (_ : True) : pc n ≤ m := pcf_lt 14 m n h
section GONE
variable {G : Gx} {u : Mm}
theorem c_pick {Q : Int32 → Mm → Prop} {z : Nat} {B : Bk} {yr : Int32} (h : HC0 G u z) (hB : BC u (z + 172) B) (hk : okB B) (hQ : ∀ u', Kc z u u' → PkI z (pnL B yr (bkN B)) u' → Q (nI (pnL B yr (bkN B)).length) u') : V_X1_pickNamed G (z + 172) yr u Q := by
  have n20 := hk.1
  obtain ⟨_, b0, b1, _, _, _, ⟨b5, b6, b7⟩, ⟨c5, c6, c7⟩, b11⟩ := id h.bk
  refine ⟨b1, fun w hw => ⟨bkN B + 1, ?_⟩⟩
  have k0 : Kc z u w := by
    rw [hw]
    exact ⟨fun a j q => by rw [gI_sI, if_neg (fun c => q (Or.inr c))], fun a j _ => rfl, rfl⟩
  have p0 : PkI z (pnL B yr 0) w := by
    refine ⟨?_, fun i hi => absurd hi (by simp [pnL])⟩
    rw [hw, gI_sI, if_pos ⟨rfl, rfl⟩]
    rfl
  suffices go : ∀ (n s : Nat) (v : Mm), s + n = bkN B → Kc z u v → PkI z (pnL B yr s) v → V_X1_pickNamed_7 G Q (n + 1) (z + 172) yr (nI s) v from go (bkN B) 0 w (by omega) k0 p0
  intro n
  induction n with
  | zero =>
    intro s v hs k p
    have hs' : s = bkN B := by omega
    subst hs'
    show V_X1_pickNamed_7_B G Q (V_X1_pickNamed_7 G Q 0) (z + 172) yr (nI (bkN B)) v
    unfold V_X1_pickNamed_7_B
    rw [k.1 (z + 172) 1 (by unfold csc; omega), hB.1, p.1]
    exact ⟨b1, fun _ => hQ v k p, fun c => absurd (nI_le (Nat.le_refl _) (by omega)) c⟩
  | succ n ih =>
    intro s v hs k p
    have es : pnL B yr (s + 1) = pnL B yr s ++ (if pnB B yr s then [s] else []) := flt_s
    have hlen : (pnL B yr s).length ≤ s := flt_len _ _
    have hsN : s < bkN B := by omega
    obtain ⟨r1, t0, tk, _⟩ := b11 s (by omega)
    have kR : ∀ a j, a ≠ z + 177 → gR v a j = gR u a j := k.2.1
    have f0 : gI v (z + 172 + 6 + 3 * s) 0 = bkF B s 0 := by
      rw [k.1 _ _ (by unfold csc; omega)]
      exact (hB.2.2.1 s hsN).1 0 (by omega)
    have f2 : gI v (z + 172 + 6 + 3 * s) 2 = bkF B s 2 := by
      rw [k.1 _ _ (by unfold csc; omega)]
      exact (hB.2.2.1 s hsN).1 2 (by omega)
    have no : pnB B yr s = false → V_X1_pickNamed_65 G Q (V_X1_pickNamed_7 G Q (n + 1)) (z + 172) yr (nI s) v := by
      intro pb y hy
      rw [hy, nI_1]
      have st := ih (s + 1) v (by omega) k
      rw [es, pb] at st
      simp only [Bool.false_eq_true, if_false, List.append_nil] at st
      exact st p
    show V_X1_pickNamed_7_B G Q (V_X1_pickNamed_7 G Q (n + 1)) (z + 172) yr (nI s) v
    unfold V_X1_pickNamed_7_B V_X7_isNamed
    rw [k.1 (z + 172) 1 (by unfold csc; omega), hB.1, kR (z + 172) 0 (by omega), b7, b5, b6, nI_clamp (by omega), kR (z + 172 + 4) s (by omega), r1, f0]
    have hv : vp_in (nI s) 20 := vp_in_nI (by omega) (by omega)
    refine ⟨b1, fun c => absurd ((nI_leI (by omega) (by omega)).mp c) (by omega), fun _ => ⟨by omega, rfl, hv, by omega, tk, tk, fun e => ⟨fun _ => no ?_, fun c => absurd rfl c⟩, fun e => ⟨fun c => absurd c (by decide), fun _ => ?_⟩⟩⟩
    · unfold pnB
      rw [decide_eq_true e]
      rfl
    rw [kR (z + 172) 0 (by omega), b7, b5, b6, kR (z + 172 + 4) s (by omega), r1, f2, kR (z + 172) 6 (by omega), c7, c5, c6, p.1, nI_clamp (by omega)]
    refine ⟨by omega, rfl, hv, by omega, tk, fun e2 => ?_, fun e2 => no ?_⟩
    · refine ⟨by omega, rfl, vp_in_nI (by omega) (by omega), fun w1 hw1 w2 hw2 y hy => ?_⟩
      have pb : pnB B yr s = true := by
        unfold pnB
        rw [decide_eq_false e, decide_eq_true e2]
        rfl
      have e7 : gI w1 (z + 172) 7 = nI (pnL B yr s).length := by rw [hw1, gI_sR]; exact p.1
      rw [e7, nI_1] at hw2
      rw [hy, nI_1]
      have st := ih (s + 1) w2 (by omega)
      rw [es, if_pos pb] at st
      refine st ⟨fun a j q => ?_, fun a j q => ?_, ?_⟩ ⟨?_, fun i hi => ?_⟩
      · rw [hw2, gI_sI, if_neg (fun c => q (Or.inr c)), hw1, gI_sR]
        exact k.1 a j q
      · rw [hw2, gR_sI, hw1, gR_sR, if_neg (by omega)]
        exact k.2.1 a j q
      · rw [hw2, hw1]
        exact k.2.2
      · rw [hw2, gI_sI, if_pos ⟨rfl, rfl⟩, List.length_append]
        rfl
      · rw [List.length_append] at hi
        have hi' : i < (pnL B yr s).length + 1 := hi
        rw [hw2, gR_sI, hw1, gR_sR]
        by_cases q : i = (pnL B yr s).length
        · rw [if_pos ⟨by omega, q⟩, q, gd_r]
        · rw [if_neg (by omega), gd_l (by omega)]
          exact p.2 i (by omega)
    · unfold pnB
      rw [decide_eq_false e2]
      simp
/-! what must fit -/
def gnF (S : St) (l aw s : Nat) : Bool := fitB (sD S l) aw (bkF (sB S) s 0) (bkF (sB S) s 1) (bkF (sB S) s 2) (tnS (sB S) s) (aI (sD S l)) (bkT (sB S) s)
def gnA (S : St) (l : Nat) (yr : Int32) (aw : Nat) : Bool := (pnL (sB S) yr (bkN (sB S))).all (gnF S l aw)
def gnO (l yr : Int32) : Prop := inN 6 l ∧ btw 0 99 yr
def gnP (S : St) (l : Nat) (yr r : Int32) : Prop := (r = -1 ∧ ∀ aw, subT (nB (sD S l)) (nW (sD S l)) aw → gnA S l yr aw = false) ∨ ∃ aw, subT (nB (sD S l)) (nW (sD S l)) aw ∧ r = nI aw ∧ gnA S l yr aw = true ∧ ∀ a2, subT (nB (sD S l)) (nW (sD S l)) a2 → gnA S l yr a2 = true → pc aw < pc a2 ∨ (pc aw = pc a2 ∧ aw ≤ a2)
theorem gnP_one {S : St} (hS : okS S) {l : Nat} (hl : l < 6) {yr r r2 : Int32} (h1 : gnP S l yr r) (h2 : gnP S l yr r2) : r = r2 := by
  rcases h1 with ⟨e1, a1⟩ | ⟨w1, s1, e1, t1, m1⟩
  · rcases h2 with ⟨e2, a2⟩ | ⟨w2, s2, e2, t2, m2⟩
    · rw [e1, e2]
    · have := a1 w2 s2
      rw [t2] at this
      cases this
  · rcases h2 with ⟨e2, a2⟩ | ⟨w2, s2, e2, t2, m2⟩
    · have := a2 w1 s1
      rw [t1] at this
      cases this
    · have q1 := m1 w2 s2 t2
      have q2 := m2 w1 s1 t1
      rw [e1, e2, show w1 = w2 by omega]
/-- what the search keeps: the scenes of the picked stations -/
def GS (z : Nat) (D : Ld) (B : Bk) (yr : Int32) (L : List Nat) (n : Nat) (u0 v : Mm) : Prop := Fx (cst z) u0 v ∧ ∀ i, i < n → SC D (bkF B (L.getD i 0) 0) (bkF B (L.getD i 0) 1) yr (tnS B (L.getD i 0)) (z + 312 + 7 * i) (nW D) (nB D) v
theorem HC0.sn {z : Nat} (h : HC0 G u z) : gR u z 6 = z + 311 ∧ kd G (z + 311) = 20 ∧ ln G (z + 311) = 20 ∧ ∀ s, s < 20 → gR u (z + 311) s = z + 312 + 7 * s ∧ SR G u (z + 312 + 7 * s) := h.2.2.2.2.2.2.1
/-- one station tried -/
theorem c_misfit {Q : Int32 → Mm → Prop} {K : Nat → Nat → Int32 → Int32 → Int32 → Int32 → Mm → Prop} {z j i aw : Nat} {D : Ld} {B : Bk} {yr : Int32} {L : List Nat} {x3 x4 x5 : Int32} {u0 : Mm} (h : HC0 G u0 z) (hB : BC u0 (z + 172) B) (hk : okB B) (hD : okD D) (hj : j < 7) (hC : CL u0 (lnd z j) D) (hp : PkI z L u0) (hL : L.length ≤ 20) (hm : ∀ s, s ∈ L → s < bkN B ∧ bkF B s 0 ≠ -1 ∧ bkF B s 2 = yr) (ha : aw < 16384) (hi : i < L.length) (hg : GS z D B yr L L.length u0 u) (h1 : ∀ u', fitB D aw (bkF B (L.getD i 0) 0) (bkF B (L.getD i 0) 1) (bkF B (L.getD i 0) 2) (tnS B (L.getD i 0)) (aI D) (bkT B (L.getD i 0)) = true → GS z D B yr L L.length u0 u' → K z (lnd z j) (nI aw) x3 x4 (x5 + 1) u') (h0 : ∀ u', fitB D aw (bkF B (L.getD i 0) 0) (bkF B (L.getD i 0) 1) (bkF B (L.getD i 0) 2) (tnS B (L.getD i 0)) (aI D) (bkT B (L.getD i 0)) = false → GS z D B yr L L.length u0 u' → Q (nI i) u') : V_X11_firstMisfit_33 G Q K z (lnd z j) (nI aw) x3 x4 x5 (nI i) u := by
  obtain ⟨f, sc⟩ := id hg
  have hu := h.fx f
  have hCu := CL_cst hC hD hj f
  have hBu := BC_cst hB hk f
  have ql := lnd_bd (z := z) hj
  obtain ⟨s1, s2, s3, s4⟩ := hu.sn
  obtain ⟨s5, s6⟩ := s4 i (by omega)
  obtain ⟨m1, m2, m3⟩ := hm _ (gd_memN hi)
  obtain ⟨hx, hy⟩ := named_ok hk m1 m2
  obtain ⟨htn, _⟩ := tnS_ok hk m1
  have n20 := hk.1
  unfold V_X11_firstMisfit_33
  rw [hu.ec.1, s1, s2, s3, nI_clamp (by omega), s5]
  refine ⟨h.k, by omega, by omega, rfl, vp_in_nI (by omega) (by omega), by omega, hu.ec.2.2.1, s_X3_gather hD htn hx hy ha (hu.lr hj) hCu s6 hu.ec.2 (by omega) (by omega) (sc i hi) (fun u1 L1 f1 sc1 ec1 nd1 mem1 len1 => ?_)⟩
  have h1' := hu.fx f1
  have F1 : Fx (cst z) u0 u1 := f.trans (f1.mono (fun a j q => by unfold inG inS at q; unfold cst; omega))
  obtain ⟨c1, b0, b1, _, _, _, _, ⟨c5, c6, c7⟩, b11⟩ := id h1'.bk
  have pk : gR u1 (z + 172 + 5) i = z + 172 + 6 + 3 * L.getD i 0 := by rw [F1.gR]; exact hp.2 i hi
  have tk := (b11 (L.getD i 0) (by omega)).2.2.1
  rw [h1'.ec.1, c1, c7, c5, c6, pk]
  refine ⟨by omega, by omega, b1, by omega, rfl, vp_in_nI (by omega) (by omega), by omega, h1'.ec.2.2.1, ?_⟩
  rw [← m3] at ec1 mem1
  refine c_fit h1' (BC_cst hB hk F1) hk m1 hD hj (CL_cst hC hD hj F1) hx hy ec1 nd1 mem1 len1 (fun u2 f2 => ?_)
  have G2 : GS z D B yr L L.length u0 u2 := by
    refine ⟨F1.trans (f2.mono (fun a j q => inR_cst q)), fun k hk => ?_⟩
    by_cases q : k = i
    · subst q
      exact sc1.fx f2 (fun a j q => by unfold inR at q; omega)
    · exact ((sc k hk).fx f1 (fun a j q => by unfold inG inS at q; omega)).fx f2 (fun a j q => by unfold inR at q; omega)
  refine ⟨fun c => ?_, fun c y hy => ?_⟩
  · rw [bI_0] at c
    exact h0 u2 c G2
  · rw [bI_0] at c
    rw [hy]
    exact h1 u2 (Bool.of_not_eq_false c) G2
theorem c_firstMisfit {Q : Int32 → Mm → Prop} {z j aw d : Nat} {D : Ld} {B : Bk} {yr : Int32} {L : List Nat} {u0 : Mm} (h : HC0 G u0 z) (hB : BC u0 (z + 172) B) (hk : okB B) (hD : okD D) (hj : j < 7) (hC : CL u0 (lnd z j) D) (hp : PkI z L u0) (hL : L.length ≤ 20) (hm : ∀ s, s ∈ L → s < bkN B ∧ bkF B s 0 ≠ -1 ∧ bkF B s 2 = yr) (ha : aw < 16384) (hd : d < L.length ∨ d = 0) (hg : GS z D B yr L L.length u0 u) (h1 : ∀ u', (∀ s, s ∈ L → fitB D aw (bkF B s 0) (bkF B s 1) (bkF B s 2) (tnS B s) (aI D) (bkT B s) = true) → GS z D B yr L L.length u0 u' → Q (-1) u') (h0 : ∀ u' i, i < L.length → (¬ ∀ s, s ∈ L → fitB D aw (bkF B s 0) (bkF B s 1) (bkF B s 2) (tnS B s) (aI D) (bkT B s) = true) → GS z D B yr L L.length u0 u' → Q (nI i) u') : V_X11_firstMisfit G z (lnd z j) (nI aw) (nI L.length) (nI d) u Q := by
  suffices go : ∀ (n k : Nat) (v : Mm), k + n = L.length → GS z D B yr L L.length u0 v → (∀ q, q < k → fitB D aw (bkF B (L.getD ((d + q) % L.length) 0) 0) (bkF B (L.getD ((d + q) % L.length) 0) 1) (bkF B (L.getD ((d + q) % L.length) 0) 2) (tnS B (L.getD ((d + q) % L.length) 0)) (aI D) (bkT B (L.getD ((d + q) % L.length) 0)) = true) → V_X11_firstMisfit_3 G Q (n + 1) z (lnd z j) (nI aw) (nI L.length) (nI d) (nI k) v from ⟨L.length + 1, go L.length 0 u (by omega) hg (fun q hq => absurd hq (by omega))⟩
  intro n
  induction n with
  | zero =>
    intro k v hkn g hh
    have hk' : k = L.length := by omega
    subst hk'
    show V_X11_firstMisfit_3_B G Q (V_X11_firstMisfit_3 G Q 0) z (lnd z j) (nI aw) (nI L.length) (nI d) (nI L.length) v
    unfold V_X11_firstMisfit_3_B
    refine ⟨fun _ => h1 v (fun s hs => ?_) g, fun c => absurd (nI_le (Nat.le_refl _) (by omega)) c⟩
    obtain ⟨i, hi, e⟩ := List.getElem_of_mem hs
    have e2 : L.getD i 0 = s := by rw [List.getD_eq_getElem?_getD, List.getElem?_eq_getElem hi]; exact e
    have hdl : d < L.length := by omega
    have := hh ((i + L.length - d) % L.length) (Nat.mod_lt _ (by omega))
    rw [show (d + (i + L.length - d) % L.length) % L.length = i by rw [Nat.add_mod_mod, show d + (i + L.length - d) = i + L.length by omega, Nat.add_mod_right, Nat.mod_eq_of_lt hi], e2] at this
    exact this
  | succ n ih =>
    intro k v hkn g hh
    have hdl : d < L.length := by omega
    have step : ∀ i, i = (d + k) % L.length → V_X11_firstMisfit_33 G Q (V_X11_firstMisfit_3 G Q (n + 1)) z (lnd z j) (nI aw) (nI L.length) (nI d) (nI k) (nI i) v := by
      intro i e
      have hi : i < L.length := by rw [e]; exact Nat.mod_lt _ (by omega)
      refine c_misfit h hB hk hD hj hC hp hL hm ha hi g (fun v2 t g2 => ?_) (fun v2 t g2 => h0 v2 i hi (fun q => ?_) g2)
      · rw [nI_1]
        refine ih (k + 1) v2 (by omega) g2 (fun q hq => ?_)
        by_cases e2 : q = k
        · rw [e2, ← e]; exact t
        · exact hh q (by omega)
      · have := q _ (gd_memN hi)
        rw [t] at this
        cases this
    show V_X11_firstMisfit_3_B G Q (V_X11_firstMisfit_3 G Q (n + 1)) z (lnd z j) (nI aw) (nI L.length) (nI d) (nI k) v
    unfold V_X11_firstMisfit_3_B
    rw [nI_add]
    refine ⟨fun c => absurd ((nI_leI (by omega) (by omega)).mp c) (by omega), fun _ => ⟨fun c => ?_, fun c => ?_⟩⟩
    · have c := (nI_leI (by omega) (by omega)).mp c
      rw [pk_sub c]
      exact step _ (by rw [Nat.mod_eq_sub_mod c, Nat.mod_eq_of_lt (by omega)])
    · have c : ¬ L.length ≤ d + k := fun q => c (nI_le q (by omega))
      exact step _ (by rw [Nat.mod_eq_of_lt (by omega)])
theorem gnA_t {S : St} {l : Nat} {yr : Int32} {aw : Nat} : gnA S l yr aw = true ↔ ∀ s, s ∈ pnL (sB S) yr (bkN (sB S)) → gnF S l aw s = true := by
  unfold gnA
  rw [List.all_eq_true]
theorem c_gone {Q : Int32 → Mm → Prop} {X : String → Mm → Prop} {z : Nat} {o : Nat → Nat} {S : St} {l yr : Int32} (hR : RC G u z o S) (hS : okS S) (h1 : gnO l yr → ∀ u' v, gnP S l.toNatClampNeg yr v → Kc z u u' → Q v u') (h0 : ¬ gnO l yr → ∀ u', Kc z u u' → X "java/util/NoSuchElementException" u') : V_X11_gone G z l yr u Q X := by
  obtain ⟨h, hL, hC, hB, _⟩ := id hR
  have hk := hS.2.1
  have n20 := hk.1
  refine ⟨h.k, c_needLand h hL (fun k hkk e => c_needYear (fun hyr => ?_) (fun g => h0 (fun q => g q.2) _ Kc.rfl')) (fun g => h0 (fun q => g q.1) _ Kc.rfl')⟩
  subst e
  have h1 := h1 ⟨⟨k, hkk, rfl⟩, hyr⟩
  rw [nI_clamp (by omega)] at h1
  rw [h.bk.1]
  refine ⟨by omega, h.bk.2.2.1, c_pick h hB hk (fun u0 k0 p0 => ?_)⟩
  have hR0 := hR.kc hS k0
  obtain ⟨g0, gL, gC, gB, _⟩ := id hR0
  have hj := hL.2.2.1 k (by omega)
  have hD := hS.1 k hkk
  have ql := lnd_bd (z := z) hj
  have hlen : (pnL (sB S) yr (bkN (sB S))).length ≤ bkN (sB S) := flt_len _ _
  have hm : ∀ s, s ∈ pnL (sB S) yr (bkN (sB S)) → s < bkN (sB S) ∧ bkF (sB S) s 0 ≠ -1 ∧ bkF (sB S) s 2 = yr := fun s hs => pnL_mem hs
  have d6 := hD.1
  have d6b := hD.2.1
  have big : 2 ^ (nB (sD S k) + nW (sD S k)) ≤ 4096 := by
    have := Nat.pow_le_pow_right (n := 2) (by omega) (show nB (sD S k) + nW (sD S k) ≤ 12 by omega)
    exact this
  have bigp : 0 < 2 ^ (nB (sD S k) + nW (sD S k)) := Nat.pow_pos (by omega)
  have kl := (g0.lr hj).2.1
  -- the search
  have search : ∀ v, GS z (sD S k) (sB S) yr (pnL (sB S) yr (bkN (sB S))) (pnL (sB S) yr (bkN (sB S))).length u0 v → ∃ n, V_X11_gone_92 G Q X n z (lnd z (o k)) (nI (pnL (sB S) yr (bkN (sB S))).length) (nI (nB (sD S k) + nW (sD S k))) (0 : Int32) (0 : Int32) v := by
    intro v gv
    suffices go : ∀ (n c d : Nat) (v : Mm), c + n = nB (sD S k) + nW (sD S k) + 1 → (d < (pnL (sB S) yr (bkN (sB S))).length ∨ d = 0) → GS z (sD S k) (sB S) yr (pnL (sB S) yr (bkN (sB S))) (pnL (sB S) yr (bkN (sB S))).length u0 v → (∀ s, s < 2 ^ (nB (sD S k) + nW (sD S k)) → pc s < c → gnA S k yr (tbN (nB (sD S k)) s) = false) → V_X11_gone_92 G Q X (n + 1) z (lnd z (o k)) (nI (pnL (sB S) yr (bkN (sB S))).length) (nI (nB (sD S k) + nW (sD S k))) (nI d) (nI c) v from ⟨_, go (nB (sD S k) + nW (sD S k) + 1) 0 0 v (by omega) (Or.inr rfl) gv (fun s _ hc => absurd hc (by omega))⟩
    intro n
    induction n with
    | zero =>
      intro c d v hc hd g hh
      show V_X11_gone_92_B G Q X (V_X11_gone_92 G Q X 0) z (lnd z (o k)) _ (nI (nB (sD S k) + nW (sD S k))) (nI d) (nI c) v
      unfold V_X11_gone_92_B
      refine ⟨fun _ => h1 v (-1) (Or.inl ⟨rfl, fun aw ha => ?_⟩) ⟨fun a j q => ?_, fun a j q => ?_, ?_⟩, fun q => absurd (nI_lt (by omega) (by omega)) q⟩
      · obtain ⟨s, hs, e⟩ := sub_tb d6b d6 ha
        rw [← e]
        refine hh s hs ?_
        have hpc : pc s ≤ nB (sD S k) + nW (sD S k) := by
          exact pc_bound hs trivial
        omega
      · rw [g.1.2 a j (fun q2 => q (Or.inl q2))]; exact k0.1 a j q
      · rw [g.1.gR]; exact k0.2.1 a j q
      · rw [g.1.1]; exact k0.2.2
    | succ n ih =>
      intro c d v hc hd g hh
      show V_X11_gone_92_B G Q X (V_X11_gone_92 G Q X (n + 1)) z (lnd z (o k)) _ (nI (nB (sD S k) + nW (sD S k))) (nI d) (nI c) v
      unfold V_X11_gone_92_B
      refine ⟨fun q => absurd ((nI_ltI (by omega) (by omega)).mp q) (by omega), fun _ => ?_⟩
      suffices inn : ∀ (r s d : Nat) (v : Mm), s + r = 2 ^ (nB (sD S k) + nW (sD S k)) → (d < (pnL (sB S) yr (bkN (sB S))).length ∨ d = 0) → GS z (sD S k) (sB S) yr (pnL (sB S) yr (bkN (sB S))) (pnL (sB S) yr (bkN (sB S))).length u0 v → (∀ t, t < 2 ^ (nB (sD S k) + nW (sD S k)) → (pc t < c ∨ (pc t = c ∧ t < s)) → gnA S k yr (tbN (nB (sD S k)) t) = false) → V_X11_gone_102 G Q X (V_X11_gone_92 G Q X (n + 1)) (r + 1) z (lnd z (o k)) (nI (pnL (sB S) yr (bkN (sB S))).length) (nI (nB (sD S k) + nW (sD S k))) (nI d) (nI c) (nI s) v from ⟨_, inn _ 0 d v (Nat.zero_add _) hd g (fun t ht q => hh t ht (by omega))⟩
      have e1 : shl (1 : Int32) (nI (nB (sD S k) + nW (sD S k))) = nI (2 ^ (nB (sD S k) + nW (sD S k))) := shl_1 _ (by omega)
      intro r
      induction r with
      | zero =>
        intro s d v hs hd g hh
        have hs' : s = 2 ^ (nB (sD S k) + nW (sD S k)) := by omega
        show V_X11_gone_102_B G Q X (V_X11_gone_92 G Q X (n + 1)) (V_X11_gone_102 G Q X (V_X11_gone_92 G Q X (n + 1)) 0) z (lnd z (o k)) _ (nI (nB (sD S k) + nW (sD S k))) (nI d) (nI c) (nI s) v
        unfold V_X11_gone_102_B
        rw [e1]
        refine ⟨fun _ y hy => ?_, fun q => absurd (nI_le (by omega) (by omega)) q⟩
        rw [hy, nI_1]
        exact ih (c + 1) d v (by omega) hd g (fun t ht q => hh t ht (by omega))
      | succ r ihr =>
        intro s d v hs hd g hh
        have hs2 : s < 2 ^ (nB (sD S k) + nW (sD S k)) := by omega
        obtain ⟨tb1, tb2, tb3⟩ := tb_sub d6b d6 hs2
        have hCv := CL_cst (gC k hkk) hD hj g.1
        show V_X11_gone_102_B G Q X (V_X11_gone_92 G Q X (n + 1)) (V_X11_gone_102 G Q X (V_X11_gone_92 G Q X (n + 1)) (r + 1)) z (lnd z (o k)) _ (nI (nB (sD S k) + nW (sD S k))) (nI d) (nI c) (nI s) v
        unfold V_X11_gone_102_B V_X11_gone_154
        rw [e1]
        refine ⟨fun q => absurd ((nI_leI (by omega) (by omega)).mp q) (by omega), fun _ => s_bitCount (by omega) ⟨fun q => ?_, fun q y hy => ?_⟩⟩
        · have q : pc s = c := nI_inj (by have := pc_le s; omega) (by omega) q
          rw [hCv.2.1]
          refine ⟨kl, s_thingBits d6b (by omega) ⟨h.k, c_firstMisfit g0 gB hk hD hj (gC k hkk) p0 (by omega) hm tb3 hd g (fun v2 t g2 => ⟨fun _ => ?_, fun c => absurd rfl c⟩) (fun v2 i hi t g2 => ⟨fun c => absurd c (nI_m1 (by omega)), fun _ y hy => ?_⟩)⟩⟩
          · refine h1 v2 _ (Or.inr ⟨tbN (nB (sD S k)) s, tb1, rfl, gnA_t.mpr t, fun a2 ha2 t2 => ?_⟩) ⟨fun a j q => ?_, fun a j q => ?_, ?_⟩
            · obtain ⟨s2, hs3, e⟩ := sub_tb d6b d6 ha2
              obtain ⟨_, tc2, _⟩ := tb_sub d6b d6 hs3
              rw [← e, tb2, tc2]
              rw [← e] at t2
              rcases Nat.lt_trichotomy (pc s) (pc s2) with w | w | w
              · exact Or.inl w
              · refine Or.inr ⟨w, ?_⟩
                rcases Nat.lt_or_ge s2 s with w2 | w2
                · have := hh s2 hs3 (Or.inr ⟨by omega, w2⟩)
                  rw [t2] at this
                  cases this
                · rcases Nat.eq_or_lt_of_le w2 with w3 | w3
                  · rw [w3]; exact Nat.le_refl _
                  · exact Nat.le_of_lt (tb_mono d6b w3)
              · have := hh s2 hs3 (Or.inl (by omega))
                rw [t2] at this
                cases this
            · rw [g2.1.2 a j (fun q2 => q (Or.inl q2))]; exact k0.1 a j q
            · rw [g2.1.gR]; exact k0.2.1 a j q
            · rw [g2.1.1]; exact k0.2.2
          · rw [hy, nI_1]
            refine ihr (s + 1) i v2 (by omega) (Or.inl hi) g2 (fun t2 ht2 q2 => ?_)
            by_cases w : t2 = s
            · subst w
              cases w3 : gnA S k yr (tbN (nB (sD S k)) t2)
              · rfl
              · exact absurd (gnA_t.mp w3) t
            · exact hh t2 ht2 (by omega)
        · rw [hy, nI_1]
          have q : pc s ≠ c := fun e => q (by rw [e])
          refine ihr (s + 1) d v (by omega) hd g (fun t2 ht2 q2 => hh t2 ht2 ?_)
          by_cases w : t2 = s
          · subst w; omega
          · omega
  -- the scenes
  suffices go : ∀ (n i : Nat) (v : Mm), i + n = (pnL (sB S) yr (bkN (sB S))).length → GS z (sD S k) (sB S) yr (pnL (sB S) yr (bkN (sB S))) i u0 v → V_X11_gone_23 G Q X (n + 1) z yr (lnd z (o k)) (nI (pnL (sB S) yr (bkN (sB S))).length) (nI i) v from ⟨_, go _ 0 u0 (Nat.zero_add _) ⟨Fx.rfl', fun i hi => absurd hi (by omega)⟩⟩
  intro n
  induction n with
  | zero =>
    intro i v hi g
    have hi' : i = (pnL (sB S) yr (bkN (sB S))).length := by omega
    have hCv := CL_cst (gC k hkk) hD hj g.1
    show V_X11_gone_23_B G Q X (V_X11_gone_23 G Q X 0) z yr (lnd z (o k)) (nI (pnL (sB S) yr (bkN (sB S))).length) (nI i) v
    unfold V_X11_gone_23_B
    rw [hCv.1, hCv.2.1, nI_add]
    refine ⟨fun _ => ⟨kl, fun y hy => ?_⟩, fun q => absurd (nI_le (by omega) (by omega)) q⟩
    rw [hy]
    rw [hi'] at g
    exact search v g
  | succ n ih =>
    intro i v hi g
    have hil : i < (pnL (sB S) yr (bkN (sB S))).length := by omega
    have hv := g0.fx g.1
    have hCv := CL_cst (gC k hkk) hD hj g.1
    have hBv := BC_cst gB hk g.1
    obtain ⟨c1, b0, b1, _, _, _, _, ⟨c5, c6, c7⟩, b11⟩ := id hv.bk
    have pk : gR v (z + 172 + 5) i = z + 172 + 6 + 3 * (pnL (sB S) yr (bkN (sB S))).getD i 0 := by rw [g.1.gR]; exact p0.2 i hil
    obtain ⟨m1, m2, m3⟩ := hm _ (gd_memN hil)
    have tk := (b11 ((pnL (sB S) yr (bkN (sB S))).getD i 0) (by omega)).2.2.1
    obtain ⟨s1, s2, s3, s4⟩ := hv.sn
    obtain ⟨s5, s6⟩ := s4 i (by omega)
    obtain ⟨q0, _⟩ := hBv.2.2.1 _ m1
    obtain ⟨htn, etn⟩ := tnS_ok hk m1
    show V_X11_gone_23_B G Q X (V_X11_gone_23 G Q X (n + 1)) z yr (lnd z (o k)) (nI (pnL (sB S) yr (bkN (sB S))).length) (nI i) v
    unfold V_X11_gone_23_B
    rw [c1, c7, c5, c6, nI_clamp (by omega), pk]
    refine ⟨fun q => absurd ((nI_leI (by omega) (by omega)).mp q) (by omega), fun _ => ⟨h.k, by omega, b1, by omega, rfl, vp_in_nI (by omega) (by omega), by omega, fun y hy => ?_⟩⟩
    subst hy
    rw [s1, s2, s3, s5, q0 0 (by omega), q0 1 (by omega), q0 3 (by omega), etn]
    refine ⟨by omega, rfl, vp_in_nI (by omega) (by omega), by omega, tk, s6.2.1, s_X6_look hD (hv.lr hj) hCv s6 (by omega) (fun v2 f2 sc2 y hy => ?_)⟩
    rw [hy, nI_1]
    refine ih (i + 1) v2 (by omega) ⟨g.1.trans (f2.mono (fun a j q => by unfold inS at q; unfold cst; omega)), fun t ht => ?_⟩
    by_cases q : t = i
    · subst q; exact sc2
    · exact (g.2 t (by omega)).fx f2 (fun a j q => by unfold inS at q; omega)
/-! the model -/
theorem m_allFit {Q : Int32 → Mm → Prop} {m l aw : Nat} {S : St} {yr : Int32} (hR : RM G u m S) (hS : okS S) (hl : l < 6) (ha : aw < 2 ^ 31) (hQ : ∀ u', Fx (inT m) u u' → Q (bI (gnA S l yr aw)) u') : V_X12_allFit G m (nI l) (nI aw) yr u Q := by
  have mk : kd G m = 12 := hR.1.1.2.1
  have m0 : 0 < m := hR.1.1.1
  have hk := hS.2.1
  have n20 := hk.1
  have hD := hS.1 l hl
  have el : (nI l).toNatClampNeg = l := nI_clamp (by omega)
  suffices go : ∀ (n s : Nat) (v : Mm), s + n = bkN (sB S) → Fx (inT m) u v → (∀ t, t ∈ pnL (sB S) yr s → gnF S l aw t = true) → V_X12_allFit_3 G Q (n + 1) m (nI l) (nI aw) yr (nI s) v from ⟨_, go (bkN (sB S)) 0 u (by omega) Fx.rfl' (fun t ht => absurd ht (by simp [pnL]))⟩
  intro n
  induction n with
  | zero =>
    intro s v hs f hh
    have hs' : s = bkN (sB S) := by omega
    subst hs'
    obtain ⟨_, _, hB, _⟩ := hR.ms (f.mono (fun a j q => inT_msc q))
    show V_X12_allFit_3_B G Q (V_X12_allFit_3 G Q 0) m (nI l) (nI aw) yr (nI (bkN (sB S))) v
    unfold V_X12_allFit_3_B
    rw [hB.1]
    refine ⟨mk, fun _ => ?_, fun c => absurd (nI_le (Nat.le_refl _) (by omega)) c⟩
    have := hQ v f
    rw [gnA_t.mpr hh] at this
    exact this
  | succ n ih =>
    intro s v hs f hh
    have hsN : s < bkN (sB S) := by omega
    have es : pnL (sB S) yr (s + 1) = pnL (sB S) yr s ++ (if pnB (sB S) yr s then [s] else []) := flt_s
    obtain ⟨hH, hC, hB, _⟩ := hR.ms (f.mono (fun a j q => inT_msc q))
    obtain ⟨⟨_, _, _, _, _, _, ⟨a1, a2, a3⟩, _⟩, _, ⟨_, _, ⟨b1, b2, b3⟩, ⟨c1, c2, c3⟩, ⟨d1, d2, d3⟩, _⟩, _⟩ := id hH
    obtain ⟨g0, _⟩ := hB.2.2.1 s hsN
    have e0 := g0 0 (by omega)
    have e1 := g0 1 (by omega)
    have e2 := g0 2 (by omega)
    simp only [Nat.add_assoc, Nat.reduceAdd] at e0 e1 e2
    have et : (nI s).toNatClampNeg = s := nI_clamp (by omega)
    have hv : vp_in (nI s) 20 := vp_in_nI (by omega) (by omega)
    have no : pnB (sB S) yr s = false → V_X12_allFit_65 G Q (V_X12_allFit_3 G Q (n + 1)) m (nI l) (nI aw) yr (nI s) v := by
      intro pb y hy
      rw [hy, nI_1]
      have st := ih (s + 1) v (by omega) f
      rw [es, pb] at st
      simp only [Bool.false_eq_true, if_false, List.append_nil] at st
      exact st hh
    show V_X12_allFit_3_B G Q (V_X12_allFit_3 G Q (n + 1)) m (nI l) (nI aw) yr (nI s) v
    unfold V_X12_allFit_3_B
    rw [hB.1]
    refine ⟨mk, fun c => absurd ((nI_leI (by omega) (by omega)).mp c) (by omega), fun _ => m_isNamed hH hB hk hsN (fun nm => ⟨fun c => absurd c (by decide), fun _ => ?_⟩) (fun nn => ⟨fun _ => no ?_, fun c => absurd rfl c⟩)⟩
    · rw [d3, d1, d2, et, e2, b3, b1, b2, c3, c1, c2, a3, a1, a2, el, e0, e1, (hC l hl).2.2.2.2.1]
      refine ⟨by omega, rfl, hv, fun ey => ?_, fun ey => no ?_⟩
      · have pb : pnB (sB S) yr s = true := by
          unfold pnB
          rw [decide_eq_false nm, decide_eq_true ey]
          rfl
        obtain ⟨hx, hy⟩ := named_ok hk hsN nm
        refine ⟨by omega, rfl, hv, by omega, rfl, hv, by omega, rfl, vp_in_nI (by omega) (by omega), m_fitsAt hH hB hk hsN hD (by omega) (hC l hl) ha hx hy (aI_ne hD) (fun v2 f2 => ?_)⟩
        have F2 := f.trans f2
        refine ⟨fun c => ?_, fun c y hy => ?_⟩
        · rw [bI_0] at c
          have c' : gnF S l aw s = false := c
          have := hQ v2 F2
          have e : gnA S l yr aw = false := by
            cases w : gnA S l yr aw
            · rfl
            · have hmem : s ∈ pnL (sB S) yr (bkN (sB S)) := List.mem_filter.mpr ⟨List.mem_range.mpr hsN, pb⟩
              have := gnA_t.mp w s hmem
              rw [c'] at this
              cases this
          rw [e] at this
          exact this
        · rw [bI_0] at c
          have c' : gnF S l aw s = true := Bool.of_not_eq_false c
          rw [hy, nI_1]
          have st := ih (s + 1) v2 (by omega) F2
          rw [es, if_pos pb] at st
          refine st (fun t ht => ?_)
          rcases List.mem_append.mp ht with q | q
          · exact hh t q
          · rw [List.mem_singleton] at q
            rw [q]; exact c'
      · unfold pnB
        rw [decide_eq_false ey]
        simp
    · unfold pnB
      rw [decide_eq_true nn]
      rfl
theorem m_gone {Q : Int32 → Mm → Prop} {m : Nat} {S : St} {l yr : Int32} (hR : RM G u m S) (hS : okS S) (h1 : gnO l yr → ∀ u' v, gnP S l.toNatClampNeg yr v → Fx (msc m) u u' → gI u' m 1 = 0 → Q v u') (h0 : ¬ gnO l yr → ∀ u' v, Fx (msc m) u u' → gI u' m 1 = 1 → Q v u') : V_X12_gone G m l yr u Q := by
  have mk : kd G m = 12 := hR.1.1.2.1
  have m0 : 0 < m := hR.1.1.1
  refine ⟨mk, fun w hw => ?_⟩
  subst hw
  have hR0 := hR.put (c := 0)
  obtain ⟨hH, hC, hB, _⟩ := id hR0
  have F0 : Fx (msc m) u (sI u m 1 0) := Fx.code0
  have C0 : gI (sI u m 1 0) m 1 = 0 := gI_code
  have no : ¬ gnO l yr → V_X12_gone_19 G Q m (sI u m 1 0) := fun g => ⟨mk, m_fail mk (h0 g _ _ F0.code gI_code)⟩
  refine m_isLand (fun k hk e => ⟨fun c => absurd c (by decide), fun _ => m_isYear (fun hyr => ⟨fun c => absurd c (by decide), fun _ => ?_⟩) (fun g => ⟨fun _ => no (fun q => g q.2), fun c => absurd rfl c⟩)⟩) (fun g => ⟨fun _ => no (fun q => g q.1), fun c => absurd rfl c⟩)
  subst e
  clear no
  have h1 := h1 ⟨⟨k, hk, rfl⟩, hyr⟩
  have el : (nI k).toNatClampNeg = k := nI_clamp (by omega)
  rw [el] at h1
  have hD := hS.1 k hk
  have d6 := hD.1
  have d6b := hD.2.1
  have alt := allT_lt d6b d6
  obtain ⟨⟨_, _, ⟨a1, a2, a3⟩, ⟨b1, b2, b3⟩, _⟩, _⟩ := id hH
  rw [b3, b1, b2, a3, a1, a2, el, (hC k hk).1, (hC k hk).2.1, all_I d6b d6]
  refine ⟨by omega, rfl, vp_in_nI (by omega) (by omega), by omega, rfl, vp_in_nI (by omega) (by omega), fun y hy => ?_⟩
  subst hy
  have fin : ∀ v, Fx (inT m) (sI u m 1 0) v → Fx (msc m) u v ∧ gI v m 1 = 0 := fun v f => ⟨F0.trans (f.mono (fun a j q => inT_msc q)), by rw [f.2 m 1 (by unfold inT; omega)]; exact C0⟩
  suffices go : ∀ (n c : Nat) (v : Mm), c + n = 17 → Fx (inT m) (sI u m 1 0) v → (∀ a, subT (nB (sD S k)) (nW (sD S k)) a → pc a < c → gnA S k yr a = false) → V_X12_gone_53 G Q (n + 1) m (nI k) yr (nI (allT (nB (sD S k)) (nW (sD S k)))) (nI c) v from ⟨_, go 17 0 _ (by omega) Fx.rfl' (fun a _ q => absurd q (by omega))⟩
  intro n
  induction n with
  | zero =>
    intro c v hc f hh
    have hc' : c = 17 := by omega
    subst hc'
    show V_X12_gone_53_B G Q (V_X12_gone_53 G Q 0) m (nI k) yr _ (nI 17) v
    unfold V_X12_gone_53_B
    refine ⟨fun _ => h1 v (-1) (Or.inl ⟨rfl, fun a ha => hh a ha (by have := pc_le a; omega)⟩) (fin v f).1 (fin v f).2, fun q => absurd (nI_lt (a := 16) (b := 17) (by omega) (by omega)) q⟩
  | succ n ih =>
    intro c v hc f hh
    show V_X12_gone_53_B G Q (V_X12_gone_53 G Q (n + 1)) m (nI k) yr (nI (allT (nB (sD S k)) (nW (sD S k)))) (nI c) v
    unfold V_X12_gone_53_B
    refine ⟨fun q => absurd ((nI_ltI (a := 16) (by omega) (by omega)).mp q) (by omega), fun _ => ?_⟩
    suffices inn : ∀ (r s : Nat) (v : Mm), s + r = allT (nB (sD S k)) (nW (sD S k)) + 1 → Fx (inT m) (sI u m 1 0) v → (∀ a, subT (nB (sD S k)) (nW (sD S k)) a → (pc a < c ∨ (pc a = c ∧ a < s)) → gnA S k yr a = false) → V_X12_gone_63 G Q (V_X12_gone_53 G Q (n + 1)) (r + 1) m (nI k) yr (nI (allT (nB (sD S k)) (nW (sD S k)))) (nI c) (nI s) v from ⟨_, inn _ 0 v (Nat.zero_add _) f (fun a ha q => hh a ha (by omega))⟩
    intro r
    induction r with
    | zero =>
      intro s v hs f hh
      show V_X12_gone_63_B G Q (V_X12_gone_53 G Q (n + 1)) (V_X12_gone_63 G Q (V_X12_gone_53 G Q (n + 1)) 0) m (nI k) yr (nI (allT (nB (sD S k)) (nW (sD S k)))) (nI c) (nI s) v
      unfold V_X12_gone_63_B
      refine ⟨fun _ y hy => ?_, fun q => absurd (nI_lt (by omega) (by omega)) q⟩
      rw [hy, nI_1]
      refine ih (c + 1) v (by omega) f (fun a ha q => hh a ha ?_)
      have := sub_le d6b d6 ha
      omega
    | succ r ihr =>
      intro s v hs f hh
      have skip : (subT (nB (sD S k)) (nW (sD S k)) s → pc s = c → gnA S k yr s = false) → ∀ v, Fx (inT m) (sI u m 1 0) v → V_X12_gone_102 G Q (V_X12_gone_53 G Q (n + 1)) (V_X12_gone_63 G Q (V_X12_gone_53 G Q (n + 1)) (r + 1)) m (nI k) yr (nI (allT (nB (sD S k)) (nW (sD S k)))) (nI c) (nI s) v := by
        intro w v f y hy
        rw [hy, nI_1]
        refine ihr (s + 1) v (by omega) f (fun a ha q => ?_)
        by_cases e : a = s
        · subst e
          rcases q with q | q
          · exact hh a ha (Or.inl q)
          · exact w ha q.1
        · exact hh a ha (by omega)
      show V_X12_gone_63_B G Q (V_X12_gone_53 G Q (n + 1)) (V_X12_gone_63 G Q (V_X12_gone_53 G Q (n + 1)) (r + 1)) m (nI k) yr (nI (allT (nB (sD S k)) (nW (sD S k)))) (nI c) (nI s) v
      unfold V_X12_gone_63_B
      have key := and_cpl (a := s) (b := allT (nB (sD S k)) (nW (sD S k))) (by omega) (by omega)
      rw [sub_and d6b d6] at key
      refine ⟨fun q => absurd ((nI_ltI (by omega) (by omega)).mp q) (by omega), fun _ => ⟨fun q => s_bitsOf (by omega) ⟨fun q2 => ⟨mk, m_allFit (hR0.ms (f.mono (fun a j q => inT_msc q))) hS hk (by omega) (fun v2 f2 => ⟨fun c2 => skip (fun _ _ => by rw [bI_0] at c2; exact c2) v2 (f.trans f2), fun c2 => ?_⟩)⟩, fun q2 => skip (fun _ e => absurd (by rw [e]) q2) v f⟩, fun q => skip (fun e _ => absurd (key.mpr e) q) v f⟩⟩
      have q2 : pc s = c := nI_inj (by have := pc_le s; omega) (by omega) q2
      rw [bI_0] at c2
      obtain ⟨F2, C2⟩ := fin v2 (f.trans f2)
      refine h1 v2 _ (Or.inr ⟨s, key.mp q, rfl, Bool.of_not_eq_false c2, fun a2 ha2 t2 => ?_⟩) F2 C2
      rcases Nat.lt_trichotomy (pc s) (pc a2) with w | w | w
      · exact Or.inl w
      · refine Or.inr ⟨w, ?_⟩
        rcases Nat.lt_or_ge a2 s with w2 | w2
        · have := hh a2 ha2 (Or.inr ⟨by omega, w2⟩)
          rw [t2] at this
          cases this
        · exact w2
      · have := hh a2 ha2 (Or.inl (by omega))
        rw [t2] at this
        cases this
end GONE
