/-! TICK, IMAGE, RESTORE -/
theorem gdI_l {L M : List Int32} {i : Nat} (h : i < L.length) : (L ++ M).getD i 0 = L.getD i 0 := by
  rw [List.getD_eq_getElem?_getD, List.getD_eq_getElem?_getD, List.getElem?_append_left h]
theorem gdI_r {L : List Int32} {n : Int32} : (L ++ [n]).getD L.length 0 = n := by
  rw [List.getD_eq_getElem?_getD, List.getElem?_append_right (Nat.le_refl _), Nat.sub_self]
  rfl
noncomputable def pick {α : Type} (p : Prop) (a b : α) : α := @ite α p (Classical.propDecidable p) a b
theorem pick_t {α : Type} {p : Prop} {a b : α} (h : p) : pick p a b = a := by unfold pick; exact if_pos h
theorem pick_f {α : Type} {p : Prop} {a b : α} (h : ¬ p) : pick p a b = b := by unfold pick; exact if_neg h
def tkO (B : Bk) (s : Nat) (v : Int32) : Prop := btw 0 9999 v ∧ (bkT B s).length < 12
noncomputable def tkS (S : St) (s : Nat) (v : Int32) : St := pick (tkO (sB S) s v) (setB S (addT (sB S) s v)) (setB S (incR (sB S) 2))
noncomputable def tkV (S : St) (s : Nat) (v : Int32) : Int32 := pick (tkO (sB S) s v) (nI ((bkT (sB S) s).length + 1)) (-1)
theorem addT_ok {B : Bk} {s : Nat} {v : Int32} (h : okB B) (ho : tkO B s v) : okB (addT B s v) := by
  refine ⟨h.1, h.2.1, fun k hk => ?_, h.2.2.2⟩
  obtain ⟨a, b, c, d⟩ := h.2.2.1 k hk
  refine ⟨a, b, c, ?_⟩
  show (if k = s then bkT B s ++ [v] else bkT B k).length ≤ 12
  by_cases q : k = s
  · rw [if_pos q, List.length_append]
    have := ho.2
    show (bkT B s).length + 1 ≤ 12
    omega
  · rw [if_neg q]; exact d
theorem tkS_ok {S : St} {s : Nat} {v : Int32} (hS : okS S) : okS (tkS S s v) := by
  unfold tkS
  by_cases q : tkO (sB S) s v
  · rw [pick_t q]; exact setB_ok hS (addT_ok hS.2.1 q)
  · rw [pick_f q]; exact setB_ok hS (incR_ok hS.2.1)
/-- a call that writes, or throws one way -/
theorem law_t {G : Gx} {u : Mm} {z : Nat} {o : Nat → Nat} {S S' : St} {VC : (Int32 → Mm → Prop) → (String → Mm → Prop) → Prop} {VM : Mm → (Int32 → Mm → Prop) → Prop} {ok : Prop} {val : Int32} {K : Mm → Prop}
    (hR : RC G u z o S) (hM : RM G u (z + 476) S) (hS : okS S) (hS' : okS S') (hz : kd G (z + 516) = 15) (hzl : ln G (z + 516) = 1)
    (hc : ∀ (Q : Int32 → Mm → Prop) (X : String → Mm → Prop), (ok → ∀ u', RC G u' z o S' → Fx (fun a _ => a < z + 476) u u' → Q val u') → (¬ ok → X "java/util/NoSuchElementException" u) → VC Q X)
    (hm : ∀ u1, RM G u1 (z + 476) S → ∀ (Q : Int32 → Mm → Prop), (ok → ∀ u', RM G u' (z + 476) S' → Fx (mbk (z + 476)) u1 u' → gI u' (z + 476) 1 = 0 → Q val u') → (¬ ok → ∀ u' v, Fx (msc (z + 476)) u1 u' → gI u' (z + 476) 1 = 1 → Q v u') → VM u1 Q)
    (hK : ∀ u' S2, okS S2 → RC G u' z o S2 → RM G u' (z + 476) S2 → K u') :
    VC (fun v u1 => kd G (z + 516) = 15 ∧ vp_in 0 (ln G (z + 516)) ∧ ∀ u2 : Mm, u2 = sL u1 (z + 516) (0 : Int32).toNatClampNeg v.toInt64 → kd G (z + 476) = 12 ∧ VM u2 (fun w u3 => V_X12_thrown G (z + 476) u3 (fun t u4 => ((t = (0 : Int32) → (((0 : Int32) = 0 → kd G (z + 516) = 15 ∧ vp_in (0 : Int32) (ln G (z + 516)) ∧ (((lg_cmp (gL u4 (z + 516) (0 : Int32).toNatClampNeg) (w.toInt64)) = 0 → K u4) ∧ (¬ (lg_cmp (gL u4 (z + 516) (0 : Int32).toNatClampNeg) (w.toInt64)) = 0 → False))) ∧ (¬ (0 : Int32) = 0 → K u4))) ∧ (¬ t = (0 : Int32) → False)))))
      (fun E u1 => E = "java/util/NoSuchElementException" ∧ kd G (z + 476) = 12 ∧ VM u1 (fun w u3 => V_X12_thrown G (z + 476) u3 (fun t u4 => ((t = (1 : Int32) → (((1 : Int32) = 0 → kd G (z + 516) = 15 ∧ vp_in (0 : Int32) (ln G (z + 516)) ∧ (((lg_cmp (gL u4 (z + 516) (0 : Int32).toNatClampNeg) (w.toInt64)) = 0 → K u4) ∧ (¬ (lg_cmp (gL u4 (z + 516) (0 : Int32).toNatClampNeg) (w.toInt64)) = 0 → False))) ∧ (¬ (1 : Int32) = 0 → K u4))) ∧ (¬ t = (1 : Int32) → False))))) := by
  have mk : kd G (z + 476) = 12 := hM.1.1.2.1
  refine hc _ _ (fun o1 u1 r1 k1 => ⟨hz, by rw [hzl]; exact vp_01, fun u2 e2 => ⟨mk, ?_⟩⟩) (fun o1 => ⟨rfl, mk, ?_⟩)
  · subst e2
    have hR1 := r1.wL (a := z + 516) (j := (0 : Int32).toNatClampNeg) (v := val.toInt64) hS'
    have hM1 := (hM.kr k1).wL (a := z + 516) (j := (0 : Int32).toNatClampNeg) (v := val.toInt64)
    refine hm _ hM1 _ (fun _ u3 m3 f3 c3 => ⟨mk, fun _ => ⟨fun _ => ⟨hz, by rw [hzl]; exact vp_01, fun _ => hK u3 S' hS' (hR1.kr hS' (f3.mono (fun a j q => by unfold mbk msc at q; omega))) m3, fun c => c ?_⟩, fun c => absurd rfl c⟩, fun c => c c3⟩) (fun n => absurd o1 n)
    have e : gL u3 (z + 516) (0 : Int32).toNatClampNeg = val.toInt64 := by
      show u3.2.2 (z + 516) (0 : Int32).toNatClampNeg = val.toInt64
      rw [f3.1]
      show gL (sL u1 (z + 516) (0 : Int32).toNatClampNeg val.toInt64) (z + 516) (0 : Int32).toNatClampNeg = val.toInt64
      rw [gL_sL, if_pos ⟨rfl, rfl⟩]
    rw [e]
    exact lg_same _
  · exact hm _ hM _ (fun n => absurd n o1) (fun _ u3 v f3 c3 => ⟨mk, fun _ => ⟨fun c => absurd c (by decide), fun _ => hK u3 S hS (hR.ms hS f3) (hM.ms f3)⟩, fun c => c c3⟩)
section TICK
variable {G : Gx} {u : Mm}
theorem c_tick {Q : Int32 → Mm → Prop} {X : String → Mm → Prop} {z : Nat} {o : Nat → Nat} {S : St} {s v : Int32} (hR : RC G u z o S) (hS : okS S) (h1 : inN (bkN (sB S)) s → ∀ u', RC G u' z o (tkS S s.toNatClampNeg v) → Fx (fun a _ => a < z + 476) u u' → Q (tkV S s.toNatClampNeg v) u') (h0 : ¬ inN (bkN (sB S)) s → X "java/util/NoSuchElementException" u) : V_X11_tick G z s v u Q X := by
  obtain ⟨hh, _, _, hB, _⟩ := id hR
  have hk := hS.2.1
  have n20 := hk.1
  refine ⟨hh.k, c_needStation hh hB hk (fun t ht e => ?_) h0⟩
  subst e
  have h1 := h1 ⟨t, ht, rfl⟩
  rw [nI_clamp (by omega)] at h1
  have l12 := (hk.2.2.1 t ht).2.2.2
  obtain ⟨c1, b0, b1, _, _, ⟨r1, r2, r3⟩, _⟩ := hh.bk
  obtain ⟨_, t0, tk, ⟨w1, w2, w3⟩, ⟨v1, v2, v3⟩⟩ := hh.bk.2.2.2.2.2.2.2.2 t (by omega)
  obtain ⟨g1, g2, g3, g4, g5⟩ := id hB
  obtain ⟨s0, s1, s2, s3⟩ := g3 t ht
  have no : ¬ tkO (sB S) t v → V_X11_tick_26 G Q X z u := by
    intro g
    unfold V_X11_tick_26
    rw [c1, r3, r1, r2]
    refine ⟨hh.k, by omega, b1, by omega, rfl, vp_in_nI (n := 2) (by omega) (by omega), fun w hw => ?_⟩
    subst hw
    unfold tkS tkV at h1
    rw [pick_f g, pick_f g] at h1
    have f : Fx (fun a _ => z + 172 ≤ a ∧ a < z + 238) u (sI u (z + 172 + 3) (2 : Int32).toNatClampNeg (gI u (z + 172 + 3) (2 : Int32).toNatClampNeg + 1)) := Fx.put ⟨by omega, by omega⟩
    exact h1 _ (hR.toB hS f (hB.inc hk (k := 2) (by omega))) (f.mono (fun a j q => by omega))
  refine ⟨fun c => no (fun q => ?_), fun c => ⟨fun c2 => no (fun q => ?_), fun c2 => ⟨tk, fun c3 => ?_, fun c3 => no (fun q => ?_)⟩⟩⟩
  · rw [fa_lt, li_0] at c
    have := q.1.1
    omega
  · rw [fa_lt, li_9999] at c2
    have := q.1.2
    omega
  · have hv : btw 0 9999 v := by
      rw [fa_lt, li_0] at c
      rw [fa_lt, li_9999] at c2
      exact ⟨by omega, by omega⟩
    have lt12 : (bkT (sB S) t).length < 12 := by
      rw [s1] at c3
      exact (nI_ltI (b := 12) (by omega) (by omega)).mp c3
    unfold tkS tkV at h1
    rw [pick_t ⟨hv, lt12⟩, pick_t ⟨hv, lt12⟩] at h1
    unfold V_X7_write
    rw [s1, w3, w1, w2, nI_clamp (by omega)]
    refine ⟨tk, fun _ => ⟨by omega, rfl, vp_in_nI lt12 (by omega), fun y1 e1 => ?_⟩, fun c => absurd (nI_lt (b := 12) lt12 (by omega)) c⟩
    have f1 : Fx (fun a j => a = z + 172 + 6 + 3 * t + 1) u y1 := by rw [e1]; exact Fx.put rfl
    have a1 : gI y1 (z + 172 + 6 + 3 * t + 1) (bkT (sB S) t).length = v := by rw [e1, gI_sI, if_pos ⟨rfl, rfl⟩]
    have a2 : ∀ i, i ≠ (bkT (sB S) t).length → gI y1 (z + 172 + 6 + 3 * t + 1) i = gI u (z + 172 + 6 + 3 * t + 1) i := fun i hi => by rw [e1, gI_sI, if_neg (by omega)]
    clear e1
    rw [f1.gR, v3, f1.2 _ 4 (by omega), s1]
    have rr : Rw y1 (z + 172 + 6 + 3 * t + 2) 0 (bkT (sB S) t) := by
      refine (show Rw u (z + 172 + 6 + 3 * t + 2) 0 (bkT (sB S) t) from ?_).same (fun i _ => f1.2 _ _ (by omega))
      rw [show z + 172 + 6 + 3 * t + 2 = z + 172 + 8 + 3 * t by omega]
      exact s3
    refine ⟨by omega, s_X11_insert v1 (by omega) (by omega) rr (fun y2 f2 r2' y3 e3 => ?_)⟩
    rw [f2.2 _ 4 (by omega), f1.2 _ 4 (by omega), s1, nI_1] at e3
    have a3 : gI y3 (z + 172 + 6 + 3 * t) 4 = nI ((bkT (sB S) t).length + 1) := by rw [e3, gI_sI, if_pos ⟨rfl, rfl⟩]
    rw [a3]
    have f3 : Fx (fun a j => a = z + 172 + 6 + 3 * t ∧ j = 4) y2 y3 := by rw [e3]; exact Fx.put ⟨rfl, rfl⟩
    clear e3
    have F : Fx (fun a j => a = z + 172 + 6 + 3 * t ∧ j = 4 ∨ a = z + 172 + 6 + 3 * t + 1 ∨ a = z + 172 + 6 + 3 * t + 2) u y3 := ((f1.mono (fun a j q => by omega)).trans (f2.mono (fun a j q => by omega))).trans (f3.mono (fun a j q => by omega))
    refine h1 _ (hR.toB hS (F.mono (fun a j q => by omega)) ⟨?_, ?_, fun k hk => ?_, fun i hi => ⟨?_, ?_⟩, fun k hk => ?_⟩) (F.mono (fun a j q => by omega))
    · rw [F.2 _ _ (by omega)]; exact g1
    · rw [F.2 _ _ (by omega)]; exact g2
    · have hk' : k < bkN (sB S) := hk
      by_cases q : k = t
      · subst q
        have e : bkT (addT (sB S) k v) k = bkT (sB S) k ++ [v] := if_pos rfl
        rw [e]
        refine ⟨fun i hi => ?_, ?_, fun i hi => ?_, ?_⟩
        · rw [F.2 _ _ (by omega)]; exact s0 i hi
        · rw [List.length_append]; exact a3
        · rw [List.length_append] at hi
          rw [show z + 172 + 7 + 3 * k = z + 172 + 6 + 3 * k + 1 by omega, f3.2 _ _ (by omega), f2.2 _ _ (by omega)]
          have hi2 : i < (bkT (sB S) k).length + 1 := hi
          by_cases q : i = (bkT (sB S) k).length
          · rw [q, a1, gdI_r]
          · rw [a2 i q, gdI_l (by omega), show z + 172 + 6 + 3 * k + 1 = z + 172 + 7 + 3 * k by omega]
            exact s2 i (by omega)
        · rw [show z + 172 + 8 + 3 * k = z + 172 + 6 + 3 * k + 2 by omega]
          exact (r2'.perm (List.perm_append_singleton _ _).symm).same (fun i _ => f3.2 _ _ (by omega))
      · have e : bkT (addT (sB S) t v) k = bkT (sB S) k := if_neg q
        rw [e]
        refine ⟨fun i hi => ?_, ?_, fun i hi => ?_, ?_⟩
        · rw [F.2 _ _ (by omega)]; exact (g3 k hk').1 i hi
        · rw [F.2 _ _ (by omega)]; exact (g3 k hk').2.1
        · rw [F.2 _ _ (by omega)]; exact (g3 k hk').2.2.1 i hi
        · exact (g3 k hk').2.2.2.same (fun i _ => F.2 _ _ (by omega))
    · rw [F.2 _ _ (by omega)]; exact (g4 i hi).1
    · rw [F.2 _ _ (by omega)]; exact (g4 i hi).2
    · rw [F.2 _ _ (by omega)]; exact g5 k hk
  · rw [s1] at c3
    exact c3 (nI_lt (b := 12) q.2 (by omega))
theorem l12_mul (s : Nat) : (12 : Int32) * nI s = nI (12 * s) := nI_litM 12 s
theorem mt_loop {Q : Int32 → Mm → Prop} {u0 : Mm} {m s : Nat} {M : List Int32} {v : Int32} (hM : MR G u0 m) (hM3 : MR3 G u0 m) (hs : s < 20) (hl : M.length < 12) (h20 : gI u0 (m + 20) s = nI M.length) (hQ : ∀ u', Fx (fun b j => (b = m + 22 ∧ 12 * s ≤ j ∧ j ≤ 12 * s + M.length) ∨ (b = m + 20 ∧ j = s)) u0 u' → gI u' (m + 20) s = nI (M.length + 1) → Rw u' (m + 22) (12 * s) (v :: M) → Q (nI (M.length + 1)) u') : ∀ (k : Nat) (u : Mm), IN (srt M) v (m + 22) (12 * s) u0 u k → V_X12_tick_72 G Q (k + 1) m (nI s) v (nI (12 * s + k)) u := by
  have m0 := hM.1
  have es : (nI s).toNatClampNeg = s := nI_clamp (by omega)
  have fin : ∀ (k : Nat) (u : Mm), IN (srt M) v (m + 22) (12 * s) u0 u k → (k = 0 ∨ gI u (m + 22) (12 * s + (k - 1)) ≤ v) → V_X12_tick_112 G Q m (nI s) v (nI (12 * s + k)) u := by
    intro k u h hc
    have h2 := h.2.1
    rw [srt_len] at h2
    obtain ⟨_, _, _, _, _, _, ⟨e1, e2, e3⟩, _, ⟨t1, t2, t3⟩, _⟩ := h.1.kMR3 hM3
    unfold V_X12_tick_112
    rw [t3, t1, t2, nI_clamp (show 12 * s + k < 2 ^ 31 by omega)]
    refine ⟨hM.2.1, by omega, rfl, vp_in_nI (by omega) (by omega), fun w hw => ?_⟩
    obtain ⟨f1, f2⟩ := h.fin hc
    rw [← hw] at f1 f2
    rw [f1.gR] at *
    have q3 : gR u0 m 33 = m + 20 := (hM3.2.2.2.2.2.2.1).2.2
    rw [q3, e1, e2, es, f1.2 (m + 20) s (by omega), h20, nI_1]
    refine ⟨by omega, rfl, vp_in_nI (by omega) (by omega), fun w2 hw2 => ?_⟩
    have q4 : gR w2 m 33 = m + 20 := by rw [hw2, gR_sI, f1.gR]; exact q3
    have q5 : gI w2 (m + 20) s = nI (M.length + 1) := by rw [hw2, gI_sI, if_pos ⟨rfl, rfl⟩]
    rw [q4, e1, e2, q5]
    refine ⟨by omega, rfl, vp_in_nI (by omega) (by omega), hQ w2 ?_ q5 (f2.same (fun i hi => ?_))⟩
    · rw [hw2]
      exact (f1.mono (fun b j q => Or.inl (by omega))).trans (Fx.put (Or.inr ⟨rfl, rfl⟩))
    · rw [hw2, gI_sI, if_neg (by omega)]
  intro k
  induction k with
  | zero =>
    intro u h
    show V_X12_tick_72_B G Q (V_X12_tick_72 G Q 0) m (nI s) v (nI (12 * s + 0)) u
    unfold V_X12_tick_72_B
    rw [l12_mul]
    exact ⟨fun _ => fin 0 u h (Or.inl rfl), fun c => absurd (nI_le (by omega) (by omega)) c⟩
  | succ k ih =>
    intro u h
    have h2 := h.2.1
    rw [srt_len] at h2
    obtain ⟨_, _, _, _, _, _, _, _, ⟨t1, t2, t3⟩, _⟩ := h.1.kMR3 hM3
    show V_X12_tick_72_B G Q (V_X12_tick_72 G Q (k + 1)) m (nI s) v (nI (12 * s + (k + 1))) u
    unfold V_X12_tick_72_B
    rw [l12_mul, ← Nat.add_assoc, nI_pred, nI_clamp (show 12 * s + k < 2 ^ 31 by omega), nI_clamp (show 12 * s + k + 1 < 2 ^ 31 by omega), t3, t1, t2]
    refine ⟨fun c => absurd ((nI_leI (by omega) (by omega)).mp c) (by omega), fun _ => ⟨hM.2.1, by omega, rfl, vp_in_nI (by omega) (by omega), fun c => fin (k + 1) u h (Or.inr c), fun c => ⟨vp_in_nI (by omega) (by omega), fun w hw y hy => ?_⟩⟩⟩
    rw [hy, pk_m1, hw]
    have := h.step c
    rw [← Nat.add_assoc] at this
    exact ih _ this
theorem m_tick {Q : Int32 → Mm → Prop} {m : Nat} {S : St} {s v : Int32} (hR : RM G u m S) (hS : okS S) (h1 : inN (bkN (sB S)) s → ∀ u', RM G u' m (tkS S s.toNatClampNeg v) → Fx (mbk m) u u' → gI u' m 1 = 0 → Q (tkV S s.toNatClampNeg v) u') (h0 : ¬ inN (bkN (sB S)) s → ∀ u' v, Fx (msc m) u u' → gI u' m 1 = 1 → Q v u') : V_X12_tick G m s v u Q := by
  have mk : kd G m = 12 := hR.1.1.2.1
  have m0 : 0 < m := hR.1.1.1
  have hk := hS.2.1
  have n20 := hk.1
  refine ⟨mk, fun w hw => ?_⟩
  subst hw
  have hR0 := hR.put (c := 0)
  obtain ⟨hH, _, hB, _⟩ := id hR0
  have F0 : Fx (mbk m) u (sI u m 1 0) := Fx.put (by unfold mbk msc; omega)
  have C0 : gI (sI u m 1 0) m 1 = 0 := gI_code
  obtain ⟨hM, _, ⟨⟨r1, r2, r3⟩, _, _, _, _, _, ⟨e1, e2, e3⟩, ⟨a1, a2, a3⟩, _⟩, _⟩ := id hH
  refine m_isStation mk n20 hB.1 (fun t ht e => ⟨fun c => absurd c (by decide), fun _ => ?_⟩) (fun g => ⟨fun _ => m_fail mk (h0 g _ _ (Fx.code0.code) gI_code), fun c => absurd rfl c⟩)
  subst e
  have h1 := h1 ⟨t, ht, rfl⟩
  have et : (nI t).toNatClampNeg = t := nI_clamp (by omega)
  rw [et] at h1
  have l12 := (hk.2.2.1 t ht).2.2.2
  obtain ⟨g1, g2, g3, g4, g5⟩ := id hB
  obtain ⟨s0, s1, s2, s3⟩ := g3 t ht
  simp only [Nat.add_assoc, Nat.reduceAdd] at s1
  have no : ¬ tkO (sB S) t v → V_X12_tick_41 G Q m (sI u m 1 0) := by
    intro g
    unfold V_X12_tick_41
    rw [r3, r1, r2]
    refine ⟨mk, by omega, rfl, vp_in_nI (n := 2) (by omega) (by omega), fun w hw => ?_⟩
    subst hw
    unfold tkS tkV at h1
    rw [pick_f g, pick_f g] at h1
    have f : Fx (mbk m) (sI u m 1 0) (sI (sI u m 1 0) (m + 10) (2 : Int32).toNatClampNeg (gI (sI u m 1 0) (m + 10) (2 : Int32).toNatClampNeg + 1)) := Fx.put (by unfold mbk; omega)
    refine h1 _ (hR0.toB f (hB.inc (k := 2) (by omega))) (F0.trans f) ?_
    rw [gI_sI, if_neg (by omega)]
    exact C0
  rw [e3, e1, e2, et, s1]
  refine ⟨by omega, rfl, vp_in_nI (by omega) (by omega), fun c => no (fun q => ?_), fun c => m_isIn (fun a b => ⟨fun c => absurd c (by decide), fun _ => ?_⟩) (fun g => ⟨fun _ => no (fun q => g ?_), fun c => absurd rfl c⟩)⟩
  · have := nI_inj (b := 12) (by omega) (by omega) c
    have := q.2
    omega
  case refine_3 =>
    rw [li_0, li_9999]
    exact q.1
  rw [li_0] at a
  rw [li_9999] at b
  have lt12 : (bkT (sB S) t).length < 12 := by
    rcases Nat.lt_or_ge (bkT (sB S) t).length 12 with q | q
    · exact q
    · exact absurd (show nI (bkT (sB S) t).length = 12 by rw [show (bkT (sB S) t).length = 12 by omega]; rfl) c
  unfold tkS tkV at h1
  rw [pick_t ⟨⟨a, b⟩, lt12⟩, pick_t ⟨⟨a, b⟩, lt12⟩] at h1
  rw [e3, e1, e2, s1]
  refine ⟨by omega, rfl, vp_in_nI (by omega) (by omega), fun k hk2 => ?_⟩
  rw [l12_mul, nI_add] at hk2
  subst hk2
  rw [a3, a1, a2, nI_clamp (by omega)]
  refine ⟨by omega, rfl, vp_in_nI (by omega) (by omega), fun w hw => ⟨(bkT (sB S) t).length + 1, ?_⟩⟩
  have f1 : Fx (fun a j => a = m + 21 ∧ j = 12 * t + (bkT (sB S) t).length) (sI u m 1 0) w := by rw [hw]; exact Fx.put ⟨rfl, rfl⟩
  have x1 : gI w (m + 21) (12 * t + (bkT (sB S) t).length) = v := by rw [hw, gI_sI, if_pos ⟨rfl, rfl⟩]
  clear hw
  have rr : Rw w (m + 22) (12 * t) (bkT (sB S) t) := by
    refine (show Rw (sI u m 1 0) (m + 22) (12 * t) (bkT (sB S) t) from s3).same (fun i _ => f1.2 _ _ (by omega))
  have st := IN.start (v := v) rr
  rw [srt_len] at st
  refine mt_loop (f1.kMR hM) (f1.kMR3 hH.2.2.1) (by omega) lt12 (by rw [f1.2 _ _ (by omega)]; exact s1) (fun w2 f2 x2 r2' => ?_) _ w st
  have F : Fx (fun a j => (a = m + 21 ∧ j = 12 * t + (bkT (sB S) t).length) ∨ (a = m + 22 ∧ 12 * t ≤ j ∧ j ≤ 12 * t + (bkT (sB S) t).length) ∨ (a = m + 20 ∧ j = t)) (sI u m 1 0) w2 := (f1.mono (fun a j q => Or.inl q)).trans (f2.mono (fun a j q => Or.inr q))
  have fM : Fx (mbk m) (sI u m 1 0) w2 := F.mono (fun a j q => by unfold mbk; omega)
  refine h1 _ (hR0.toB fM ⟨?_, ?_, fun k hk => ?_, fun i hi => ⟨?_, ?_⟩, fun k hk => ?_⟩) (F0.trans fM) (by rw [F.2 _ _ (by omega)]; exact C0)
  · rw [F.2 _ _ (by omega)]; exact g1
  · rw [F.2 _ _ (by omega)]; exact g2
  · have hk' : k < bkN (sB S) := hk
    by_cases q : k = t
    · subst q
      have e : bkT (addT (sB S) k v) k = bkT (sB S) k ++ [v] := if_pos rfl
      rw [e]
      refine ⟨fun i hi => ?_, ?_, fun i hi => ?_, ?_⟩
      · rw [F.2 _ _ (by omega)]; exact s0 i hi
      · rw [List.length_append]; exact x2
      · rw [List.length_append] at hi
        have hi2 : i < (bkT (sB S) k).length + 1 := hi
        by_cases q : i = (bkT (sB S) k).length
        · rw [q, gdI_r, f2.2 _ _ (by omega)]
          exact x1
        · rw [gdI_l (by omega), F.2 _ _ (by omega)]
          exact s2 i (by omega)
      · exact r2'.perm (List.perm_append_singleton _ _).symm
    · have e : bkT (addT (sB S) t v) k = bkT (sB S) k := if_neg q
      rw [e]
      have kl := (hS.2.1.2.2.1 k hk').2.2.2
      refine ⟨fun i hi => ?_, ?_, fun i hi => ?_, ?_⟩
      · rw [F.2 _ _ (by omega)]; exact (g3 k hk').1 i hi
      · rw [F.2 _ _ (by omega)]; exact (g3 k hk').2.1
      · rw [F.2 _ _ (by omega)]; exact (g3 k hk').2.2.1 i hi
      · exact (g3 k hk').2.2.2.same (fun i _ => F.2 _ _ (by omega))
  · rw [F.2 _ _ (by omega)]; exact (g4 i hi).1
  · rw [F.2 _ _ (by omega)]; exact (g4 i hi).2
  · rw [F.2 _ _ (by omega)]; exact g5 k hk
end TICK
