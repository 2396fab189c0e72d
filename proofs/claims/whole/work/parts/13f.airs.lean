/-! AIRS and WHOSE on both sides -/
def arB (S : St) (l s : Nat) (j : Nat) : Bool := ftB S l s (bkF (sB S) s 0) (bkF (sB S) s 1) (nI (50 + j))
def arL (S : St) (l s n : Nat) : List Nat := (List.range n).filter (arB S l s)
def fsN : List Nat → Int32
  | [] => -1
  | a :: _ => nI (50 + a)
def lsN (L : List Nat) : Int32 := match L.getLast? with
  | none => -1
  | some a => nI (50 + a)
theorem fsN_app {L : List Nat} {k : Nat} (h : ∀ a, a ∈ L → a < 1000) : fsN (L ++ [k]) = if fsN L = -1 then nI (50 + k) else fsN L := by
  cases L with
  | nil => rfl
  | cons a t =>
    have : fsN (a :: t) ≠ -1 := nI_m1 (by have := h a (List.mem_cons_self ..); omega)
    rw [if_neg this]
    rfl
theorem lsN_app {L : List Nat} {k : Nat} : lsN (L ++ [k]) = nI (50 + k) := by
  unfold lsN
  rw [List.getLast?_append]
  rfl
def arO (S : St) (l s w : Int32) : Prop := inN 6 l ∧ (inN (bkN (sB S)) s ∧ bkF (sB S) s.toNatClampNeg 0 ≠ -1) ∧ inN 3 w
def arR (L : List Nat) (w : Int32) : Int32 := if w = 0 then nI L.length else if w = 1 then fsN L else lsN L
def arV (S : St) (l s w : Int32) : Int32 := arR (arL S l.toNatClampNeg s.toNatClampNeg 101) w
section AIRS
variable {G : Gx} {u : Mm}
theorem arL_mem {S : St} {l s n a : Nat} (h : a ∈ arL S l s n) (hn : n ≤ 1000) : a < 1000 := by
  unfold arL at h
  have := List.mem_range.mp (List.mem_filter.mp h).1
  omega
theorem c_airs {Q : Int32 → Mm → Prop} {X : String → Mm → Prop} {z : Nat} {o : Nat → Nat} {S : St} {l s w : Int32} (hR : RC G u z o S) (hS : okS S) (h1 : arO S l s w → ∀ u', Fx (cst z) u u' → Q (arV S l s w) u') (h0 : ¬ arO S l s w → ∀ u', Fx (cst z) u u' → X "java/util/NoSuchElementException" u') : V_X11_airs G z l s w u Q X := by
  obtain ⟨h, hL, hC, hB, _⟩ := hR
  have hk := hS.2.1
  have n20 := hk.1
  have R0 : Fx (cst z) u u := Fx.rfl'
  refine ⟨h.k, c_needLand h hL (fun k hkk e => c_needNamed h hB hk (fun t ht e2 nm => ?_) (fun g => h0 (fun q => g q.2.1) _ R0)) (fun g => h0 (fun q => g q.1) _ R0)⟩
  subst e e2
  have el : (nI k).toNatClampNeg = k := nI_clamp (by omega)
  have et : (nI t).toNatClampNeg = t := nI_clamp (by omega)
  have hD := hS.1 k hkk
  have hj := hL.2.2.1 k (by omega)
  obtain ⟨hx, hy⟩ := named_ok hk ht nm
  have l12 := (hk.2.2.1 t ht).2.2.2
  obtain ⟨_, t0, tk, _⟩ := h.bk.2.2.2.2.2.2.2.2 t (by omega)
  obtain ⟨g0, _⟩ := hB.2.2.1 t ht
  obtain ⟨htn, etn⟩ := tnS_ok hk ht
  unfold arV at h1
  rw [el, et] at h1
  refine ⟨fun c => h0 (fun q => ?_) _ R0, fun c => ⟨fun c2 => ?_, fun c2 => h0 (fun q => ?_) _ R0⟩⟩
  · have q := q.2.2
    rw [inN_iff (by omega)] at q
    rw [fa_lt, li_0] at c
    omega
  case refine_3 =>
    have q := q.2.2
    rw [inN_iff (by omega)] at q
    rw [fa_le, li_2] at c2
    omega
  have hw : inN 3 w := (inN_iff (by omega)).mpr (by rw [fa_lt, li_0] at c; rw [fa_le, li_2] at c2; omega)
  have h1 := h1 ⟨⟨k, hkk, rfl⟩, ⟨⟨t, ht, rfl⟩, by rw [et]; exact nm⟩, hw⟩
  rw [h.sc.1, g0 0 (by omega), g0 1 (by omega), g0 2 (by omega), g0 3 (by omega), etn]
  refine ⟨by omega, tk, h.sc.2.2.1, c_scene h hD hj (hC k hkk) hx hy htn (fun u' L f sc ec nd mem len => ?_)⟩
  have h' := h.fx f
  have hC' := CL_cst (hC k hkk) hD hj f
  rw [h'.ec.1, hC'.2.2.2.1]
  refine ⟨by omega, (h.lr hj).2.1, h'.ec.2.2.1, s_X3_orderHeard hD hx hy h'.ec.2 ec (fun k hk => ((mem k).mp hk).2) len (fun u2 f2 g5 r2 => ⟨102, ?_⟩)⟩
  have F : Fx (cst z) u u2 := f.trans (f2.mono (fun a j q => inR_cst q))
  have h2 := h'.fx f2
  have hB2 := BC_cst hB hk F
  obtain ⟨_, _, tk2, _, ⟨w1, w2, w3⟩⟩ := h2.bk.2.2.2.2.2.2.2.2 t (by omega)
  obtain ⟨_, g1, _, g3⟩ := hB2.2.2.1 t ht
  have hl16 := hLs_len (sD S k) 0 (bkF (sB S) t 0) (bkF (sB S) t 1) (bkF (sB S) t 2) (tnS (sB S) t) (hE (sD S k)) L
  have fin : ∀ M, M = arL S k t 101 → V_X11_airs_166 G Q X w (nI M.length) (fsN M) (lsN M) u2 := by
    intro M e
    subst e
    have := h1 u2 F
    unfold arR at this
    unfold V_X11_airs_166
    refine ⟨fun e => ?_, fun e0 => ⟨fun e => ?_, fun e1 => ?_⟩⟩
    · rw [if_pos e] at this
      exact this
    · rw [if_neg e0, if_pos e] at this
      exact this
    · rw [if_neg e0, if_neg e1] at this
      exact this
  have hbt : ∀ v, btw 50 150 v → (mLs (sD S k) 0 (bkF (sB S) t 0) (bkF (sB S) t 1) (bkF (sB S) t 2) (tnS (sB S) t) (hE (sD S k)) v 80).length = (hLs (sD S k) 0 (bkF (sB S) t 0) (bkF (sB S) t 1) (bkF (sB S) t 2) (tnS (sB S) t) (hE (sD S k)) L).length := fun v _ => len_eq nd mem
  by_cases hT : (hLs (sD S k) 0 (bkF (sB S) t 0) (bkF (sB S) t 1) (bkF (sB S) t 2) (tnS (sB S) t) (hE (sD S k)) L).length = (bkT (sB S) t).length
  · suffices go : ∀ (n p : Nat), p + n = 101 → V_X11_airs_103 G Q X (n + 1) z w (z + 172 + 6 + 3 * t) (nI (hLs (sD S k) 0 (bkF (sB S) t 0) (bkF (sB S) t 1) (bkF (sB S) t 2) (tnS (sB S) t) (hE (sD S k)) L).length) (nI (arL S k t p).length) (fsN (arL S k t p)) (lsN (arL S k t p)) (nI (50 + p)) u2 from go 101 0 (by omega)
    intro n
    induction n with
    | zero =>
      intro p hp
      show V_X11_airs_103_B G Q X (V_X11_airs_103 G Q X 0) z w (z + 172 + 6 + 3 * t) _ (nI (arL S k t p).length) (fsN (arL S k t p)) (lsN (arL S k t p)) (nI (50 + p)) u2
      unfold V_X11_airs_103_B
      have hp' : p = 101 := by omega
      subst hp'
      exact ⟨fun _ => fin _ rfl, fun c => absurd (nI_lt (a := 150) (b := 151) (by omega) (by omega)) c⟩
    | succ n ih =>
      intro p hp
      have es : arL S k t (p + 1) = arL S k t p ++ (if arB S k t p then [p] else []) := flt_s
      have hv : btw 50 150 (nI (50 + p)) := by
        unfold btw
        rw [nI_toInt (by omega)]
        omega
      show V_X11_airs_103_B G Q X (V_X11_airs_103 G Q X (n + 1)) z w (z + 172 + 6 + 3 * t) _ (nI (arL S k t p).length) (fsN (arL S k t p)) (lsN (arL S k t p)) (nI (50 + p)) u2
      unfold V_X11_airs_103_B V_X11_airs_160 V_X11_airs_154 V_X11_airs_160
      rw [h2.ec.1, w3, g1]
      have er := row_eq hD (h := hE (sD S k)) hx hy nd mem hv
      have key : (∀ i, i < (bkT (sB S) t).length → gI u2 (z + 452 + 5) i / nI (50 + p) = gI u2 (z + 172 + 6 + 3 * t + 2) i) ↔ arB S k t p = true := by
        unfold arB ftB fitB
        rw [decide_eq_true_eq, er]
        have e1 : ∀ i, i < (bkT (sB S) t).length → gI u2 (z + 452 + 5) i / nI (50 + p) = (List.map (fun r => r / nI (50 + p)) (srt (hLs (sD S k) 0 (bkF (sB S) t 0) (bkF (sB S) t 1) (bkF (sB S) t 2) (tnS (sB S) t) (hE (sD S k)) L))).getD i 0 := by
          intro i hi
          rw [gd_map (by rw [srt_len]; omega)]
          have := r2 i (by omega)
          rw [Nat.zero_add] at this
          rw [this]
        have e2 : ∀ i, i < (bkT (sB S) t).length → gI u2 (z + 172 + 6 + 3 * t + 2) i = (srt (bkT (sB S) t)).getD i 0 := by
          intro i hi
          have := g3 i hi
          rw [Nat.zero_add] at this
          rw [show z + 172 + 6 + 3 * t + 2 = z + 172 + 8 + 3 * t by omega]
          exact this
        constructor
        · intro hh
          apply List.ext_getElem
          · rw [List.length_map, srt_len, srt_len]; exact hT
          · intro i q1 q2
            have hi : i < (bkT (sB S) t).length := by rw [srt_len] at q2; exact q2
            rw [← gd_get q1, ← gd_get q2, ← e1 i hi, ← e2 i hi]
            exact hh i hi
        · intro hh i hi
          rw [e1 i hi, e2 i hi, hh]
      refine ⟨fun c => ?_, fun _ => ⟨tk, fun _ => ⟨h.k, by omega, by omega, h2.ec.2.2.1, s_X3_rowIs h2.ec.2 hv w1 w2 (H := (bkT (sB S) t).length) (by rw [g5, hT]) l12 (fun a => ⟨fun c => absurd c (by decide), fun _ y hy => ?_⟩) (fun a => ⟨fun _ y hy => ?_, fun c => absurd rfl c⟩)⟩, fun c => absurd (by rw [hT]) c⟩⟩
      · have := (nI_ltI (a := 150) (b := 50 + p) (by omega) (by omega)).mp c
        omega
      · have c' := key.mp a
        have ea := ih (p + 1) (by omega)
        rw [es, if_pos c', List.length_append, fsN_app (fun a ha => arL_mem ha (by omega)), lsN_app] at ea
        refine ⟨fun e y2 hy2 => ?_, fun e y2 hy2 => ?_⟩
        · rw [if_pos e] at ea
          rw [hy, nI_1, hy2, nI_1]
          exact ea
        · rw [if_neg e] at ea
          rw [hy, nI_1, hy2, nI_1]
          exact ea
      · have c' : arB S k t p = false := by
          cases q : arB S k t p
          · rfl
          · exact absurd (key.mpr q) a
        have ea := ih (p + 1) (by omega)
        rw [es, c'] at ea
        simp only [Bool.false_eq_true, if_false, List.append_nil] at ea
        rw [hy, nI_1]
        exact ea
  · have ne : ∀ n, n ≤ 101 → arL S k t n = [] := by
      intro n hn
      unfold arL
      rw [List.filter_eq_nil_iff]
      intro a ha
      rw [List.mem_range] at ha
      unfold arB ftB fitB
      rw [decide_eq_true_eq]
      intro c
      have hv : btw 50 150 (nI (50 + a)) := by
        unfold btw
        rw [nI_toInt (by omega)]
        omega
      have := congrArg List.length c
      rw [srt_len, srt_len, hbt _ hv] at this
      exact hT this
    show V_X11_airs_103_B G Q X (V_X11_airs_103 G Q X 101) z w (z + 172 + 6 + 3 * t) _ (0 : Int32) (-1 : Int32) (-1 : Int32) (50 : Int32) u2
    unfold V_X11_airs_103_B
    rw [g1]
    have f101 := fin [] (ne 101 (by omega)).symm
    exact ⟨fun _ => f101, fun _ => ⟨tk, fun c => absurd (nI_inj (by omega) (by omega) c) hT, fun _ => f101⟩⟩
theorem m_airs {Q : Int32 → Mm → Prop} {m : Nat} {S : St} {l s w : Int32} (hR : RM G u m S) (hS : okS S) (h1 : arO S l s w → ∀ u', Fx (msc m) u u' → gI u' m 1 = 0 → Q (arV S l s w) u') (h0 : ¬ arO S l s w → ∀ u' v, Fx (msc m) u u' → gI u' m 1 = 1 → Q v u') : V_X12_airs G m l s w u Q := by
  have mk : kd G m = 12 := hR.1.1.2.1
  have m0 : 0 < m := hR.1.1.1
  have hk := hS.2.1
  have n20 := hk.1
  refine ⟨mk, fun y hy => ?_⟩
  subst hy
  have hR0 := hR.put (c := 0)
  obtain ⟨hH, hC, hB, _⟩ := id hR0
  have F0 : Fx (msc m) u (sI u m 1 0) := Fx.code0
  have C0 : gI (sI u m 1 0) m 1 = 0 := gI_code
  have no : ¬ arO S l s w → V_X12_airs_37 G Q m (sI u m 1 0) := fun g => ⟨mk, m_fail mk (h0 g _ _ F0.code gI_code)⟩
  refine m_isLand (fun k hkk e => ⟨fun c => absurd c (by decide), fun _ => m_isStation mk n20 hB.1 (fun t ht e2 => ⟨fun c => absurd c (by decide), fun _ => ?_⟩) (fun g => ⟨fun _ => no (fun q => g q.2.1.1), fun c => absurd rfl c⟩)⟩) (fun g => ⟨fun _ => no (fun q => g q.1), fun c => absurd rfl c⟩)
  subst e e2
  have el : (nI k).toNatClampNeg = k := nI_clamp (by omega)
  have et : (nI t).toNatClampNeg = t := nI_clamp (by omega)
  refine m_isNamed hH hB hk ht (fun nm => ⟨fun c => absurd c (by decide), fun _ => m_isIn (fun a b => ⟨fun c => absurd c (by decide), fun _ => ?_⟩) (fun g => ⟨fun _ => no (fun q => g ?_), fun c => absurd rfl c⟩)⟩) (fun nn => ⟨fun _ => no (fun q => q.2.1.2 (by rw [et]; exact nn)), fun c => absurd rfl c⟩)
  case refine_2 =>
    have q := q.2.2
    rw [inN_iff (by omega)] at q
    rw [li_0, li_2]
    omega
  clear no
  unfold arV at h1
  rw [el, et] at h1
  have hD := hS.1 k hkk
  obtain ⟨hx, hy⟩ := named_ok hk ht nm
  have hw : inN 3 w := (inN_iff (by omega)).mpr (by rw [li_0] at a; rw [li_2] at b; omega)
  have h1 := h1 ⟨⟨k, hkk, rfl⟩, ⟨⟨t, ht, rfl⟩, by rw [et]; exact nm⟩, hw⟩
  suffices go : ∀ (n p : Nat) (v : Mm), p + n = 101 → Fx (inT m) (sI u m 1 0) v → V_X12_airs_56 G Q (n + 1) m (nI k) (nI t) w (nI (arL S k t p).length) (fsN (arL S k t p)) (lsN (arL S k t p)) (nI (50 + p)) v from ⟨102, go 101 0 _ (by omega) Fx.rfl'⟩
  intro n
  induction n with
  | zero =>
    intro p v hp f
    have F1 : Fx (msc m) u v := F0.trans (f.mono (fun a j q => inT_msc q))
    have C1 : gI v m 1 = 0 := by rw [f.2 m 1 (by unfold inT; omega)]; exact C0
    show V_X12_airs_56_B G Q (V_X12_airs_56 G Q 0) m (nI k) (nI t) w (nI (arL S k t p).length) (fsN (arL S k t p)) (lsN (arL S k t p)) (nI (50 + p)) v
    unfold V_X12_airs_56_B
    have hp' : p = 101 := by omega
    subst hp'
    have := h1 v F1 C1
    unfold arR at this
    refine ⟨fun _ => ⟨fun e => ?_, fun e0 => ⟨fun e => ?_, fun e1 => ?_⟩⟩, fun c => absurd (nI_lt (a := 150) (b := 151) (by omega) (by omega)) c⟩
    · rw [if_pos e] at this
      exact this
    · rw [if_neg e0, if_pos e] at this
      exact this
    · rw [if_neg e0, if_neg e1] at this
      exact this
  | succ n ih =>
    intro p v hp f
    have es : arL S k t (p + 1) = arL S k t p ++ (if arB S k t p then [p] else []) := flt_s
    obtain ⟨hHv, hCv, hBv, _⟩ := hR0.ms (f.mono (fun a j q => inT_msc q))
    obtain ⟨_, _, ⟨_, _, ⟨b1, b2, b3⟩, ⟨c1, c2, c3⟩, _⟩, _⟩ := id hHv
    obtain ⟨g0, _⟩ := hBv.2.2.1 t ht
    have e0 := g0 0 (by omega)
    have e1 := g0 1 (by omega)
    simp only [Nat.add_assoc, Nat.reduceAdd] at e0 e1
    show V_X12_airs_56_B G Q (V_X12_airs_56 G Q (n + 1)) m (nI k) (nI t) w (nI (arL S k t p).length) (fsN (arL S k t p)) (lsN (arL S k t p)) (nI (50 + p)) v
    unfold V_X12_airs_56_B V_X12_airs_113 V_X12_airs_107 V_X12_airs_113
    rw [b3, b1, b2, c3, c1, c2, et, e0, e1]
    refine ⟨fun c => ?_, fun _ => ⟨mk, by omega, rfl, vp_in_nI (by omega) (by omega), by omega, rfl, vp_in_nI (by omega) (by omega), m_fitsAt (aw := 0) hHv hBv hk ht hD (by omega) (hCv k hkk) (by decide) hx hy (nI_ne0 (by omega) (by omega)) (fun v2 f2 => ?_)⟩⟩
    · have := (nI_ltI (a := 150) (b := 50 + p) (by omega) (by omega)).mp c
      omega
    · have ea := ih (p + 1) v2 (by omega) (f.trans f2)
      refine ⟨fun c y hy => ?_, fun c y hy => ?_⟩
      · rw [bI_0] at c
        have c' : arB S k t p = false := c
        rw [es, c'] at ea
        simp only [Bool.false_eq_true, if_false, List.append_nil] at ea
        rw [hy, nI_1]
        exact ea
      · have c' : arB S k t p = true := by
          rw [bI_0] at c
          exact Bool.of_not_eq_false c
        rw [es, if_pos c', List.length_append, fsN_app (fun a ha => arL_mem ha (by omega)), lsN_app] at ea
        refine ⟨fun e y2 hy2 => ?_, fun e y2 hy2 => ?_⟩
        · rw [if_pos e] at ea
          rw [hy, nI_1, hy2, nI_1]
          exact ea
        · rw [if_neg e] at ea
          rw [hy, nI_1, hy2, nI_1]
          exact ea
/-! whose -/
def wsO (S : St) (l s i w : Int32) : Prop := inN 6 l ∧ (inN (bkN (sB S)) s ∧ bkF (sB S) s.toNatClampNeg 0 ≠ -1) ∧ inN (bkT (sB S) s.toNatClampNeg).length i ∧ inN 2 w
def wsP (S : St) (l s i w v : Int32) : Prop := if w = 0 then v = nI (hitN (sD S l.toNatClampNeg) 0 (bkF (sB S) s.toNatClampNeg 0) (bkF (sB S) s.toNatClampNeg 1) (bkF (sB S) s.toNatClampNeg 2) (tnS (sB S) s.toNatClampNeg) ((bkT (sB S) s.toNatClampNeg).getD i.toNatClampNeg 0)) else hitL (sD S l.toNatClampNeg) 0 (bkF (sB S) s.toNatClampNeg 0) (bkF (sB S) s.toNatClampNeg 1) (bkF (sB S) s.toNatClampNeg 2) (tnS (sB S) s.toNatClampNeg) ((bkT (sB S) s.toNatClampNeg).getD i.toNatClampNeg 0) v
theorem wsP_one {S : St} {l s i w v v2 : Int32} (h1 : wsP S l s i w v) (h2 : wsP S l s i w v2) : v = v2 := by
  unfold wsP at h1 h2
  by_cases e : w = 0
  · rw [if_pos e] at h1 h2
    rw [h1, h2]
  · rw [if_neg e] at h1 h2
    exact hitL_one h1 h2
theorem c_whose {Q : Int32 → Mm → Prop} {X : String → Mm → Prop} {z : Nat} {o : Nat → Nat} {S : St} {l s i w : Int32} (hR : RC G u z o S) (hS : okS S) (h1 : wsO S l s i w → ∀ u' v, wsP S l s i w v → Fx (cst z) u u' → Q v u') (h0 : ¬ wsO S l s i w → ∀ u', Fx (cst z) u u' → X "java/util/NoSuchElementException" u') : V_X11_whose G z l s i w u Q X := by
  obtain ⟨h, hL, hC, hB, _⟩ := hR
  have hk := hS.2.1
  have n20 := hk.1
  have R0 : Fx (cst z) u u := Fx.rfl'
  refine ⟨h.k, c_needLand h hL (fun k hkk e => c_needNamed h hB hk (fun t ht e2 nm => ?_) (fun g => h0 (fun q => g q.2.1) _ R0)) (fun g => h0 (fun q => g q.1) _ R0)⟩
  subst e e2
  have el : (nI k).toNatClampNeg = k := nI_clamp (by omega)
  have et : (nI t).toNatClampNeg = t := nI_clamp (by omega)
  have hD := hS.1 k hkk
  have hj := hL.2.2.1 k (by omega)
  obtain ⟨hx, hy⟩ := named_ok hk ht nm
  have l12 := (hk.2.2.1 t ht).2.2.2
  obtain ⟨_, t0, tk, _⟩ := h.bk.2.2.2.2.2.2.2.2 t (by omega)
  obtain ⟨g0, _⟩ := hB.2.2.1 t ht
  obtain ⟨htn, etn⟩ := tnS_ok hk ht
  refine c_writtenTick h hB hk ht (fun j hjl e3 => ?_) (fun g => h0 (fun q => g (by have q := q.2.2.1; rw [et] at q; exact q)) _ R0)
  subst e3
  have ej : (nI j).toNatClampNeg = j := nI_clamp (by omega)
  have main : inN 2 w → V_X11_whose_43 G Q X z w (lnd z (o k)) (z + 172 + 6 + 3 * t) ((bkT (sB S) t).getD j 0) u := by
    intro hw
    have h1 := h1 ⟨⟨k, hkk, rfl⟩, ⟨⟨t, ht, rfl⟩, by rw [et]; exact nm⟩, ⟨j, by rw [et]; exact hjl, rfl⟩, hw⟩
    unfold wsP at h1
    rw [el, et, ej] at h1
    unfold V_X11_whose_43
    rw [h.sc.1, g0 0 (by omega), g0 1 (by omega), g0 2 (by omega), g0 3 (by omega), etn]
    refine ⟨h.k, by omega, tk, h.sc.2.2.1, c_scene h hD hj (hC k hkk) hx hy htn (fun u' L f sc ec nd mem len => ?_)⟩
    have h' := h.fx f
    have hC' := CL_cst (hC k hkk) hD hj f
    rw [h'.ec.1]
    refine ⟨fun e => ⟨by omega, h'.ec.2.2.1, s_X3_howManyAt hD hx hy (h'.lr hj) hC' h'.ec.2 ec nd mem len (h1 _ _ (by rw [if_pos e]) f)⟩, fun e => ⟨by omega, h'.ec.2.2.1, s_X3_leastAt hD hx hy (h'.lr hj) hC' h'.ec.2 ec mem len (fun r hr => h1 _ _ (by rw [if_neg e]; exact hr) f)⟩⟩
  refine ⟨fun e => main ⟨0, by omega, e⟩, fun e0 => ⟨fun e => main ⟨1, by omega, e⟩, fun e1 => h0 (fun q => ?_) _ R0⟩⟩
  obtain ⟨n, hn, e⟩ := q.2.2.2
  have : n = 0 ∨ n = 1 := by omega
  rcases this with rfl | rfl
  · exact e0 e
  · exact e1 e
theorem m_whose {Q : Int32 → Mm → Prop} {m : Nat} {S : St} {l s i w : Int32} (hR : RM G u m S) (hS : okS S) (h1 : wsO S l s i w → ∀ u' v, wsP S l s i w v → Fx (msc m) u u' → gI u' m 1 = 0 → Q v u') (h0 : ¬ wsO S l s i w → ∀ u' v, Fx (msc m) u u' → gI u' m 1 = 1 → Q v u') : V_X12_whose G m l s i w u Q := by
  have mk : kd G m = 12 := hR.1.1.2.1
  have m0 : 0 < m := hR.1.1.1
  have hk := hS.2.1
  have n20 := hk.1
  refine ⟨mk, fun y hy => ?_⟩
  subst hy
  have hR0 := hR.put (c := 0)
  obtain ⟨hH, hC, hB, _⟩ := id hR0
  have F0 : Fx (msc m) u (sI u m 1 0) := Fx.code0
  have C0 : gI (sI u m 1 0) m 1 = 0 := gI_code
  have no : ¬ wsO S l s i w → V_X12_whose_55 G Q m (sI u m 1 0) := fun g => ⟨mk, m_fail mk (h0 g _ _ F0.code gI_code)⟩
  refine m_isLand (fun k hkk e => ⟨fun c => absurd c (by decide), fun _ => m_isStation mk n20 hB.1 (fun t ht e2 => ⟨fun c => absurd c (by decide), fun _ => ?_⟩) (fun g => ⟨fun _ => no (fun q => g q.2.1.1), fun c => absurd rfl c⟩)⟩) (fun g => ⟨fun _ => no (fun q => g q.1), fun c => absurd rfl c⟩)
  subst e e2
  have el : (nI k).toNatClampNeg = k := nI_clamp (by omega)
  have et : (nI t).toNatClampNeg = t := nI_clamp (by omega)
  have l12 := (hk.2.2.1 t ht).2.2.2
  obtain ⟨hM, hM2, hM3, _⟩ := id hH
  obtain ⟨_, _, ⟨a1, a2, a3⟩, ⟨b1, b2, b3⟩, ⟨y1, y2, y3⟩, ⟨d1, d2, d3⟩, ⟨e1, e2, e3⟩, _⟩ := id hM3
  obtain ⟨g0, g1, g2, _⟩ := hB.2.2.1 t ht
  have f0 := g0 0 (by omega)
  have f1 := g0 1 (by omega)
  have f2 := g0 2 (by omega)
  have f3 := g0 3 (by omega)
  obtain ⟨htn, etn⟩ := tnS_ok hk ht
  rw [etn] at f3
  simp only [Nat.add_assoc, Nat.reduceAdd] at f0 f1 f2 f3 g1 g2
  refine m_isNamed hH hB hk ht (fun nm => ⟨fun c => absurd c (by decide), fun _ => ?_⟩) (fun nn => ⟨fun _ => no (fun q => q.2.1.2 (by rw [et]; exact nn)), fun c => absurd rfl c⟩)
  rw [e3, e1, e2, et, g1]
  refine ⟨by omega, rfl, vp_in_nI (by omega) (by omega), m_isInN (by omega) (fun j hjl e4 => ⟨fun c => absurd c (by decide), fun _ => ⟨fun c => no (fun q => ?_), fun c => ⟨fun c2 => ?_, fun c2 => no (fun q => ?_)⟩⟩⟩) (fun g => ⟨fun _ => no (fun q => g (by have q := q.2.2.1; rw [et] at q; exact q)), fun c => absurd rfl c⟩)⟩
  · have q := q.2.2.2
    rw [inN_iff (by omega)] at q
    rw [fa_lt, li_0] at c
    omega
  case refine_3 =>
    have q := q.2.2.2
    rw [inN_iff (by omega)] at q
    rw [fa_le, li_1] at c2
    omega
  subst e4
  have ej : (nI j).toNatClampNeg = j := nI_clamp (by omega)
  have hw : inN 2 w := (inN_iff (by omega)).mpr (by rw [fa_lt, li_0] at c; rw [fa_le, li_1] at c2; omega)
  have h1 := h1 ⟨⟨k, hkk, rfl⟩, ⟨⟨t, ht, rfl⟩, by rw [et]; exact nm⟩, ⟨j, by rw [et]; exact hjl, rfl⟩, hw⟩
  unfold wsP at h1
  rw [el, et, ej] at h1
  have hD := hS.1 k hkk
  obtain ⟨hx, hy⟩ := named_ok hk ht nm
  rw [a3, a1, a2, b3, b1, b2, y3, y1, y2, d3, d1, d2, f0, f1, f2, f3]
  have hv : vp_in (nI t) 20 := vp_in_nI (by omega) (by omega)
  refine ⟨by omega, rfl, hv, by omega, rfl, hv, by omega, rfl, hv, by omega, rfl, hv, s_X12_tellEchoes (aw := 0) hM hM2 (by omega) hD (hC k hkk) hx hy htn (by decide) (fun u1 k1 t1 => ⟨81, ?_⟩)⟩
  have F1 : Fx (msc m) u u1 := F0.trans (k1.mono (fun a j q => by unfold msc; omega))
  have C1 : gI u1 m 1 = 0 := by rw [k1.2 m 1 (by omega)]; exact C0
  have hR1 := hR0.fx k1 (fun a j q => Or.inl (by unfold msc; omega))
  obtain ⟨⟨hMv, hM2v, hM3v, _⟩, hCv, hBv, _⟩ := id hR1
  have tv := (hBv.2.2.1 t ht).2.2.1 j hjl
  simp only [Nat.add_assoc, Nat.reduceAdd] at tv
  exact wh_loop hD hMv hM2v hM3v (by omega) (by omega) (by omega) (hCv k hkk) t1 hx hy tv (fun e => h1 _ _ (by rw [if_pos e]) F1 C1) (fun e r hr => h1 _ _ (by rw [if_neg e]; exact hr) F1 C1) 80 0 (-1) 79 (by omega) (by decide) (by unfold hitN; omega) (Or.inl ⟨rfl, fun j h1 h2 => absurd h1 (by omega)⟩)
end AIRS
