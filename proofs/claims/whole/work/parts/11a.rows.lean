/-! ROWS in order -/
def srt (M : List Int32) : List Int32 := M.mergeSort (fun a b => decide (a ≤ b))
theorem srt_len (M : List Int32) : (srt M).length = M.length := List.length_mergeSort M
theorem srt_perm (M : List Int32) : (srt M).Perm M := List.mergeSort_perm M _
theorem srt_pw (M : List Int32) : (srt M).Pairwise (fun a b => a ≤ b) := by
  have := List.pairwise_mergeSort (le := fun a b : Int32 => decide (a ≤ b)) (fun a b c h1 h2 => by simp only [decide_eq_true_eq] at *; exact Int32.le_trans h1 h2) (fun a b => by simp only [Bool.or_eq_true, decide_eq_true_eq]; exact Int32.le_total a b) M
  exact this.imp (fun h => by simpa using h)
theorem srt_one {R M : List Int32} (h1 : R.Pairwise (fun a b => a ≤ b)) (h2 : R.Perm M) : R = srt M :=
  List.Perm.eq_of_pairwise (le := fun a b : Int32 => a ≤ b) (fun a b _ _ => Int32.le_antisymm) h1 (srt_pw M) (h2.trans (srt_perm M).symm)
theorem srt_cong {M N : List Int32} (h : M.Perm N) : srt M = srt N := srt_one (srt_pw M) ((srt_perm M).trans h)
theorem srt_map {M : List Int32} {f : Int32 → Int32} (hf : ∀ a b, a ∈ M → b ∈ M → a ≤ b → f a ≤ f b) : (srt M).map f = srt (M.map f) := by
  refine srt_one ?_ ((srt_perm M).map f)
  rw [List.pairwise_map]
  refine (srt_pw M).imp_of_mem (fun ha hb h => hf _ _ ?_ ?_ h)
  · exact (srt_perm M).mem_iff.mp ha
  · exact (srt_perm M).mem_iff.mp hb
theorem gd_map {M : List Int32} {f : Int32 → Int32} {i : Nat} (h : i < M.length) : (M.map f).getD i 0 = f (M.getD i 0) := by
  rw [List.getD_eq_getElem?_getD, List.getD_eq_getElem?_getD, List.getElem?_map, List.getElem?_eq_getElem h]
  rfl
theorem ins_srt {M : List Int32} {v : Int32} {k : Nat} (h1 : ∀ x, x ∈ (srt M).take k → x ≤ v) (h2 : ∀ x, x ∈ (srt M).drop k → v ≤ x) : (srt M).take k ++ v :: (srt M).drop k = srt (v :: M) := by
  have hp := srt_pw M
  have e := List.take_append_drop k (srt M)
  refine srt_one ?_ ?_
  · rw [List.pairwise_append]
    have hp2 := hp
    rw [← e, List.pairwise_append] at hp2
    refine ⟨hp2.1, List.pairwise_cons.mpr ⟨h2, hp2.2.1⟩, fun a ha b hb => ?_⟩
    rcases List.mem_cons.mp hb with hb | hb
    · rw [hb]; exact h1 a ha
    · exact hp2.2.2 a ha b hb
  · refine List.perm_middle.trans (List.Perm.cons v ?_)
    rw [e]
    exact srt_perm M
/-- a row of memory holds numbers in order -/
def Rw (u : Mm) (a o : Nat) (M : List Int32) : Prop := ∀ i, i < M.length → gI u a (o + i) = (srt M).getD i 0
theorem Rw.perm {u : Mm} {a o : Nat} {M N : List Int32} (h : Rw u a o M) (hp : M.Perm N) : Rw u a o N := by
  intro i hi
  rw [← srt_cong hp]
  exact h i (by rw [hp.length_eq]; exact hi)
theorem Rw.same {u v : Mm} {a o : Nat} {M : List Int32} (h : Rw u a o M) (e : ∀ i, i < M.length → gI v a (o + i) = gI u a (o + i)) : Rw v a o M := fun i hi => (e i hi).trans (h i hi)
/-- while a number is put in its place -/
def IN (R : List Int32) (v : Int32) (a o : Nat) (u0 u : Mm) (k : Nat) : Prop := Fx (fun b j => b = a ∧ o ≤ j ∧ j ≤ o + R.length) u0 u ∧ k ≤ R.length ∧ (∀ i, i < k → gI u a (o + i) = R.getD i 0) ∧ ∀ i, k ≤ i → i < R.length → gI u a (o + i + 1) = R.getD i 0 ∧ v ≤ R.getD i 0
theorem IN.start {M : List Int32} {v : Int32} {a o : Nat} {u : Mm} (h : Rw u a o M) : IN (srt M) v a o u u (srt M).length := by
  refine ⟨Fx.rfl', Nat.le_refl _, fun i hi => h i (by rw [srt_len] at hi; exact hi), fun i h1 h2 => absurd h2 (by omega)⟩
theorem IN.step {R : List Int32} {v : Int32} {a o : Nat} {u0 u : Mm} {k : Nat} (h : IN R v a o u0 u (k + 1)) (hc : ¬ gI u a (o + k) ≤ v) : IN R v a o u0 (sI u a (o + (k + 1)) (gI u a (o + k))) k := by
  obtain ⟨h1, h2, h3, h4⟩ := h
  refine ⟨h1.trans (Fx.put ⟨rfl, by omega, by omega⟩), by omega, fun i hi => ?_, fun i q1 q2 => ?_⟩
  · rw [gI_sI, if_neg (by omega)]; exact h3 i (by omega)
  · rw [gI_sI]
    by_cases g : i = k
    · subst g
      rw [if_pos ⟨rfl, by omega⟩, ← h3 i (by omega)]
      exact ⟨rfl, Int32.le_of_lt (Int32.not_le.mp hc)⟩
    · rw [if_neg (by omega)]; exact h4 i (by omega) q2
theorem gd_get {M : List Int32} {i : Nat} (h : i < M.length) : M.getD i 0 = M[i] := by
  rw [List.getD_eq_getElem?_getD, List.getElem?_eq_getElem h]
  rfl
theorem pw_get {R : List Int32} (hp : R.Pairwise (fun a b => a ≤ b)) {i j : Nat} (h : i ≤ j) (hj : j < R.length) : R.getD i 0 ≤ R.getD j 0 := by
  rw [gd_get (by omega), gd_get hj]
  rcases Nat.lt_or_ge i j with q | q
  · exact List.pairwise_iff_getElem.mp hp i j (by omega) hj q
  · have : i = j := by omega
    subst this
    exact Int32.le_refl _
theorem IN.fin {M : List Int32} {v : Int32} {a o : Nat} {u0 u : Mm} {k : Nat} (h : IN (srt M) v a o u0 u k) (hc : k = 0 ∨ gI u a (o + (k - 1)) ≤ v) : Fx (fun b j => b = a ∧ o ≤ j ∧ j ≤ o + M.length) u0 (sI u a (o + k) v) ∧ Rw (sI u a (o + k) v) a o (v :: M) := by
  obtain ⟨h1, h2, h3, h4⟩ := h
  have hl := srt_len M
  have hp := srt_pw M
  have t1 : ∀ x, x ∈ (srt M).take k → x ≤ v := by
    intro x hx
    obtain ⟨i, hi, rfl⟩ := List.getElem_of_mem hx
    rw [List.length_take] at hi
    rw [List.getElem_take]
    rcases hc with hc | hc
    · omega
    · rw [h3 (k - 1) (by omega)] at hc
      have := pw_get hp (show i ≤ k - 1 by omega) (by omega)
      rw [gd_get (show i < (srt M).length by omega)] at this
      exact Int32.le_trans this hc
  have t2 : ∀ x, x ∈ (srt M).drop k → v ≤ x := by
    intro x hx
    obtain ⟨i, hi, rfl⟩ := List.getElem_of_mem hx
    rw [List.length_drop] at hi
    rw [List.getElem_drop]
    have := (h4 (k + i) (by omega) (by omega)).2
    rw [gd_get (show k + i < (srt M).length by omega)] at this
    exact this
  have e := ins_srt t1 t2
  refine ⟨h1.mono (fun b j q => by rw [hl] at q; exact q) |>.trans (Fx.put ⟨rfl, by omega, by omega⟩), fun i hi => ?_⟩
  rw [List.length_cons] at hi
  rw [← e, gI_sI, List.getD_eq_getElem?_getD]
  rcases Nat.lt_trichotomy i k with q | q | q
  · rw [if_neg (by omega), h3 i q, List.getElem?_append_left (by rw [List.length_take]; omega), List.getElem?_take_of_lt q, ← List.getD_eq_getElem?_getD]
  · subst q
    rw [if_pos ⟨rfl, rfl⟩, List.getElem?_append_right (by rw [List.length_take]; omega), List.length_take, show i - min i (srt M).length = 0 by omega]
    rfl
  · rw [if_neg (by omega), List.getElem?_append_right (by rw [List.length_take]; omega), List.length_take, show i - min k (srt M).length = (i - 1 - k) + 1 by omega, List.getElem?_cons_succ, List.getElem?_drop, show k + (i - 1 - k) = i - 1 by omega, ← List.getD_eq_getElem?_getD, ← (h4 (i - 1) (by omega) (by omega)).1, show o + (i - 1) + 1 = o + i by omega]
section ROWS
variable {G : Gx}
theorem in_loop {Q : Mm → Prop} {u0 : Mm} {a : Nat} {M : List Int32} {v : Int32} (hk : kd G a = 13) (hl : M.length < ln G a) (hn : ln G a < 2 ^ 31) (hQ : ∀ u', Fx (fun b j => b = a ∧ j ≤ M.length) u0 u' → Rw u' a 0 (v :: M) → Q u') : ∀ (k : Nat) (u : Mm), IN (srt M) v a 0 u0 u k → V_X11_insert_2 G Q (k + 1) a v (nI k) u := by
  have fin : ∀ (k : Nat) (u : Mm), IN (srt M) v a 0 u0 u k → (k = 0 ∨ gI u a (0 + (k - 1)) ≤ v) → V_X11_insert_29 G Q a v (nI k) u := by
    intro k u h hc
    have h2 := h.2.1
    rw [srt_len] at h2
    unfold V_X11_insert_29
    refine ⟨hk, vp_in_nI (by omega) hn, fun w hw => ?_⟩
    obtain ⟨f1, f2⟩ := h.fin hc
    simp only [Nat.zero_add] at f1 f2
    rw [hw, nI_clamp (by omega)]
    exact hQ _ (f1.mono (fun b j q => by omega)) f2
  intro k
  induction k with
  | zero =>
    intro u h
    show V_X11_insert_2_B G Q (V_X11_insert_2 G Q 0) a v (nI 0) u
    unfold V_X11_insert_2_B
    exact ⟨fun _ => fin 0 u h (Or.inl rfl), fun c => absurd (by decide) c⟩
  | succ k ih =>
    intro u h
    have h2 := h.2.1
    rw [srt_len] at h2
    show V_X11_insert_2_B G Q (V_X11_insert_2 G Q (k + 1)) a v (nI (k + 1)) u
    unfold V_X11_insert_2_B
    rw [nI_pred, nI_clamp (show k < 2 ^ 31 by omega), nI_clamp (show k + 1 < 2 ^ 31 by omega)]
    refine ⟨fun c => absurd c (nI_nle (by omega) (by omega)), fun _ => ⟨hk, vp_in_nI (by omega) hn, fun c => fin (k + 1) u h (Or.inr ?_), fun c => ⟨vp_in_nI (by omega) hn, fun w hw z hz => ?_⟩⟩⟩
    · rw [Nat.zero_add]; exact c
    · rw [hz, pk_m1, hw]
      have := h.step (by rw [Nat.zero_add]; exact c)
      rw [Nat.zero_add, Nat.zero_add] at this
      exact ih _ this
theorem s_X11_insert {Q : Mm → Prop} {u : Mm} {a : Nat} {M : List Int32} {v : Int32} (hk : kd G a = 13) (hl : M.length < ln G a) (hn : ln G a < 2 ^ 31) (hR : Rw u a 0 M) (hQ : ∀ u', Fx (fun b j => b = a ∧ j ≤ M.length) u u' → Rw u' a 0 (v :: M) → Q u') : V_X11_insert G a (nI M.length) v u Q := by
  refine ⟨M.length + 1, in_loop hk hl hn hQ M.length u ?_⟩
  have := IN.start (v := v) hR
  rw [srt_len] at this
  exact this
theorem la_loop {Q : Mm → Prop} {u0 : Mm} {m : Nat} {M : List Int32} {v : Int32} (hM : MR G u0 m) (hM2 : MR2 G u0 m) (hl : M.length < 80) (h26 : gI u0 m 26 = nI M.length) (hQ : ∀ u', Fx (fun b j => (b = m ∧ j = 26) ∨ b = m + 14) u0 u' → gI u' m 26 = nI (M.length + 1) → Rw u' (m + 14) 0 (v :: M) → Q u') : ∀ (k : Nat) (u : Mm), IN (srt M) v (m + 14) 0 u0 u k → V_X12_lay_5 G Q (k + 1) m v (nI k) u := by
  have fin : ∀ (k : Nat) (u : Mm), IN (srt M) v (m + 14) 0 u0 u k → (k = 0 ∨ gI u (m + 14) (0 + (k - 1)) ≤ v) → V_X12_lay_41 G Q m v (nI k) u := by
    intro k u h hc
    have h2 := h.2.1
    rw [srt_len] at h2
    obtain ⟨_, _, ⟨s1, s2, s3⟩, _⟩ := h.1.kMR2 hM2
    have m0 := hM.1
    unfold V_X12_lay_41
    rw [s3, s1, s2, nI_clamp (by omega)]
    refine ⟨hM.2.1, by omega, rfl, vp_in_nI (by omega) (by omega), fun w hw w2 hw2 => ?_⟩
    obtain ⟨f1, f2⟩ := h.fin hc
    simp only [Nat.zero_add] at f1 f2
    have e : gI w m 26 = nI M.length := by
      rw [hw, f1.2 m 26 (by omega)]
      exact h26
    rw [e, nI_1, hw] at hw2
    rw [hw2]
    refine hQ _ ((f1.mono (fun b j q => by omega)).trans (Fx.put (Or.inl ⟨rfl, rfl⟩))) ?_ (f2.same (fun i hi => ?_))
    · rw [gI_sI, if_pos ⟨rfl, rfl⟩]
    · rw [gI_sI, if_neg (by omega)]
  intro k
  induction k with
  | zero =>
    intro u h
    show V_X12_lay_5_B G Q (V_X12_lay_5 G Q 0) m v (nI 0) u
    unfold V_X12_lay_5_B
    exact ⟨fun _ => fin 0 u h (Or.inl rfl), fun c => absurd (by decide) c⟩
  | succ k ih =>
    intro u h
    have h2 := h.2.1
    rw [srt_len] at h2
    obtain ⟨_, _, ⟨s1, s2, s3⟩, _⟩ := h.1.kMR2 hM2
    have m0 := hM.1
    show V_X12_lay_5_B G Q (V_X12_lay_5 G Q (k + 1)) m v (nI (k + 1)) u
    unfold V_X12_lay_5_B
    rw [nI_pred, nI_clamp (show k < 2 ^ 31 by omega), nI_clamp (show k + 1 < 2 ^ 31 by omega), s3, s1, s2]
    refine ⟨fun c => absurd c (nI_nle (by omega) (by omega)), fun _ => ⟨hM.2.1, by omega, rfl, vp_in_nI (by omega) (by omega), fun c => fin (k + 1) u h (Or.inr ?_), fun c => ⟨vp_in_nI (by omega) (by omega), fun w hw z hz => ?_⟩⟩⟩
    · rw [Nat.zero_add]; exact c
    · rw [hz, pk_m1, hw]
      have := h.step (by rw [Nat.zero_add]; exact c)
      rw [Nat.zero_add, Nat.zero_add] at this
      exact ih _ this
theorem s_X12_lay {Q : Mm → Prop} {u : Mm} {m : Nat} {M : List Int32} {v : Int32} (hM : MR G u m) (hM2 : MR2 G u m) (hl : M.length < 80) (h26 : gI u m 26 = nI M.length) (hR : Rw u (m + 14) 0 M) (hQ : ∀ u', Fx (fun b j => (b = m ∧ j = 26) ∨ b = m + 14) u u' → gI u' m 26 = nI (M.length + 1) → Rw u' (m + 14) 0 (v :: M) → Q u') : V_X12_lay G m v u Q := by
  refine ⟨hM.2.1, fun z hz => ⟨M.length + 1, ?_⟩⟩
  rw [hz, h26]
  have := IN.start (v := v) hR
  rw [srt_len] at this
  exact la_loop hM hM2 hl h26 hQ M.length u this
end ROWS
