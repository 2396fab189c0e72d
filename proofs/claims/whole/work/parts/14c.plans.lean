/-! PLANS: lists of lines -/
def subs : Nat → List Nat → List (List Nat)
  | 0, _ => [[]]
  | _ + 1, [] => []
  | k + 1, a :: X => (subs k X).map (fun P => a :: P) ++ subs (k + 1) X
theorem subs_0 (X : List Nat) : subs 0 X = [[]] := by cases X <;> rfl
theorem subs_len {P : List Nat} : ∀ (k : Nat) (X : List Nat), P ∈ subs k X → P.length = k
  | 0, X, h => by
    have : P = [] := by simpa [subs] using h
    rw [this]; rfl
  | k + 1, [], h => by simp [subs] at h
  | k + 1, a :: X, h => by
    rcases List.mem_append.mp h with q | q
    · obtain ⟨P2, h2, e⟩ := List.mem_map.mp q
      rw [← e, List.length_cons, subs_len k X h2]
    · exact subs_len (k + 1) X q
theorem subs_flt {al : Nat → Bool} : ∀ (k : Nat) (X : List Nat) (ok : List Nat → Bool), (∀ P, P.length = k → ok P = true → ∀ a, a ∈ P → al a = true) → (subs k X).filter ok = (subs k (X.filter al)).filter ok
  | 0, X, ok, _ => by rw [subs_0, subs_0]
  | k + 1, [], ok, _ => rfl
  | k + 1, a :: X, ok, h => by
    have i2 := subs_flt (k + 1) X ok h
    have i1 := subs_flt k X (fun P => ok (a :: P)) (fun P hP ho b hb => h (a :: P) (by rw [List.length_cons, hP]) ho b (List.mem_cons_of_mem _ hb))
    show ((subs k X).map (fun P => a :: P) ++ subs (k + 1) X).filter ok = _
    rw [List.filter_append, i2]
    by_cases c : al a = true
    · rw [List.filter_cons_of_pos c]
      show _ = ((subs k (X.filter al)).map (fun P => a :: P) ++ subs (k + 1) (X.filter al)).filter ok
      rw [List.filter_append]
      congr 1
      rw [List.filter_map, List.filter_map]
      congr 1
    · rw [List.filter_cons_of_neg c]
      have : ((subs k X).map (fun P => a :: P)).filter ok = [] := by
        rw [List.filter_eq_nil_iff]
        intro P hP ho
        obtain ⟨P2, h2, e⟩ := List.mem_map.mp hP
        exact c (h P (by rw [← e, List.length_cons, subs_len k X h2]) ho a (by rw [← e]; exact List.mem_cons_self ..))
      rw [this, List.nil_append]
def nsb : Nat → Nat → Nat
  | 0, _ => 1
  | _ + 1, 0 => 0
  | k + 1, n + 1 => nsb k n + nsb (k + 1) n
theorem nsb_0 (n : Nat) : nsb 0 n = 1 := by cases n <;> rfl
theorem subs_num : ∀ (k : Nat) (X : List Nat), (subs k X).length = nsb k X.length
  | 0, X => by rw [subs_0, nsb_0]; rfl
  | k + 1, [] => rfl
  | k + 1, a :: X => by
    show ((subs k X).map (fun P => a :: P) ++ subs (k + 1) X).length = nsb k X.length + nsb (k + 1) X.length
    rw [List.length_append, List.length_map, subs_num k X, subs_num (k + 1) X]
/-- all plans of lines -/
def plnA (X : List Nat) : List (List Nat) := ((([[]] : List (List Nat)) ++ subs 1 X) ++ subs 2 X) ++ subs 3 X
theorem plnA_len (X : List Nat) (h : X.length ≤ 82) : (plnA X).length ≤ 91964 := by
  have m1 : ∀ k n, nsb k n ≤ nsb k (n + 1) := by
    intro k n
    cases k with
    | zero => rw [nsb_0, nsb_0]; exact Nat.le_refl _
    | succ k =>
      show nsb (k + 1) n ≤ nsb k n + nsb (k + 1) n
      omega
  have m2 : ∀ k n d, nsb k n ≤ nsb k (n + d) := by
    intro k n d
    induction d with
    | zero => exact Nat.le_refl _
    | succ d ih => exact Nat.le_trans ih (m1 k (n + d))
  have m3 : ∀ k, nsb k X.length ≤ nsb k 82 := by
    intro k
    have := m2 k X.length (82 - X.length)
    rw [show X.length + (82 - X.length) = 82 by omega] at this
    exact this
  unfold plnA
  simp only [List.length_append, subs_num, List.length_cons, List.length_nil]
  have a1 := m3 1
  have a2 := m3 2
  have a3 := m3 3
  have b1 : nsb 1 82 = 82 := by decide +kernel
  have b2 : nsb 2 82 = 3321 := by decide +kernel
  have b3 : nsb 3 82 = 88560 := by decide +kernel
  omega
theorem plnA_flt {al : Nat → Bool} {ok : List Nat → Bool} (X : List Nat) (h : ∀ P, P.length ≤ 3 → ok P = true → ∀ a, a ∈ P → al a = true) : (plnA X).filter ok = (plnA (X.filter al)).filter ok := by
  unfold plnA
  simp only [List.filter_append]
  rw [subs_flt 1 X ok (fun P hP => h P (by omega)), subs_flt 2 X ok (fun P hP => h P (by omega)), subs_flt 3 X ok (fun P hP => h P (by omega))]
theorem drop_cons {X : List Nat} {i : Nat} (h : i < X.length) : X.drop i = X.getD i 0 :: X.drop (i + 1) := by
  rw [List.drop_eq_getElem_cons h, List.getD_eq_getElem?_getD, List.getElem?_eq_getElem h]
  rfl
/-! the ticks of a line -/
def awy (x l : Nat) : Nat := (x - l) + (l - x)
theorem ab_awy {x l : Nat} (hx : x < 2 ^ 30) (hl : l < 2 ^ 30) : ab (nI x - nI l) = nI (awy x l) := by
  unfold ab awy
  rcases Nat.le_total l x with h | h
  · rw [pk_sub h, if_pos (nI_pos' (by omega)), show x - l + (l - x) = x - l by omega]
  · rcases Nat.eq_or_lt_of_le h with q | q
    · subst q
      rw [pk_sub (Nat.le_refl _), if_pos (nI_pos' (by omega))]
      congr 1
      omega
    · rw [if_neg (by rw [Int32.not_le]; exact pk_sneg hl q)]
      have e : (0 : Int32) - (nI x - nI l) = nI l - nI x := by grind
      rw [e, pk_sub h, show x - l + (l - x) = l - x by omega]
theorem awy_comm (x l : Nat) : awy x l = awy l x := by unfold awy; omega
def plA (B : Bk) (s l : Nat) : Nat := if l < 41 then awy (bkF B s 0).toNatClampNeg l else awy (bkF B s 1).toNatClampNeg (l - 41)
def plT (B : Bk) (v : Int32) (s l : Nat) : Int32 := if plA B s l = 0 then -1 else nI (200 * plA B s l) / v
def plR (B : Bk) (v : Int32) (s : Nat) (P : List Nat) : List Int32 := (P.map (plT B v s)).filter (fun t => !decide (t = -1))
def plG (B : Bk) (v : Int32) (s : Nat) (P : List Nat) : Bool := decide (srt (plR B v s P) = srt (bkT B s))
def plF (B : Bk) (v : Int32) (L : List Nat) (P : List Nat) : Bool := L.all (fun s => plG B v s P)
def alL (B : Bk) (v : Int32) (L : List Nat) (l : Nat) : Bool := L.all (fun s => decide (plT B v s l = -1) || decide (plT B v s l ∈ bkT B s))
def alT (B : Bk) (L : List Nat) : Bool := L.all (fun s => decide ((bkT B s).length ≤ 3))
def alB (B : Bk) (v : Int32) (L : List Nat) (l : Nat) : Bool := alT B L && alL B v L l
def lnL (B : Bk) (v : Int32) (L : List Nat) : List Nat := (List.range 82).filter (alB B v L)
def plP (B : Bk) (v : Int32) (L : List Nat) : List (List Nat) := (plnA (List.range 82)).filter (plF B v L)
theorem plP_eq (B : Bk) (v : Int32) (L : List Nat) : plP B v L = (plnA (lnL B v L)).filter (plF B v L) := by
  unfold plP lnL
  refine plnA_flt _ (fun P hP ho a ha => ?_)
  unfold plF at ho
  rw [List.all_eq_true] at ho
  have key : ∀ s, s ∈ L → (plR B v s P).Perm (bkT B s) := by
    intro s hs
    have := ho s hs
    unfold plG at this
    rw [decide_eq_true_eq] at this
    exact (srt_perm _).symm.trans (this ▸ srt_perm _)
  unfold alB alT alL
  rw [Bool.and_eq_true, List.all_eq_true, List.all_eq_true]
  refine ⟨fun s hs => ?_, fun s hs => ?_⟩
  · rw [decide_eq_true_eq, ← (key s hs).length_eq]
    unfold plR
    have := List.length_filter_le (fun t => !decide (t = -1)) (P.map (plT B v s))
    rw [List.length_map] at this
    omega
  · rw [Bool.or_eq_true, decide_eq_true_eq, decide_eq_true_eq]
    by_cases c : plT B v s a = -1
    · exact Or.inl c
    · refine Or.inr ((key s hs).mem_iff.mp ?_)
      unfold plR
      exact List.mem_filter.mpr ⟨List.mem_map.mpr ⟨a, ha, rfl⟩, by simp [c]⟩
/-- a plan as three numbers -/
def plC (P : List Nat) (k : Nat) : Int32 := if k < P.length then nI (P.getD k 0) else -1
def cdP (P : List Nat) : Int32 := ((((6889 : Int32) * (plC P 0 + (1 : Int32))) + ((83 : Int32) * (plC P 1 + (1 : Int32)))) + plC P 2) + (1 : Int32)
theorem plC_1 (P : List Nat) (k : Nat) : plC P k + (1 : Int32) = nI (if k < P.length then P.getD k 0 + 1 else 0) := by
  unfold plC
  split
  · rw [nI_1]
  · decide
theorem cdP_ne {P : List Nat} (h : ∀ a, a ∈ P → a < 82) : cdP P ≠ -1 := by
  have bd : ∀ k, (if k < P.length then P.getD k 0 + 1 else 0) ≤ 82 := by
    intro k
    split
    · rename_i q
      have := h _ (gd_mem q)
      omega
    · omega
  have e : cdP P = nI (6889 * (if 0 < P.length then P.getD 0 0 + 1 else 0) + 83 * (if 1 < P.length then P.getD 1 0 + 1 else 0) + (if 2 < P.length then P.getD 2 0 + 1 else 0)) := by
    unfold cdP
    rw [plC_1, plC_1, Int32.add_assoc, plC_1]
    have e1 : (6889 : Int32) * nI (if 0 < P.length then P.getD 0 0 + 1 else 0) = nI (6889 * (if 0 < P.length then P.getD 0 0 + 1 else 0)) := nI_litM 6889 _
    have e2 : (83 : Int32) * nI (if 1 < P.length then P.getD 1 0 + 1 else 0) = nI (83 * (if 1 < P.length then P.getD 1 0 + 1 else 0)) := nI_litM 83 _
    rw [e1, e2, nI_add, nI_add]
  rw [e]
  have b0 := bd 0
  have b1 := bd 1
  have b2 := bd 2
  exact nI_m1 (by omega)
theorem subs_mem {n : Nat} : ∀ (k : Nat) (X P : List Nat), (∀ a, a ∈ X → a < n) → P ∈ subs k X → ∀ a, a ∈ P → a < n
  | 0, X, P, _, h => by
    have : P = [] := by simpa [subs] using h
    rw [this]
    intro a ha
    cases ha
  | k + 1, [], P, _, h => by simp [subs] at h
  | k + 1, b :: X, P, hX, h => by
    rcases List.mem_append.mp h with q | q
    · obtain ⟨P2, h2, e⟩ := List.mem_map.mp q
      rw [← e]
      intro a ha
      rcases List.mem_cons.mp ha with r | r
      · rw [r]; exact hX b (List.mem_cons_self ..)
      · exact subs_mem k X P2 (fun a ha => hX a (List.mem_cons_of_mem _ ha)) h2 a r
    · exact subs_mem (k + 1) X P (fun a ha => hX a (List.mem_cons_of_mem _ ha)) q
theorem plnA_mem {X P : List Nat} (hX : ∀ a, a ∈ X → a < 82) (h : P ∈ plnA X) : P.length ≤ 3 ∧ ∀ a, a ∈ P → a < 82 := by
  unfold plnA at h
  rcases List.mem_append.mp h with h | h
  · rcases List.mem_append.mp h with h | h
    · rcases List.mem_append.mp h with h | h
      · have : P = [] := by simpa using h
        rw [this]
        exact ⟨Nat.zero_le _, fun a ha => by cases ha⟩
      · exact ⟨by rw [subs_len 1 X h]; omega, subs_mem 1 X P hX h⟩
    · exact ⟨by rw [subs_len 2 X h]; omega, subs_mem 2 X P hX h⟩
  · exact ⟨by rw [subs_len 3 X h]; omega, subs_mem 3 X P hX h⟩
theorem lnL_mem {B : Bk} {v : Int32} {L : List Nat} {a : Nat} (h : a ∈ lnL B v L) : a < 82 := by
  unfold lnL at h
  exact List.mem_range.mp (List.mem_filter.mp h).1
theorem lnL_len (B : Bk) (v : Int32) (L : List Nat) : (lnL B v L).length ≤ 82 := flt_len _ _
theorem sq200 : ∀ a, a < 41 → 10000 * (4 * a * a) = (200 * a) * (200 * a) := by decide
theorem place_N {x : Int32} (h : btw 0 40 x) : ∃ k, k ≤ 40 ∧ x = nI k ∧ x.toNatClampNeg = k := by
  obtain ⟨k, hk, e⟩ := btw_nI (n := 40) h
  exact ⟨k, hk, e, by rw [e, nI_clamp (by omega)]⟩
theorem plA_le {B : Bk} {s l : Nat} (h0 : btw 0 40 (bkF B s 0)) (h1 : btw 0 40 (bkF B s 1)) (hl : l < 82) : plA B s l ≤ 40 := by
  obtain ⟨a, ha, _, ea⟩ := place_N h0
  obtain ⟨b, hb, _, eb⟩ := place_N h1
  unfold plA awy
  rw [ea, eb]
  split <;> omega
theorem plT_ne {B : Bk} {v : Int32} {s l : Nat} (hv : btw 50 150 v) (h : plA B s l ≠ 0) (hle : plA B s l ≤ 40) : nI (200 * plA B s l) / v ≠ -1 := by
  obtain ⟨k, hk, e⟩ := btw_nI (n := 150) (x := v) ⟨by have := hv.1; omega, hv.2⟩
  have hk0 : 0 < k := by
    have := hv.1
    rw [e, nI_toInt (by omega)] at this
    omega
  rw [e, pk_div (by omega) hk0 (by omega)]
  have := Nat.div_le_self (200 * plA B s l) k
  exact nI_m1 (by omega)
section PLANS
variable {G : Gx} {u : Mm}
theorem c_tickOf {Q : Int32 → Mm → Prop} {z s l : Nat} {B : Bk} {v : Int32} (h : HC0 G u z) (hB : BC u (z + 172) B) (hk : okB B) (hs : s < bkN B) (nm : bkF B s 0 ≠ -1) (hl : l < 82) (hv : btw 50 150 v) (ha : gI u (z + 458) 0 = v) (hQ : Q (plT B v s l) u) : V_X5_tickOf G (z + 458) (nI l) (z + 172 + 6 + 3 * s) u Q := by
  obtain ⟨hx, hy⟩ := named_ok hk hs nm
  have n20 := hk.1
  have tk := (h.bk.2.2.2.2.2.2.2.2 s (by omega)).2.2.1
  obtain ⟨g0, _⟩ := hB.2.2.1 s hs
  have hle := plA_le hx hy hl
  have fin : V_X5_tickOf_24 G Q (z + 458) (nI (plA B s l)) u ∧ ab (nI (plA B s l)) = nI (plA B s l) := by
    have e : ab (nI (plA B s l)) = nI (plA B s l) := by
      unfold ab
      rw [if_pos (nI_pos' (by omega))]
    refine ⟨?_, e⟩
    intro y hy2
    rw [e] at hy2
    subst hy2
    unfold plT at hQ
    refine ⟨fun c => ?_, fun c => ?_⟩
    · have c0 : plA B s l = 0 := nI_inj (b := 0) (by omega) (by omega) c
      rw [if_pos c0] at hQ
      exact hQ
    · have c0 : plA B s l ≠ 0 := fun q => c (by rw [q]; rfl)
      rw [if_neg c0] at hQ
      have e4 : ((4 : Int32) * nI (plA B s l)) * nI (plA B s l) = nI (4 * plA B s l * plA B s l) := by
        have e5 : (4 : Int32) * nI (plA B s l) = nI (4 * plA B s l) := nI_litM 4 _
        rw [e5, pk_mul]
      have b6 : 4 * plA B s l * plA B s l ≤ 160 * 40 := Nat.mul_le_mul (by omega) hle
      rw [e4]
      refine s_X11_wayRoot (by omega) ⟨h.pl.2.2.1, ?_⟩
      rw [sq200 _ (by omega), isq_sq, ha]
      exact s_X11_byAir hv hQ
  have abab : ∀ t : Int32, ab t = nI (plA B s l) → V_X5_tickOf_24 G Q (z + 458) t u := by
    intro t e y hy2
    have := fin.1 y (by rw [hy2, e, fin.2])
    exact this
  obtain ⟨a, ha1, ea, ea2⟩ := place_N hx
  obtain ⟨b, hb1, eb, eb2⟩ := place_N hy
  unfold V_X5_tickOf
  rw [g0 0 (by omega), g0 1 (by omega)]
  refine ⟨fun c => ⟨tk, abab _ ?_⟩, fun c => ⟨tk, abab _ ?_⟩⟩
  · have c := (nI_leI (a := 41) (by omega) (by omega)).mp c
    have e1 : nI l - (41 : Int32) = nI (l - 41) := pk_sub (a := l) (b := 41) c
    rw [e1, eb, ab_awy (by omega) (by omega)]
    unfold plA
    rw [if_neg (by omega), eb2]
  · have c : ¬ 41 ≤ l := fun q => c (nI_le (a := 41) q (by omega))
    rw [ea, ab_awy (by omega) (by omega)]
    unfold plA
    rw [if_pos (by omega), ea2]
theorem c_isWr {Q : Int32 → Mm → Prop} {z s : Nat} {B : Bk} {t : Int32} (h : HC0 G u z) (hB : BC u (z + 172) B) (hk : okB B) (hs : s < bkN B) (hQ : Q (bI (decide (t ∈ bkT B s))) u) : V_X5_isWritten G t (z + 172 + 6 + 3 * s) u Q := by
  have n20 := hk.1
  have l12 := (hk.2.2.1 s hs).2.2.2
  obtain ⟨_, t0, tk, ⟨w1, w2, w3⟩, _⟩ := h.bk.2.2.2.2.2.2.2.2 s (by omega)
  obtain ⟨_, g1, g2, _⟩ := hB.2.2.1 s hs
  suffices go : ∀ (n i : Nat), i + n = (bkT B s).length → (∀ j, j < i → (bkT B s).getD j 0 ≠ t) → V_X5_isWritten_2 G Q (n + 1) t (z + 172 + 6 + 3 * s) (nI i) u from ⟨_, go _ 0 (Nat.zero_add _) (fun j hj => absurd hj (by omega))⟩
  intro n
  induction n with
  | zero =>
    intro i hi hh
    have hi' : i = (bkT B s).length := by omega
    subst hi'
    show V_X5_isWritten_2_B G Q (V_X5_isWritten_2 G Q 0) t (z + 172 + 6 + 3 * s) (nI (bkT B s).length) u
    unfold V_X5_isWritten_2_B
    rw [g1]
    refine ⟨tk, fun _ => ?_, fun c => absurd (nI_le (Nat.le_refl _) (by omega)) c⟩
    rw [decide_eq_false] at hQ
    · exact hQ
    · intro hm
      obtain ⟨j, hj, e⟩ := List.getElem_of_mem hm
      exact hh j hj (by rw [gd_get hj]; exact e)
  | succ n ih =>
    intro i hi hh
    show V_X5_isWritten_2_B G Q (V_X5_isWritten_2 G Q (n + 1)) t (z + 172 + 6 + 3 * s) (nI i) u
    unfold V_X5_isWritten_2_B
    rw [g1, w3, w1, w2, nI_clamp (by omega), show z + 172 + 6 + 3 * s + 1 = z + 172 + 7 + 3 * s by omega, g2 i (by omega)]
    refine ⟨tk, fun c => absurd ((nI_leI (by omega) (by omega)).mp c) (by omega), fun _ => ⟨by omega, rfl, vp_in_nI (by omega) (by omega), fun e => ?_, fun e y hy => ?_⟩⟩
    · rw [decide_eq_true] at hQ
      · exact hQ
      · rw [← e, gd_get (by omega)]
        exact List.getElem_mem _
    · rw [hy, nI_1]
      refine ih (i + 1) (by omega) (fun j hj => ?_)
      by_cases q : j = i
      · rw [q]; exact e
      · exact hh j (by omega)
theorem c_isAllowed {Q : Int32 → Mm → Prop} {z l : Nat} {B : Bk} {v yr : Int32} {L : List Nat} (h : HC0 G u z) (hB : BC u (z + 172) B) (hk : okB B) (hp : PkI z L u) (hL : L.length ≤ 20) (hm : ∀ s, s ∈ L → s < bkN B ∧ bkF B s 0 ≠ -1 ∧ bkF B s 2 = yr) (hl : l < 82) (hv : btw 50 150 v) (ha : gI u (z + 458) 0 = v) (hQ : Q (bI (alL B v L l)) u) : V_X5_isAllowed G (z + 458) (nI l) (z + 172) u Q := by
  have n20 := hk.1
  obtain ⟨_, b0, b1, _, _, _, _, ⟨c5, c6, c7⟩, b11⟩ := id h.bk
  have pk5 := h.pl.2.2.1
  suffices go : ∀ (n i : Nat), i + n = L.length → (∀ j, j < i → (decide (plT B v (L.getD j 0) l = -1) || decide (plT B v (L.getD j 0) l ∈ bkT B (L.getD j 0))) = true) → V_X5_isAllowed_2 G Q (n + 1) (z + 458) (nI l) (z + 172) (nI i) u from ⟨_, go _ 0 (Nat.zero_add _) (fun j hj => absurd hj (by omega))⟩
  intro n
  induction n with
  | zero =>
    intro i hi hh
    have hi' : i = L.length := by omega
    subst hi'
    show V_X5_isAllowed_2_B G Q (V_X5_isAllowed_2 G Q 0) (z + 458) (nI l) (z + 172) (nI L.length) u
    unfold V_X5_isAllowed_2_B
    rw [hp.1]
    refine ⟨b1, fun _ => ?_, fun c => absurd (nI_le (Nat.le_refl _) (by omega)) c⟩
    have : alL B v L l = true := by
      unfold alL
      rw [List.all_eq_true]
      intro s hs
      obtain ⟨j, hj, e⟩ := List.getElem_of_mem hs
      have := hh j hj
      rw [List.getD_eq_getElem?_getD, List.getElem?_eq_getElem hj] at this
      rw [← e]
      exact this
    rw [this] at hQ
    exact hQ
  | succ n ih =>
    intro i hi hh
    have hil : i < L.length := by omega
    obtain ⟨m1, m2, m3⟩ := hm _ (gd_memN hil)
    have e5 : gR u (z + 172 + 5) i = z + 172 + 6 + 3 * L.getD i 0 := hp.2 i hil
    have next : (decide (plT B v (L.getD i 0) l = -1) || decide (plT B v (L.getD i 0) l ∈ bkT B (L.getD i 0))) = true → V_X5_isAllowed_45 G Q (V_X5_isAllowed_2 G Q (n + 1)) (z + 458) (nI l) (z + 172) (nI i) u := by
      intro t y hy
      rw [hy, nI_1]
      refine ih (i + 1) (by omega) (fun j hj => ?_)
      by_cases q : j = i
      · rw [q]; exact t
      · exact hh j (by omega)
    show V_X5_isAllowed_2_B G Q (V_X5_isAllowed_2 G Q (n + 1)) (z + 458) (nI l) (z + 172) (nI i) u
    unfold V_X5_isAllowed_2_B
    rw [hp.1, c7, c5, c6, nI_clamp (by omega), e5]
    refine ⟨b1, fun c => absurd ((nI_leI (by omega) (by omega)).mp c) (by omega), fun _ => ⟨by omega, rfl, vp_in_nI (by omega) (by omega), by omega, pk5, c_tickOf h hB hk m1 m2 hl hv ha ⟨fun e => next (by rw [decide_eq_true e]; rfl), fun e => ?_⟩⟩⟩
    rw [c7, c5, c6, e5]
    refine ⟨by omega, rfl, vp_in_nI (by omega) (by omega), by omega, c_isWr h hB hk m1 ⟨fun c => ?_, fun c => ?_⟩⟩
    · rw [bI_0] at c
      have : alL B v L l = false := by
        cases w : alL B v L l
        · rfl
        · unfold alL at w
          rw [List.all_eq_true] at w
          have := w _ (gd_memN hil)
          rw [decide_eq_false e, c] at this
          cases this
      rw [this] at hQ
      exact hQ
    · rw [bI_0] at c
      exact next (by rw [Bool.of_not_eq_false c]; simp)
/-- what the planner holds once prepared -/
def PlI (z : Nat) (v : Int32) (X : List Nat) (u : Mm) : Prop := gI u (z + 458) 0 = v ∧ gI u (z + 458) 2 = nI X.length ∧ ∀ i, i < X.length → gI u (z + 459) i = nI (X.getD i 0)
def inP (z : Nat) : Nat → Nat → Prop := fun a _ => z + 458 ≤ a ∧ a ≤ z + 461
theorem inP_cst {z a j : Nat} (h : inP z a j) : cst z a j := by unfold inP at h; unfold cst; omega
theorem PkI.fx {z : Nat} {L : List Nat} {v : Mm} (hp : PkI z L u) (f : Fx (cst z) u v) : PkI z L v := by
  refine ⟨?_, fun i hi => ?_⟩
  · rw [f.2 _ _ (by unfold cst; omega)]; exact hp.1
  · rw [f.gR]; exact hp.2 i hi
theorem c_prepare {Q : Mm → Prop} {z : Nat} {B : Bk} {v yr : Int32} {L : List Nat} (h : HC0 G u z) (hB : BC u (z + 172) B) (hk : okB B) (hp : PkI z L u) (hL : L.length ≤ 20) (hm : ∀ s, s ∈ L → s < bkN B ∧ bkF B s 0 ≠ -1 ∧ bkF B s 2 = yr) (hv : btw 50 150 v) (hQ : ∀ u', Fx (inP z) u u' → PlI z v (lnL B v L) u' → Q u') : V_X5_prepare G (z + 458) (z + 172) v u Q := by
  have n20 := hk.1
  have pk5 := h.pl.2.2.1
  refine ⟨pk5, fun w0 e0 w1 e1 => ⟨L.length + 1, ?_⟩⟩
  have f1 : Fx (inP z) u w1 := by
    rw [e1, e0]
    exact (Fx.put (by unfold inP; omega)).trans (Fx.put (by unfold inP; omega))
  have y0 : gI w1 (z + 458) 0 = v := by rw [e1, gI_sI, if_neg (by omega), e0, gI_sI, if_pos ⟨rfl, rfl⟩]
  have y2 : gI w1 (z + 458) 2 = 0 := by rw [e1, gI_sI, if_pos ⟨rfl, rfl⟩]
  clear e0 e1
  have h1 := h.fx f1
  have F1 : Fx (cst z) u w1 := f1.mono (fun a j q => inP_cst q)
  have hB1 := BC_cst hB hk F1
  have hp1 := hp.fx F1
  obtain ⟨_, b0, b1, _, _, _, _, ⟨c5, c6, c7⟩, b11⟩ := id h1.bk
  -- the lines
  have lines : alT B L = true → ∃ n, V_X5_prepare_42 G Q n (z + 458) (z + 172) (0 : Int32) w1 := by
    intro hT
    suffices go : ∀ (n l : Nat) (w : Mm), l + n = 82 → Fx (inP z) u w → PlI z v ((List.range l).filter (alB B v L)) w → V_X5_prepare_42 G Q (n + 1) (z + 458) (z + 172) (nI l) w from ⟨83, go 82 0 w1 (by omega) f1 ⟨y0, y2, fun i hi => absurd hi (by simp)⟩⟩
    intro n
    induction n with
    | zero =>
      intro l w hl f hP
      have hl' : l = 82 := by omega
      subst hl'
      show V_X5_prepare_42_B G Q (V_X5_prepare_42 G Q 0) (z + 458) (z + 172) (nI 82) w
      unfold V_X5_prepare_42_B
      exact ⟨fun _ => hQ w f hP, fun c => absurd (nI_le (a := 82) (b := 82) (by omega) (by omega)) c⟩
    | succ n ih =>
      intro l w hl f hP
      have es : (List.range (l + 1)).filter (alB B v L) = (List.range l).filter (alB B v L) ++ (if alB B v L l then [l] else []) := flt_s
      have hlen : ((List.range l).filter (alB B v L)).length ≤ l := flt_len _ _
      have hw := h.fx f
      have Fw : Fx (cst z) u w := f.mono (fun a j q => inP_cst q)
      obtain ⟨_, _, ⟨p1, p2, p3⟩, _⟩ := hw.pl.2
      show V_X5_prepare_42_B G Q (V_X5_prepare_42 G Q (n + 1)) (z + 458) (z + 172) (nI l) w
      unfold V_X5_prepare_42_B V_X5_prepare_77
      refine ⟨fun c => absurd ((nI_leI (a := 82) (by omega) (by omega)).mp c) (by omega), fun _ => ⟨pk5, c_isAllowed hw (BC_cst hB hk Fw) hk (hp.fx Fw) hL hm (by omega) hv hP.1 ⟨fun c y hy => ?_, fun c => ?_⟩⟩⟩
      · rw [bI_0] at c
        have cb : alB B v L l = false := by unfold alB; rw [c, Bool.and_false]
        rw [hy, nI_1]
        have st := ih (l + 1) w (by omega) f
        rw [es, cb] at st
        simp only [Bool.false_eq_true, if_false, List.append_nil] at st
        exact st hP
      · rw [bI_0] at c
        have cb : alB B v L l = true := by unfold alB; rw [hT, Bool.of_not_eq_false c]; rfl
        rw [p3, p1, p2, hP.2.1, nI_clamp (by omega)]
        refine ⟨by omega, rfl, vp_in_nI (by omega) (by omega), fun w2 e2 w3 e3 y hy => ?_⟩
        have e4 : gI w2 (z + 458) 2 = nI ((List.range l).filter (alB B v L)).length := by rw [e2, gI_sI, if_neg (by omega)]; exact hP.2.1
        rw [e4, nI_1] at e3
        rw [hy, nI_1]
        have st := ih (l + 1) w3 (by omega)
        rw [es, if_pos cb] at st
        refine st ?_ ⟨?_, ?_, fun i hi => ?_⟩
        · rw [e3, e2]
          exact f.trans ((Fx.put (by unfold inP; omega)).trans (Fx.put (by unfold inP; omega)))
        · rw [e3, gI_sI, if_neg (by omega), e2, gI_sI, if_neg (by omega)]; exact hP.1
        · rw [e3, gI_sI, if_pos ⟨rfl, rfl⟩, List.length_append]; rfl
        · rw [List.length_append] at hi
          have hi2 : i < ((List.range l).filter (alB B v L)).length + 1 := hi
          rw [e3, gI_sI, if_neg (by omega), e2, gI_sI]
          by_cases q : i = ((List.range l).filter (alB B v L)).length
          · rw [if_pos ⟨by omega, q⟩, q, gd_r]
          · rw [if_neg (by omega), gd_l (by omega)]
            exact hP.2.2 i (by omega)
  suffices go : ∀ (n i : Nat), i + n = L.length → (∀ j, j < i → (bkT B (L.getD j 0)).length ≤ 3) → V_X5_prepare_12 G Q (n + 1) (z + 458) (z + 172) (nI i) w1 from go L.length 0 (Nat.zero_add _) (fun j hj => absurd hj (by omega))
  intro n
  induction n with
  | zero =>
    intro i hi hh
    have hi' : i = L.length := by omega
    subst hi'
    show V_X5_prepare_12_B G Q (V_X5_prepare_12 G Q 0) (z + 458) (z + 172) (nI L.length) w1
    unfold V_X5_prepare_12_B
    rw [hp1.1]
    refine ⟨b1, fun _ => lines ?_, fun c => absurd (nI_le (Nat.le_refl _) (by omega)) c⟩
    unfold alT
    rw [List.all_eq_true]
    intro s hs
    obtain ⟨j, hj, e⟩ := List.getElem_of_mem hs
    have := hh j hj
    rw [List.getD_eq_getElem?_getD, List.getElem?_eq_getElem hj] at this
    rw [← e, decide_eq_true_eq]
    exact this
  | succ n ih =>
    intro i hi hh
    have hil : i < L.length := by omega
    obtain ⟨m1, m2, m3⟩ := hm _ (gd_memN hil)
    have e5 : gR w1 (z + 172 + 5) i = z + 172 + 6 + 3 * L.getD i 0 := hp1.2 i hil
    have tk := (b11 (L.getD i 0) (by omega)).2.2.1
    have l12 := (hk.2.2.1 _ m1).2.2.2
    show V_X5_prepare_12_B G Q (V_X5_prepare_12 G Q (n + 1)) (z + 458) (z + 172) (nI i) w1
    unfold V_X5_prepare_12_B
    rw [hp1.1, c7, c5, c6, nI_clamp (by omega), e5, (hB1.2.2.1 _ m1).2.1]
    refine ⟨b1, fun c => absurd ((nI_leI (by omega) (by omega)).mp c) (by omega), fun _ => ⟨by omega, rfl, vp_in_nI (by omega) (by omega), by omega, tk, fun c y hy => ?_, fun c => hQ w1 f1 ?_⟩⟩
    · rw [hy, nI_1]
      have c := (nI_leI (b := 3) (by omega) (by omega)).mp c
      refine ih (i + 1) (by omega) (fun j hj => ?_)
      by_cases q : j = i
      · rw [q]; exact c
      · exact hh j (by omega)
    · have c : ¬ (bkT B (L.getD i 0)).length ≤ 3 := fun q => c (nI_le (b := 3) q (by omega))
      have e : lnL B v L = [] := by
        unfold lnL
        rw [List.filter_eq_nil_iff]
        intro a _ ht
        unfold alB alT at ht
        rw [Bool.and_eq_true, List.all_eq_true] at ht
        have := ht.1 _ (gd_memN hil)
        rw [decide_eq_true_eq] at this
        exact c this
      rw [e]
      exact ⟨y0, y2, fun i hi => absurd hi (by simp)⟩
end PLANS
