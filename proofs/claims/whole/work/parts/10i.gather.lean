/-! THE CLASS: the echoes of a scene -/
theorem rch_bd {D : Ld} (hD : okD D) {k : Nat} {x y : Int32} (hk : k < nW D) (hx : btw 0 40 x) (hy : btw 0 40 y) : btw (-40) 40 (rch D k x y) := by
  obtain ⟨_, b1, _⟩ := hD.2.2.2.2.2.1 k hk
  have z : btw (-40) 40 (0 : Int32) := by unfold btw; decide
  have e1 := (btw_sub b1 hy (by decide) (by decide)).1
  have e2 := (btw_sub b1 hx (by decide) (by decide)).1
  unfold rch
  split
  · split
    · exact z
    · split
      · exact z
      · exact e1
  · split
    · exact z
    · split
      · exact z
      · exact e2
theorem z32 : (0 : Int32).toInt = 0 := by decide
/-- the number of a wall's side -/
def cdS (D : Ld) (k : Nat) (x y : Int32) : Nat := (if dW D k 0 = 1 then 2 else 0) + (if 0 ≤ (rch D k x y).toInt then 1 else 0)
theorem cdS_lt (D : Ld) (k : Nat) (x y : Int32) : cdS D k x y < 4 := by
  unfold cdS
  split <;> split <;> omega
theorem sdC_cd {D : Ld} {k : Nat} {x y : Int32} (h : rch D k x y ≠ 0) : sdC D k x y = nI (cdS D k x y) := by
  unfold sdC cdS
  simp only [fa_le, z32]
  rw [if_neg h]
  by_cases g : dW D k 0 = 1
  · by_cases q : 0 ≤ (rch D k x y).toInt
    · simp only [g, q, if_true]; decide
    · simp only [g, q, if_true, if_false]; decide
  · by_cases q : 0 ≤ (rch D k x y).toInt
    · simp only [g, q, if_true, if_false]; decide
    · simp only [g, q, if_false]; decide
theorem sdC_iff {D : Ld} {k sd : Nat} {x y : Int32} (hs : sd < 4) : sdC D k x y = nI sd ↔ rch D k x y ≠ 0 ∧ cdS D k x y = sd := by
  have := cdS_lt D k x y
  constructor
  · intro h
    have hr : rch D k x y ≠ 0 := by
      intro e
      unfold sdC at h
      rw [if_pos e] at h
      exact nI_m1 (by omega) h.symm
    rw [sdC_cd hr, nI_eq (by omega) (by omega)] at h
    exact ⟨hr, h⟩
  · intro h
    rw [sdC_cd h.1, h.2]
theorem cdS_same {D : Ld} (hD : okD D) {o w : Nat} {x y : Int32} (ho : o < nW D) (hw : w < nW D) (h1 : rch D o x y ≠ 0) (h2 : rch D w x y ≠ 0) : cdS D o x y = cdS D w x y ↔ dW D o 0 = dW D w 0 ∧ (rch D o x y ≤ 0 ↔ rch D w x y ≤ 0) := by
  have l1 := (hD.2.2.2.2.2.1 o ho).1
  have l2 := (hD.2.2.2.2.2.1 w hw).1
  rw [Ne, fa_eq, z32] at h1 h2
  rw [fa_le, fa_le, z32]
  unfold cdS
  rcases l1 with l1 | l1 <;> rcases l2 with l2 | l2 <;> rw [l1, l2]
  · simp only [show ((0 : Int32) = 1) = False from by decide, if_false]
    constructor
    · intro h
      refine ⟨trivial, ?_⟩
      split at h <;> split at h <;> omega
    · intro h
      split <;> split <;> omega
  · simp only [show ((0 : Int32) = 1) = False from by decide, if_false, if_true]
    constructor
    · intro h
      split at h <;> split at h <;> omega
    · intro h
      exact absurd h.1 id
  · simp only [show ((0 : Int32) = 1) = False from by decide, show ((1 : Int32) = 0) = False from by decide, if_false, if_true]
    constructor
    · intro h
      split at h <;> split at h <;> omega
    · intro h
      exact absurd h.1 id
  · simp only [if_true]
    constructor
    · intro h
      refine ⟨trivial, ?_⟩
      split at h <;> split at h <;> omega
    · intro h
      split <;> split <;> omega
theorem near_iff {D : Ld} (hD : okD D) {aw w sd : Nat} {x y : Int32} (hx : btw 0 40 x) (hy : btw 0 40 y) (hw : w < nW D) (hs : sd < 4) (hsd : sdC D w x y = nI sd) : isO D aw w x y = false ↔ bst D aw x y sd (nW D) w := by
  obtain ⟨hr, hc⟩ := (sdC_iff hs).mp hsd
  have bw := rch_bd hD hw hx hy
  have ew := ab_I (x := rch D w x y) (by unfold btw at bw; omega)
  constructor
  · intro h
    unfold isO at h
    simp only [Bool.or_eq_false_iff, decide_eq_false_iff_not] at h
    obtain ⟨⟨_, hg⟩, ha⟩ := h
    rw [List.any_eq_false] at ha
    refine ⟨hw, ⟨hsd, hg⟩, fun o ho hco => ?_⟩
    have hb := ha o (List.mem_range.mpr ho)
    obtain ⟨hr2, hc2⟩ := (sdC_iff hs).mp hco.1
    obtain ⟨f1, f2⟩ := (cdS_same hD ho hw hr2 hr).mp (hc2.trans hc.symm)
    have bo := rch_bd hD ho hx hy
    have eo := ab_I (x := rch D o x y) (by unfold btw at bo; omega)
    unfold beats at hb
    rw [decide_eq_true_iff] at hb
    by_cases q : o = w
    · exact Or.inl q
    · refine Or.inr ?_
      unfold dst
      have n1 : ¬ (ab (rch D o x y) < ab (rch D w x y)) := fun c => hb ⟨q, hco.2, f1, hr2, f2, Or.inl c⟩
      have n2 : ¬ (rch D o x y = rch D w x y ∧ o < w) := fun c => hb ⟨q, hco.2, f1, hr2, f2, Or.inr c⟩
      rw [fa_lt, ew, eo] at n1
      rw [fa_eq] at n2
      rw [fa_le, fa_le, z32] at f2
      rw [Ne, fa_eq, z32] at hr hr2
      rw [ew, eo]
      omega
  · intro h
    obtain ⟨_, hg, hall⟩ := h
    unfold isO
    simp only [Bool.or_eq_false_iff, decide_eq_false_iff_not]
    refine ⟨⟨hr, hg.2⟩, ?_⟩
    rw [List.any_eq_false]
    intro o ho
    rw [List.mem_range] at ho
    unfold beats
    rw [decide_eq_true_iff]
    intro hb
    obtain ⟨q, b1, b2, b3, b4, b5⟩ := hb
    have hc2 := (cdS_same hD ho hw b3 hr).mpr ⟨b2, b4⟩
    have bo := rch_bd hD ho hx hy
    have eo := ab_I (x := rch D o x y) (by unfold btw at bo; omega)
    have := hall o ho ⟨(sdC_iff hs).mpr ⟨b3, hc2.trans hc⟩, b1⟩
    unfold dst at this
    rw [ew, eo] at this
    rw [fa_lt, ew, eo, fa_eq] at b5
    rw [fa_le, fa_le, z32] at b4
    rw [Ne, fa_eq, z32] at hr b3
    omega
theorem bst_one {D : Ld} {aw sd b c w : Nat} {x y : Int32} (h1 : bst D aw x y sd w b) (h2 : bst D aw x y sd w c) : b = c := by
  have e1 := h1.2.2 c h2.1 h2.2.1
  have e2 := h2.2.2 b h1.1 h1.2.1
  omega
/-- the nearest wall of a side, out of the row of them -/
def nrO (v : Nat → Int32) (sd : Nat) : Option Nat := if v sd = -1 then none else some (v sd).toNatClampNeg
def nrP (D : Ld) (aw : Nat) (x y : Int32) (nr : Nat → Option Nat) : Prop := ∀ sd, sd < 4 → (nr sd = none ∧ ∀ w, w < nW D → sdC D w x y = nI sd → isO D aw w x y = true) ∨ ∃ b, nr sd = some b ∧ b < nW D ∧ sdC D b x y = nI sd ∧ isO D aw b x y = false ∧ ∀ w, w < nW D → sdC D w x y = nI sd → isO D aw w x y = false → w = b
theorem NI.nr {D : Ld} (hD : okD D) {aw e : Nat} {x y : Int32} {u : Mm} (hx : btw 0 40 x) (hy : btw 0 40 y) (h : NI D aw x y e (nW D) u) : nrP D aw x y (nrO (gI u (e + 4))) := by
  have d1 := hD.1
  intro sd hsd
  unfold nrO
  rcases h sd hsd with ⟨h1, h2⟩ | ⟨b, h1, h2⟩
  · refine Or.inl ⟨by rw [if_pos h1], fun w hw hs => ?_⟩
    cases q : isO D aw w x y
    · exact absurd ((near_iff hD hx hy hw hsd hs).mp q).2.1 (h2 w hw)
    · rfl
  · have hb := h2.1
    refine Or.inr ⟨b, ?_, hb, h2.2.1.1, (near_iff hD hx hy hb hsd h2.2.1.1).mpr h2, fun w hw hs ho => ?_⟩
    · rw [h1, if_neg (nI_m1 (by omega)), nI_clamp (by omega)]
    · exact bst_one ((near_iff hD hx hy hw hsd hs).mp ho) h2
theorem nrP.got {D : Ld} {aw : Nat} {x y : Int32} {nr : Nat → Option Nat} (h : nrP D aw x y nr) {sd b : Nat} (hs : sd < 4) (hb : nr sd = some b) : b < nW D ∧ rch D b x y ≠ 0 ∧ cdS D b x y = sd ∧ isO D aw b x y = false := by
  rcases h sd hs with h | ⟨c, h1, h2, h3, h4, _⟩
  · rw [h.1] at hb; cases hb
  · rw [h1] at hb
    cases hb
    obtain ⟨q1, q2⟩ := (sdC_iff hs).mp h3
    exact ⟨h2, q1, q2, h4⟩
theorem nrP.of {D : Ld} {aw : Nat} {x y : Int32} {nr : Nat → Option Nat} (h : nrP D aw x y nr) {b : Nat} (hb : b < nW D) (ho : isO D aw b x y = false) : ∃ sd, sd < 4 ∧ nr sd = some b := by
  have hr : rch D b x y ≠ 0 := by
    intro e
    simp [isO, e] at ho
  have hs := sdC_cd hr
  refine ⟨cdS D b x y, cdS_lt D b x y, ?_⟩
  rcases h _ (cdS_lt D b x y) with h | ⟨c, h1, h2, h3, h4, h5⟩
  · rw [h.2 b hb hs] at ho; cases ho
  · rw [h1, h5 b hb hs ho]
/-! the list of the echoes' numbers -/
def prn (o w : Nat) : Nat := 16 + 8 * min o w + max o w
def sec (nr : Nat → Option Nat) (w : Nat) : Nat → List Nat
  | 0 => []
  | n + 1 => sec nr w n ++ (match nr n with | none => [] | some o => [prn o w])
def lst (nr : Nat → Option Nat) : Nat → List Nat
  | 0 => []
  | n + 1 => lst nr n ++ (match nr n with | none => [] | some w => w :: sec nr w n)
def brn (D : Ld) (aw : Nat) (x y yr : Int32) : Nat → List Nat
  | 0 => []
  | n + 1 => brn D aw x y yr n ++ (if thB D aw x y yr n then [8 + n] else [])
theorem sec_len (nr : Nat → Option Nat) (w : Nat) : ∀ n, (sec nr w n).length ≤ n
  | 0 => by simp [sec]
  | n + 1 => by
    have := sec_len nr w n
    rw [sec, List.length_append]
    split <;> simp <;> omega
theorem lst_len (nr : Nat → Option Nat) : ∀ n, 2 * (lst nr n).length ≤ n * (n + 1)
  | 0 => by simp [lst]
  | n + 1 => by
    have := lst_len nr n
    have e : (n + 1) * (n + 1 + 1) = n * (n + 1) + 2 * n + 2 := by rw [Nat.add_mul, Nat.mul_add, Nat.mul_add]; omega
    rw [lst, List.length_append]
    split
    · simp; omega
    · rename_i w _
      have := sec_len nr w n
      simp only [List.length_cons]
      omega
theorem brn_len (D : Ld) (aw : Nat) (x y yr : Int32) : ∀ n, (brn D aw x y yr n).length ≤ n
  | 0 => by simp [brn]
  | n + 1 => by
    have := brn_len D aw x y yr n
    rw [brn, List.length_append]
    split <;> simp <;> omega
theorem mem_sec {nr : Nat → Option Nat} {w e : Nat} : ∀ {n : Nat}, e ∈ sec nr w n ↔ ∃ k o, k < n ∧ nr k = some o ∧ e = prn o w
  | 0 => by simp [sec]
  | n + 1 => by
    rw [sec, List.mem_append, mem_sec]
    constructor
    · rintro (⟨k, o, h1, h2, h3⟩ | h)
      · exact ⟨k, o, by omega, h2, h3⟩
      · split at h
        · cases h
        · rename_i o ho
          rw [List.mem_singleton] at h
          exact ⟨n, o, by omega, ho, h⟩
    · rintro ⟨k, o, h1, h2, h3⟩
      by_cases q : k = n
      · subst q
        right
        rw [h2]
        simp [h3]
      · exact Or.inl ⟨k, o, by omega, h2, h3⟩
theorem mem_lst {nr : Nat → Option Nat} {e : Nat} : ∀ {n : Nat}, e ∈ lst nr n ↔ ∃ sd w, sd < n ∧ nr sd = some w ∧ (e = w ∨ ∃ k o, k < sd ∧ nr k = some o ∧ e = prn o w)
  | 0 => by simp [lst]
  | n + 1 => by
    rw [lst, List.mem_append, mem_lst]
    constructor
    · rintro (⟨sd, w, h1, h2, h3⟩ | h)
      · exact ⟨sd, w, by omega, h2, h3⟩
      · split at h
        · cases h
        · rename_i w hw
          rw [List.mem_cons, mem_sec] at h
          exact ⟨n, w, by omega, hw, h⟩
    · rintro ⟨sd, w, h1, h2, h3⟩
      by_cases q : sd = n
      · subst q
        right
        rw [h2]
        simp only [List.mem_cons, mem_sec]
        exact h3
      · exact Or.inl ⟨sd, w, by omega, h2, h3⟩
theorem mem_brn {D : Ld} {aw : Nat} {x y yr : Int32} {e : Nat} : ∀ {n : Nat}, e ∈ brn D aw x y yr n ↔ ∃ k, k < n ∧ thB D aw x y yr k = true ∧ e = 8 + k
  | 0 => by simp [brn]
  | n + 1 => by
    rw [brn, List.mem_append, mem_brn]
    constructor
    · rintro (⟨k, h1, h2, h3⟩ | h)
      · exact ⟨k, by omega, h2, h3⟩
      · split at h
        · rename_i q
          rw [List.mem_singleton] at h
          exact ⟨n, by omega, q, h⟩
        · cases h
    · rintro ⟨k, h1, h2, h3⟩
      by_cases q : k = n
      · subst q
        right
        rw [if_pos h2, h3]
        exact List.mem_singleton.mpr rfl
      · exact Or.inl ⟨k, by omega, h2, h3⟩
/-- sides have walls of their own -/
def inj4 (nr : Nat → Option Nat) : Prop := ∀ i j b c, i < 4 → j < 4 → nr i = some b → nr j = some c → b < 6 ∧ c < 6 ∧ (b = c → i = j)
theorem nrP.inj {D : Ld} (hD : okD D) {aw : Nat} {x y : Int32} {nr : Nat → Option Nat} (h : nrP D aw x y nr) : inj4 nr := by
  intro i j b c hi hj h1 h2
  have d1 := hD.1
  obtain ⟨a1, _, a3, _⟩ := h.got hi h1
  obtain ⟨b1, _, b3, _⟩ := h.got hj h2
  refine ⟨by omega, by omega, fun e => ?_⟩
  subst e
  omega
theorem nodup_sec {nr : Nat → Option Nat} (h : inj4 nr) {sd w : Nat} (hs : sd < 4) (hw : nr sd = some w) : ∀ n, n ≤ sd → (sec nr w n).Nodup
  | 0, _ => by simp [sec]
  | n + 1, hn => by
    rw [sec, List.nodup_append]
    refine ⟨nodup_sec h hs hw n (by omega), ?_, ?_⟩
    · split <;> simp
    · intro a ha b hb
      split at hb
      · cases hb
      · rename_i o ho
        rw [List.mem_singleton] at hb
        rw [mem_sec] at ha
        obtain ⟨k, o2, h1, h2, h3⟩ := ha
        have q1 := h k n o2 o (by omega) (by omega) h2 ho
        have q2 := h k sd o2 w (by omega) (by omega) h2 hw
        have q3 := h n sd o w (by omega) (by omega) ho hw
        intro e
        rw [h3, hb] at e
        unfold prn at e
        omega
theorem nodup_lst {nr : Nat → Option Nat} (h : inj4 nr) : ∀ n, n ≤ 4 → (lst nr n).Nodup
  | 0, _ => by simp [lst]
  | n + 1, hn => by
    rw [lst, List.nodup_append]
    refine ⟨nodup_lst h n (by omega), ?_, ?_⟩
    · split
      · simp
      · rename_i w hw
        rw [List.nodup_cons]
        refine ⟨fun c => ?_, nodup_sec h (by omega) hw n (by omega)⟩
        rw [mem_sec] at c
        obtain ⟨k, o, h1, h2, h3⟩ := c
        have := h n n w w (by omega) (by omega) hw hw
        unfold prn at h3
        omega
    · intro a ha b hb
      split at hb
      · cases hb
      · rename_i w hw
        rw [mem_lst] at ha
        rw [List.mem_cons, mem_sec] at hb
        obtain ⟨sd, v, h1, h2, h3⟩ := ha
        have q0 := h sd n v w (by omega) (by omega) h2 hw
        intro e
        subst e
        rcases hb with hb | ⟨k, o, g1, g2, g3⟩
        · rcases h3 with h3 | ⟨k, o, g1, g2, g3⟩
          · omega
          · unfold prn at g3
            omega
        · rcases h3 with h3 | ⟨k2, o2, p1, p2, p3⟩
          · unfold prn at g3
            omega
          · have q1 := h k2 n o2 w (by omega) (by omega) p2 hw
            have q2 := h k n o w (by omega) (by omega) g2 hw
            have q3 := h k2 sd o2 v (by omega) (by omega) p2 h2
            rw [p3] at g3
            unfold prn at g3
            omega
theorem nodup_brn {D : Ld} {aw : Nat} {x y yr : Int32} : ∀ n, (brn D aw x y yr n).Nodup
  | 0 => by simp [brn]
  | n + 1 => by
    rw [brn, List.nodup_append]
    refine ⟨nodup_brn n, ?_, ?_⟩
    · split <;> simp
    · intro a ha b hb
      rw [mem_brn] at ha
      obtain ⟨k, h1, h2, h3⟩ := ha
      split at hb
      · rw [List.mem_singleton] at hb
        omega
      · cases hb
/-- all echoes' numbers -/
def ecs (D : Ld) (aw : Nat) (x y yr : Int32) (nr : Nat → Option Nat) : List Nat := lst nr 4 ++ brn D aw x y yr (nB D)
theorem nodup_ecs {D : Ld} (hD : okD D) {aw : Nat} {x y yr : Int32} {nr : Nat → Option Nat} (h : nrP D aw x y nr) : (ecs D aw x y yr nr).Nodup := by
  have hi := h.inj hD
  have d2 := hD.2.1
  unfold ecs
  rw [List.nodup_append]
  refine ⟨nodup_lst hi 4 (by omega), nodup_brn _, fun a ha b hb => ?_⟩
  rw [mem_lst] at ha
  rw [mem_brn] at hb
  obtain ⟨sd, v, h1, h2, h3⟩ := ha
  obtain ⟨k, g1, g2, g3⟩ := hb
  have := hi sd sd v v (by omega) (by omega) h2 h2
  rcases h3 with h3 | ⟨k2, o2, p1, p2, p3⟩
  · omega
  · have := hi k2 sd o2 v (by omega) (by omega) p2 h2
    unfold prn at p3
    omega
theorem noS_no {D : Ld} (hD : okD D) {aw tn i j : Nat} {x y : Int32} (ht : tn < 3) (hi : i < nW D) (hj : j < nW D) (h1 : isO D aw i x y = false) (h2 : isO D aw j x y = false) (hc : cdS D i x y ≠ cdS D j x y) : ¬ noS D aw x y tn i j := by
  have r1 : rch D i x y ≠ 0 := by intro e; simp [isO, e] at h1
  have r2 : rch D j x y ≠ 0 := by intro e; simp [isO, e] at h2
  rintro (h | h | h)
  · rw [(stF_no hD ht hi).mp h] at h1; cases h1
  · rw [(stF_no hD ht hj).mp h] at h2; cases h2
  · exact hc ((cdS_same hD hi hj r1 r2).mpr h)
theorem pair_bd {D : Ld} (hD : okD D) {aw tn i j : Nat} {x y : Int32} (ht : tn < 3) (hi : i < nW D) (hj : j < nW D) (h1 : isO D aw i x y = false) (h2 : isO D aw j x y = false) : stF D aw x y tn i * stF D aw x y tn j / 1000 = fS D i x y tn * fS D j x y tn / 1000 ∧ btw 0 1000 (fS D i x y tn * fS D j x y tn / 1000) := by
  have e1 : stF D aw x y tn i = fS D i x y tn := by unfold stF; rw [h1]; rfl
  have e2 : stF D aw x y tn j = fS D j x y tn := by unfold stF; rw [h2]; rfl
  refine ⟨by rw [e1, e2], ?_⟩
  obtain ⟨a, ha, ea⟩ := btw_nI (n := 1000) (fS_bd hD (x := x) (y := y) ht hi)
  obtain ⟨b, hb, eb⟩ := btw_nI (n := 1000) (fS_bd hD (x := x) (y := y) ht hj)
  have hm := Nat.mul_le_mul ha hb
  rw [ea, eb, pk_mul, show nI (a * b) / (1000 : Int32) = nI (a * b / 1000) from pk_div (d := 1000) (by omega) (by decide) (by decide)]
  exact nI_btw (n := 1000) (by omega) (by decide)
theorem sqS_comm (D : Ld) (x y : Int32) (i j : Nat) : sqS D x y i j = sqS D x y j i := by
  unfold sqS
  by_cases g : dW D i 0 = dW D j 0
  · rw [if_pos g, if_pos g.symm, Int32.add_comm]
  · rw [if_neg g, if_neg (fun c => g c.symm), Int32.add_comm]
theorem sqE_pr {D : Ld} {x y : Int32} {o w : Nat} (ho : o < 8) (hw : w < 8) : sqE D x y (prn o w) = sqS D x y o w := by
  unfold prn sqE
  rw [if_neg (by omega), if_neg (by omega)]
  by_cases g : o ≤ w
  · rw [show (16 + 8 * min o w + max o w - 16) / 8 = o by omega, show (16 + 8 * min o w + max o w - 16) % 8 = w by omega]
  · rw [show (16 + 8 * min o w + max o w - 16) / 8 = w by omega, show (16 + 8 * min o w + max o w - 16) % 8 = o by omega, sqS_comm]
theorem stE_pr {D : Ld} (hD : okD D) {aw tn o w : Nat} {x y yr : Int32} (ht : tn < 3) (ho : o < nW D) (hw : w < nW D) (h1 : isO D aw o x y = false) (h2 : isO D aw w x y = false) (hc : cdS D o x y ≠ cdS D w x y) : stE D aw x y yr tn (prn o w) = fS D o x y tn * fS D w x y tn / 1000 := by
  have d1 := hD.1
  have hne : o ≠ w := fun e => hc (by rw [e])
  unfold prn stE
  rw [if_neg (by omega), if_neg (by omega)]
  rcases Nat.lt_or_ge o w with g | g
  · rw [show (16 + 8 * min o w + max o w - 16) / 8 = o by omega, show (16 + 8 * min o w + max o w - 16) % 8 = w by omega, if_pos (by omega)]
    unfold stS
    exact (if_neg (noS_no hD ht ho hw h1 h2 hc)).trans (pair_bd hD ht ho hw h1 h2).1
  · rw [show (16 + 8 * min o w + max o w - 16) / 8 = w by omega, show (16 + 8 * min o w + max o w - 16) % 8 = o by omega, if_pos (by omega)]
    unfold stS
    exact ((if_neg (noS_no hD ht hw ho h2 h1 (fun e => hc e.symm))).trans (pair_bd hD ht hw ho h2 h1).1).trans (by rw [Int32.mul_comm])
/-- the list holds just the echoes that there are -/
theorem mem_ecs {D : Ld} (hD : okD D) {aw tn : Nat} {x y yr : Int32} {nr : Nat → Option Nat} (ht : tn < 3) (h : nrP D aw x y nr) (e : Nat) : e ∈ ecs D aw x y yr nr ↔ e < 80 ∧ stE D aw x y yr tn e ≠ -1 := by
  have d1 := hD.1
  have d2 := hD.2.1
  have hi := h.inj hD
  unfold ecs
  rw [List.mem_append, mem_lst, mem_brn]
  constructor
  · rintro (⟨sd, w, h1, h2, h3⟩ | ⟨k, h1, h2, h3⟩)
    · obtain ⟨a1, a2, a3, a4⟩ := h.got h1 h2
      rcases h3 with h3 | ⟨k, o, g1, g2, g3⟩
      · subst h3
        refine ⟨by omega, ?_⟩
        unfold stE stF
        rw [if_pos (by omega), if_pos (by omega), a4]
        exact btw_ne (fS_bd hD ht a1)
      · obtain ⟨b1, b2, b3, b4⟩ := h.got (by omega) g2
        have hc : cdS D o x y ≠ cdS D w x y := by omega
        rw [g3, stE_pr hD ht b1 a1 b4 a4 hc]
        refine ⟨by unfold prn; omega, btw_ne (pair_bd hD ht b1 a1 b4 a4).2⟩
    · refine ⟨by omega, ?_⟩
      rw [h3]
      unfold stE stB
      rw [if_neg (by omega), if_pos (by omega), if_pos (by omega), show 8 + k - 8 = k by omega, if_pos h2]
      exact btw_ne (bS_bd hD ht h1)
  · rintro ⟨he, hs⟩
    unfold stE at hs
    by_cases e8 : e < 8
    · rw [if_pos e8] at hs
      by_cases ew : e < nW D
      · rw [if_pos ew] at hs
        have ho : isO D aw e x y = false := by
          cases q : isO D aw e x y
          · rfl
          · exact absurd ((stF_no hD ht ew).mpr q) hs
        obtain ⟨sd, s1, s2⟩ := h.of ew ho
        exact Or.inl ⟨sd, e, s1, s2, Or.inl rfl⟩
      · rw [if_neg ew] at hs
        exact absurd rfl hs
    · rw [if_neg e8] at hs
      by_cases e16 : e < 16
      · rw [if_pos e16] at hs
        by_cases eb : e - 8 < nB D
        · rw [if_pos eb] at hs
          refine Or.inr ⟨e - 8, eb, ?_, by omega⟩
          cases q : thB D aw x y yr (e - 8)
          · unfold stB at hs
            rw [q] at hs
            exact absurd rfl hs
          · rfl
        · rw [if_neg eb] at hs
          exact absurd rfl hs
      · rw [if_neg e16] at hs
        by_cases ep : (e - 16) / 8 < (e - 16) % 8 ∧ (e - 16) % 8 < nW D
        · rw [if_pos ep] at hs
          have hn : ¬ noS D aw x y tn ((e - 16) / 8) ((e - 16) % 8) := by
            intro c
            unfold stS at hs
            exact hs (if_pos c)
          have o1 : isO D aw ((e - 16) / 8) x y = false := by
            cases q : isO D aw ((e - 16) / 8) x y
            · rfl
            · exact absurd (Or.inl ((stF_no hD ht (by omega)).mpr q)) hn
          have o2 : isO D aw ((e - 16) % 8) x y = false := by
            cases q : isO D aw ((e - 16) % 8) x y
            · rfl
            · exact absurd (Or.inr (Or.inl ((stF_no hD ht (by omega)).mpr q))) hn
          obtain ⟨s1, t1, t2⟩ := h.of (by omega) o1
          obtain ⟨s2, t3, t4⟩ := h.of (by omega) o2
          have q1 := hi s1 s2 _ _ t1 t3 t2 t4
          have hne : s1 ≠ s2 := by
            intro c
            rw [c, t4] at t2
            have := Option.some.inj t2
            omega
          rcases Nat.lt_or_ge s1 s2 with g | g
          · exact Or.inl ⟨s2, _, t3, t4, Or.inr ⟨s1, _, g, t2, by unfold prn; omega⟩⟩
          · exact Or.inl ⟨s1, _, t1, t2, Or.inr ⟨s2, _, by omega, t4, by unfold prn; omega⟩⟩
        · rw [if_neg ep] at hs
          exact absurd rfl hs
