/-! PLANS: the search of the class -/
section SEARCH
variable {G : Gx} {u : Mm}
theorem SV.ln {z : Nat} {B : Bk} {v : Int32} {L X : List Nat} {w : Int32} {u0 : Mm} {PL : List (List Nat)} (h : SV z B v L X w u0 PL u) {yr : Int32} (hh : SH G z B v yr L u0) : kd G (z + 458) = 5 ∧ gI u (z + 458) 2 = nI X.length ∧ gR u (z + 458) 1 = z + 459 ∧ kd G (z + 459) = 13 ∧ ln G (z + 459) = 82 ∧ ∀ i, i < X.length → gI u (z + 459) i = nI (X.getD i 0) := by
  have hu := hh.1.fx h.1
  obtain ⟨_, k5, ⟨p1, p2, p3⟩, _⟩ := hu.pl.2
  exact ⟨k5, h.2.1.2.1, p3, p1, p2, h.2.1.2.2⟩
theorem se_end {Q : Int32 → Mm → Prop} {z : Nat} {B : Bk} {v yr w : Int32} {L X : List Nat} {u0 : Mm} {PL : List (List Nat)} (hh : SH G z B v yr L u0) (hX : X.length ≤ 82) (hX8 : ∀ a, a ∈ X → a < 82) (hQ : ∀ u', SV z B v L X w u0 PL u' → (w = -1 → Q (nI (PL.filter (plF B v L)).length) u') ∧ (¬ w = -1 → Q (gI u' (z + 458) 7) u')) : SV z B v L X w u0 PL u → ∀ (n : Nat), V_X5_search_109 G Q (n + 1) (z + 458) (z + 172) (nI X.length) u := by
  intro hS n
  obtain ⟨k5, c2, _⟩ := hS.ln hh
  show V_X5_search_109_B G Q (V_X5_search_109 G Q n) (z + 458) (z + 172) (nI X.length) u
  unfold V_X5_search_109_B
  rw [c2, hS.2.2.1, hS.2.2.2.1]
  exact ⟨k5, fun _ => hQ u hS, fun c => absurd (nI_le (Nat.le_refl _) (by omega)) c⟩
theorem getX {X : List Nat} (hX8 : ∀ a, a ∈ X → a < 82) {i : Nat} (h : i < X.length) : X.getD i 0 < 82 := hX8 _ (gd_mem h)
/-- the innermost loop: a third line -/
theorem se_137 {Q : Int32 → Mm → Prop} {K1 : Nat → Nat → Int32 → Mm → Prop} {K2 : Nat → Nat → Int32 → Int32 → Mm → Prop} {z i j : Nat} {B : Bk} {v yr w : Int32} {L X : List Nat} {u0 : Mm} (hh : SH G z B v yr L u0) (hX : X.length ≤ 82) (hX8 : ∀ a, a ∈ X → a < 82) (hi : i < X.length) (hj : j < X.length) : ∀ (n l : Nat) (PL : List (List Nat)) (u : Mm), l + n = X.length → SV z B v L X w u0 PL u → (PL ++ (subs 1 (X.drop l)).map (fun P => X.getD i 0 :: X.getD j 0 :: P)).length ≤ 91999 → (∀ u', SV z B v L X w u0 (PL ++ (subs 1 (X.drop l)).map (fun P => X.getD i 0 :: X.getD j 0 :: P)) u' → K2 (z + 458) (z + 172) (nI i) (nI (j + 1)) u') → V_X5_search_137 G Q K1 K2 (n + 1) (z + 458) (z + 172) (nI i) (nI j) (nI l) u
  | 0, l, PL, u, hl, hS, hb, hK => by
    obtain ⟨k5, c2, _⟩ := hS.ln hh
    have hl' : l = X.length := by omega
    subst hl'
    show V_X5_search_137_B G Q K1 K2 (V_X5_search_137 G Q K1 K2 0) (z + 458) (z + 172) (nI i) (nI j) (nI X.length) u
    unfold V_X5_search_137_B
    rw [c2]
    refine ⟨k5, fun _ y hy => ?_, fun c => absurd (nI_le (Nat.le_refl _) (by omega)) c⟩
    rw [hy, nI_1]
    rw [List.drop_length] at hK
    have := hK u
    simp only [subs, List.map_nil, List.append_nil] at this
    exact this hS
  | n + 1, l, PL, u, hl, hS, hb, hK => by
    obtain ⟨k5, c2, p3, p1, p2, px⟩ := hS.ln hh
    have hlX : l < X.length := by omega
    have ed : subs 1 (X.drop l) = [[X.getD l 0]] ++ subs 1 (X.drop (l + 1)) := by
      rw [drop_cons hlX]
      show (subs 0 (X.drop (l + 1))).map (fun P => X.getD l 0 :: P) ++ subs 1 (X.drop (l + 1)) = _
      rw [subs_0]
      rfl
    rw [ed, List.map_append, ← List.append_assoc] at hK hb
    show V_X5_search_137_B G Q K1 K2 (V_X5_search_137 G Q K1 K2 (n + 1)) (z + 458) (z + 172) (nI i) (nI j) (nI l) u
    unfold V_X5_search_137_B
    rw [c2, p3, p1, p2, nI_clamp (show i < 2 ^ 31 by omega), nI_clamp (show j < 2 ^ 31 by omega), nI_clamp (show l < 2 ^ 31 by omega), px i hi, px j hj, px l hlX]
    refine ⟨k5, fun c => absurd ((nI_leI (by omega) (by omega)).mp c) (by omega), fun _ => ⟨by omega, rfl, vp_in_nI (by omega) (by omega), vp_in_nI (by omega) (by omega), vp_in_nI (by omega) (by omega), c_tryPlan (P := [X.getD i 0, X.getD j 0, X.getD l 0]) hh hS (Nat.le_refl _) ?_ ?_ (fun u2 hS2 y hy => ?_)⟩⟩
    · intro a ha
      simp only [List.mem_cons, List.not_mem_nil, or_false] at ha
      rcases ha with r | r | r
      · rw [r]; exact getX hX8 hi
      · rw [r]; exact getX hX8 hj
      · rw [r]; exact getX hX8 hlX
    · rw [List.length_append, List.length_append] at hb
      have : (List.map (fun P => X.getD i 0 :: X.getD j 0 :: P) [[X.getD l 0]]).length = 1 := rfl
      omega
    · rw [hy, nI_1]
      exact se_137 hh hX hX8 hi hj n (l + 1) _ u2 (by omega) hS2 hb hK
theorem se_122 {Q : Int32 → Mm → Prop} {K1 : Nat → Nat → Int32 → Mm → Prop} {z i : Nat} {B : Bk} {v yr w : Int32} {L X : List Nat} {u0 : Mm} (hh : SH G z B v yr L u0) (hX : X.length ≤ 82) (hX8 : ∀ a, a ∈ X → a < 82) (hi : i < X.length) : ∀ (n j : Nat) (PL : List (List Nat)) (u : Mm), j + n = X.length → SV z B v L X w u0 PL u → (PL ++ (subs 2 (X.drop j)).map (fun P => X.getD i 0 :: P)).length ≤ 91999 → (∀ u', SV z B v L X w u0 (PL ++ (subs 2 (X.drop j)).map (fun P => X.getD i 0 :: P)) u' → K1 (z + 458) (z + 172) (nI (i + 1)) u') → V_X5_search_122 G Q K1 (n + 1) (z + 458) (z + 172) (nI i) (nI j) u
  | 0, j, PL, u, hj, hS, hb, hK => by
    obtain ⟨k5, c2, _⟩ := hS.ln hh
    have hj' : j = X.length := by omega
    subst hj'
    show V_X5_search_122_B G Q K1 (V_X5_search_122 G Q K1 0) (z + 458) (z + 172) (nI i) (nI X.length) u
    unfold V_X5_search_122_B
    rw [c2]
    refine ⟨k5, fun _ y hy => ?_, fun c => absurd (nI_le (Nat.le_refl _) (by omega)) c⟩
    rw [hy, nI_1]
    rw [List.drop_length] at hK
    have := hK u
    simp only [subs, List.map_nil, List.append_nil] at this
    exact this hS
  | n + 1, j, PL, u, hj, hS, hb, hK => by
    obtain ⟨k5, c2, p3, p1, p2, px⟩ := hS.ln hh
    have hjX : j < X.length := by omega
    have ed : (subs 2 (X.drop j)).map (fun P => X.getD i 0 :: P) = (subs 1 (X.drop (j + 1))).map (fun P => X.getD i 0 :: X.getD j 0 :: P) ++ (subs 2 (X.drop (j + 1))).map (fun P => X.getD i 0 :: P) := by
      rw [drop_cons hjX]
      show ((subs 1 (X.drop (j + 1))).map (fun P => X.getD j 0 :: P) ++ subs 2 (X.drop (j + 1))).map (fun P => X.getD i 0 :: P) = _
      rw [List.map_append, List.map_map]
      rfl
    rw [ed, ← List.append_assoc] at hK hb
    show V_X5_search_122_B G Q K1 (V_X5_search_122 G Q K1 (n + 1)) (z + 458) (z + 172) (nI i) (nI j) u
    unfold V_X5_search_122_B
    rw [c2]
    refine ⟨k5, fun c => absurd ((nI_leI (by omega) (by omega)).mp c) (by omega), fun _ y hy => ⟨X.length - (j + 1) + 1, ?_⟩⟩
    rw [hy, nI_1]
    refine se_137 hh hX hX8 hi hjX (X.length - (j + 1)) (j + 1) PL u (by omega) hS (by rw [List.length_append] at hb; omega) (fun u2 hS2 => ?_)
    exact se_122 hh hX hX8 hi n (j + 1) _ u2 (by omega) hS2 hb hK
theorem se_109 {Q : Int32 → Mm → Prop} {z : Nat} {B : Bk} {v yr w : Int32} {L X : List Nat} {u0 : Mm} (hh : SH G z B v yr L u0) (hX : X.length ≤ 82) (hX8 : ∀ a, a ∈ X → a < 82) : ∀ (n i : Nat) (PL : List (List Nat)) (u : Mm), i + n = X.length → SV z B v L X w u0 PL u → (PL ++ subs 3 (X.drop i)).length ≤ 91999 → (∀ u', SV z B v L X w u0 (PL ++ subs 3 (X.drop i)) u' → (w = -1 → Q (nI ((PL ++ subs 3 (X.drop i)).filter (plF B v L)).length) u') ∧ (¬ w = -1 → Q (gI u' (z + 458) 7) u')) → V_X5_search_109 G Q (n + 1) (z + 458) (z + 172) (nI i) u
  | 0, i, PL, u, hi, hS, hb, hK => by
    have hi' : i = X.length := by omega
    subst hi'
    rw [List.drop_length] at hK
    simp only [subs, List.append_nil] at hK
    exact se_end hh hX hX8 hK hS 0
  | n + 1, i, PL, u, hi, hS, hb, hK => by
    obtain ⟨k5, c2, p3, p1, p2, px⟩ := hS.ln hh
    have hiX : i < X.length := by omega
    have ed : subs 3 (X.drop i) = (subs 2 (X.drop (i + 1))).map (fun P => X.getD i 0 :: P) ++ subs 3 (X.drop (i + 1)) := by
      rw [drop_cons hiX]
      rfl
    rw [ed, ← List.append_assoc] at hK hb
    show V_X5_search_109_B G Q (V_X5_search_109 G Q (n + 1)) (z + 458) (z + 172) (nI i) u
    unfold V_X5_search_109_B
    rw [c2]
    refine ⟨k5, fun c => absurd ((nI_leI (by omega) (by omega)).mp c) (by omega), fun _ y hy => ⟨X.length - (i + 1) + 1, ?_⟩⟩
    rw [hy, nI_1]
    refine se_122 hh hX hX8 hiX (X.length - (i + 1)) (i + 1) PL u (by omega) hS (by rw [List.length_append] at hb; omega) (fun u2 hS2 => ?_)
    exact se_109 hh hX hX8 n (i + 1) _ u2 (by omega) hS2 hb hK
theorem se_67 {Q : Int32 → Mm → Prop} {K1 : Nat → Nat → Int32 → Mm → Prop} {z i : Nat} {B : Bk} {v yr w : Int32} {L X : List Nat} {u0 : Mm} (hh : SH G z B v yr L u0) (hX : X.length ≤ 82) (hX8 : ∀ a, a ∈ X → a < 82) (hi : i < X.length) : ∀ (n j : Nat) (PL : List (List Nat)) (u : Mm), j + n = X.length → SV z B v L X w u0 PL u → (PL ++ (subs 1 (X.drop j)).map (fun P => X.getD i 0 :: P)).length ≤ 91999 → (∀ u', SV z B v L X w u0 (PL ++ (subs 1 (X.drop j)).map (fun P => X.getD i 0 :: P)) u' → K1 (z + 458) (z + 172) (nI (i + 1)) u') → V_X5_search_67 G Q K1 (n + 1) (z + 458) (z + 172) (nI i) (nI j) u
  | 0, j, PL, u, hj, hS, hb, hK => by
    obtain ⟨k5, c2, _⟩ := hS.ln hh
    have hj' : j = X.length := by omega
    subst hj'
    show V_X5_search_67_B G Q K1 (V_X5_search_67 G Q K1 0) (z + 458) (z + 172) (nI i) (nI X.length) u
    unfold V_X5_search_67_B
    rw [c2]
    refine ⟨k5, fun _ y hy => ?_, fun c => absurd (nI_le (Nat.le_refl _) (by omega)) c⟩
    rw [hy, nI_1]
    rw [List.drop_length] at hK
    have := hK u
    simp only [subs, List.map_nil, List.append_nil] at this
    exact this hS
  | n + 1, j, PL, u, hj, hS, hb, hK => by
    obtain ⟨k5, c2, p3, p1, p2, px⟩ := hS.ln hh
    have hjX : j < X.length := by omega
    have ed : subs 1 (X.drop j) = [[X.getD j 0]] ++ subs 1 (X.drop (j + 1)) := by
      rw [drop_cons hjX]
      show (subs 0 (X.drop (j + 1))).map (fun P => X.getD j 0 :: P) ++ subs 1 (X.drop (j + 1)) = _
      rw [subs_0]
      rfl
    rw [ed, List.map_append, ← List.append_assoc] at hK hb
    show V_X5_search_67_B G Q K1 (V_X5_search_67 G Q K1 (n + 1)) (z + 458) (z + 172) (nI i) (nI j) u
    unfold V_X5_search_67_B
    rw [c2, p3, p1, p2, nI_clamp (show i < 2 ^ 31 by omega), nI_clamp (show j < 2 ^ 31 by omega), px i hi, px j hjX]
    refine ⟨k5, fun c => absurd ((nI_leI (by omega) (by omega)).mp c) (by omega), fun _ => ⟨by omega, rfl, vp_in_nI (by omega) (by omega), vp_in_nI (by omega) (by omega), c_tryPlan (P := [X.getD i 0, X.getD j 0]) hh hS (show 2 ≤ 3 by omega) ?_ ?_ (fun u2 hS2 y hy => ?_)⟩⟩
    · intro a ha
      simp only [List.mem_cons, List.not_mem_nil, or_false] at ha
      rcases ha with r | r
      · rw [r]; exact getX hX8 hi
      · rw [r]; exact getX hX8 hjX
    · rw [List.length_append, List.length_append] at hb
      have : (List.map (fun P => X.getD i 0 :: P) [[X.getD j 0]]).length = 1 := rfl
      omega
    · rw [hy, nI_1]
      exact se_67 hh hX hX8 hi n (j + 1) _ u2 (by omega) hS2 hb hK
theorem se_54 {Q : Int32 → Mm → Prop} {z : Nat} {B : Bk} {v yr w : Int32} {L X : List Nat} {u0 : Mm} (hh : SH G z B v yr L u0) (hX : X.length ≤ 82) (hX8 : ∀ a, a ∈ X → a < 82) : ∀ (n i : Nat) (PL : List (List Nat)) (u : Mm), i + n = X.length → SV z B v L X w u0 PL u → (PL ++ subs 2 (X.drop i)).length ≤ 91999 → (∀ u', SV z B v L X w u0 (PL ++ subs 2 (X.drop i)) u' → ∃ m, V_X5_search_109 G Q m (z + 458) (z + 172) (0 : Int32) u') → V_X5_search_54 G Q (n + 1) (z + 458) (z + 172) (nI i) u
  | 0, i, PL, u, hi, hS, hb, hK => by
    obtain ⟨k5, c2, _⟩ := hS.ln hh
    have hi' : i = X.length := by omega
    subst hi'
    show V_X5_search_54_B G Q (V_X5_search_54 G Q 0) (z + 458) (z + 172) (nI X.length) u
    unfold V_X5_search_54_B
    rw [c2]
    rw [List.drop_length] at hK
    simp only [subs, List.append_nil] at hK
    exact ⟨k5, fun _ => hK u hS, fun c => absurd (nI_le (Nat.le_refl _) (by omega)) c⟩
  | n + 1, i, PL, u, hi, hS, hb, hK => by
    obtain ⟨k5, c2, p3, p1, p2, px⟩ := hS.ln hh
    have hiX : i < X.length := by omega
    have ed : subs 2 (X.drop i) = (subs 1 (X.drop (i + 1))).map (fun P => X.getD i 0 :: P) ++ subs 2 (X.drop (i + 1)) := by
      rw [drop_cons hiX]
      rfl
    rw [ed, ← List.append_assoc] at hK hb
    show V_X5_search_54_B G Q (V_X5_search_54 G Q (n + 1)) (z + 458) (z + 172) (nI i) u
    unfold V_X5_search_54_B
    rw [c2]
    refine ⟨k5, fun c => absurd ((nI_leI (by omega) (by omega)).mp c) (by omega), fun _ y hy => ⟨X.length - (i + 1) + 1, ?_⟩⟩
    rw [hy, nI_1]
    refine se_67 hh hX hX8 hiX (X.length - (i + 1)) (i + 1) PL u (by omega) hS (by rw [List.length_append] at hb; omega) (fun u2 hS2 => ?_)
    exact se_54 hh hX hX8 n (i + 1) _ u2 (by omega) hS2 hb hK
theorem se_25 {Q : Int32 → Mm → Prop} {z : Nat} {B : Bk} {v yr w : Int32} {L X : List Nat} {u0 : Mm} (hh : SH G z B v yr L u0) (hX : X.length ≤ 82) (hX8 : ∀ a, a ∈ X → a < 82) : ∀ (n i : Nat) (PL : List (List Nat)) (u : Mm), i + n = X.length → SV z B v L X w u0 PL u → (PL ++ subs 1 (X.drop i)).length ≤ 91999 → (∀ u', SV z B v L X w u0 (PL ++ subs 1 (X.drop i)) u' → ∃ m, V_X5_search_54 G Q m (z + 458) (z + 172) (0 : Int32) u') → V_X5_search_25 G Q (n + 1) (z + 458) (z + 172) (nI i) u
  | 0, i, PL, u, hi, hS, hb, hK => by
    obtain ⟨k5, c2, _⟩ := hS.ln hh
    have hi' : i = X.length := by omega
    subst hi'
    show V_X5_search_25_B G Q (V_X5_search_25 G Q 0) (z + 458) (z + 172) (nI X.length) u
    unfold V_X5_search_25_B
    rw [c2]
    rw [List.drop_length] at hK
    simp only [subs, List.append_nil] at hK
    exact ⟨k5, fun _ => hK u hS, fun c => absurd (nI_le (Nat.le_refl _) (by omega)) c⟩
  | n + 1, i, PL, u, hi, hS, hb, hK => by
    obtain ⟨k5, c2, p3, p1, p2, px⟩ := hS.ln hh
    have hiX : i < X.length := by omega
    have ed : subs 1 (X.drop i) = [[X.getD i 0]] ++ subs 1 (X.drop (i + 1)) := by
      rw [drop_cons hiX]
      show (subs 0 (X.drop (i + 1))).map (fun P => X.getD i 0 :: P) ++ subs 1 (X.drop (i + 1)) = _
      rw [subs_0]
      rfl
    rw [ed, ← List.append_assoc] at hK hb
    show V_X5_search_25_B G Q (V_X5_search_25 G Q (n + 1)) (z + 458) (z + 172) (nI i) u
    unfold V_X5_search_25_B
    rw [c2, p3, p1, p2, nI_clamp (show i < 2 ^ 31 by omega), px i hiX]
    refine ⟨k5, fun c => absurd ((nI_leI (by omega) (by omega)).mp c) (by omega), fun _ => ⟨by omega, rfl, vp_in_nI (by omega) (by omega), c_tryPlan (P := [X.getD i 0]) hh hS (show 1 ≤ 3 by omega) ?_ ?_ (fun u2 hS2 y hy => ?_)⟩⟩
    · intro a ha
      rw [List.mem_singleton] at ha
      rw [ha]; exact getX hX8 hiX
    · rw [List.length_append, List.length_append] at hb
      have : ([[X.getD i 0]] : List (List Nat)).length = 1 := rfl
      omega
    · rw [hy, nI_1]
      exact se_25 hh hX hX8 n (i + 1) _ u2 (by omega) hS2 hb hK
theorem c_search {Q : Int32 → Mm → Prop} {z : Nat} {B : Bk} {v yr w : Int32} {L : List Nat} {u0 : Mm} (hh : SH G z B v yr L u0) (f : Fx (inP z) u0 u) (hP : PlI z v (lnL B v L) u) (hQ : ∀ u', Fx (inP z) u0 u' → (w = -1 → Q (nI (plP B v L).length) u') ∧ (¬ w = -1 → ∀ r, ((∀ j, j < (plP B v L).length → w ≠ nI j) → r = -1) → (∀ j, j < (plP B v L).length → w = nI j → r = cdP ((plP B v L).getD j [])) → Q r u')) : V_X5_search G (z + 458) (z + 172) w u Q := by
  have k5 := (hh.1.fx f).pl.2.2.1
  have hX := lnL_len B v L
  have hX8 : ∀ a, a ∈ lnL B v L → a < 82 := fun a ha => lnL_mem ha
  have hbig := plnA_len (lnL B v L) hX
  refine ⟨k5, fun w1 e1 w2 e2 w3 e3 => ?_⟩
  have f3 : Fx (fun a j => a = z + 458 ∧ (j = 5 ∨ j = 6 ∨ j = 7)) u w3 := by
    rw [e3, e2, e1]
    exact ((Fx.put (by omega)).trans (Fx.put (by omega))).trans (Fx.put (by omega))
  have S0 : SV z B v L (lnL B v L) w u0 [] w3 := by
    refine ⟨f.trans (f3.mono (fun a j q => by unfold inP; omega)), ⟨?_, ?_, fun i hi => ?_⟩, ?_, ?_, fun _ => ?_, fun j hj => absurd hj (by simp)⟩
    · rw [f3.2 _ _ (by omega)]; exact hP.1
    · rw [f3.2 _ _ (by omega)]; exact hP.2.1
    · rw [f3.2 _ _ (by omega)]; exact hP.2.2 i hi
    · rw [e3, gI_sI, if_neg (by omega), e2, gI_sI, if_neg (by omega), e1, gI_sI, if_pos ⟨rfl, rfl⟩]
    · rw [e3, gI_sI, if_neg (by omega), e2, gI_sI, if_pos ⟨rfl, rfl⟩]; rfl
    · rw [e3, gI_sI, if_pos ⟨rfl, rfl⟩]
  clear e1 e2 e3 f3
  have hlen : (plnA (lnL B v L)).length ≤ 91999 := by omega
  unfold plnA at hlen
  refine c_tryPlan (P := []) hh S0 (Nat.zero_le _) (fun a ha => by cases ha) (by simp) (fun u1 S1 => ⟨(lnL B v L).length + 1, ?_⟩)
  rw [List.nil_append] at S1
  refine se_25 hh hX hX8 (lnL B v L).length 0 _ u1 (Nat.zero_add _) S1 (by rw [List.drop_zero]; rw [List.length_append, List.length_append] at hlen; omega) (fun u2 S2 => ⟨(lnL B v L).length + 1, ?_⟩)
  rw [List.drop_zero] at S2
  refine se_54 hh hX hX8 (lnL B v L).length 0 _ u2 (Nat.zero_add _) S2 (by rw [List.drop_zero]; rw [List.length_append] at hlen; omega) (fun u3 S3 => ⟨(lnL B v L).length + 1, ?_⟩)
  rw [List.drop_zero] at S3
  refine se_109 hh hX hX8 (lnL B v L).length 0 _ u3 (Nat.zero_add _) S3 (by rw [List.drop_zero]; exact hlen) (fun u4 S4 => ?_)
  rw [List.drop_zero] at S4 ⊢
  have e : ((([[]] : List (List Nat)) ++ subs 1 (lnL B v L)) ++ subs 2 (lnL B v L) ++ subs 3 (lnL B v L)).filter (plF B v L) = plP B v L := (plP_eq B v L).symm
  rw [e]
  obtain ⟨g1, _, g3⟩ := S4
  rw [e] at g3
  obtain ⟨q1, q2⟩ := hQ u4 g1
  exact ⟨q1, fun ne => q2 ne _ g3.2.2.1 g3.2.2.2⟩
noncomputable def plE (S : St) (yr v i : Int32) : Int32 := pick (¬ btw 0 99 yr) 1 (pick (¬ (btw 50 150 v ∧ pnL (sB S) yr (bkN (sB S)) ≠ [])) 2 (pick (i = -1 ∨ inN (plP (sB S) v (pnL (sB S) yr (bkN (sB S)))).length i) 0 1))
def plV (S : St) (yr v i : Int32) : Int32 := if i = -1 then nI (plP (sB S) v (pnL (sB S) yr (bkN (sB S)))).length else cdP ((plP (sB S) v (pnL (sB S) yr (bkN (sB S)))).getD i.toNatClampNeg [])
theorem plP_len (B : Bk) (v : Int32) (L : List Nat) : (plP B v L).length ≤ 91964 := by
  have h1 := List.length_filter_le (plF B v L) (plnA (List.range 82))
  have h2 := plnA_len (List.range 82) (by rw [List.length_range]; omega)
  unfold plP
  omega
theorem c_plans {Q : Int32 → Mm → Prop} {X : String → Mm → Prop} {z : Nat} {o : Nat → Nat} {S : St} {yr v i : Int32} (hR : RC G u z o S) (hS : okS S) (hQ : ∀ u', Kc z u u' → (plE S yr v i = 0 → Q (plV S yr v i) u') ∧ (plE S yr v i = 1 → X "java/util/NoSuchElementException" u') ∧ (plE S yr v i = 2 → X "java/lang/IllegalArgumentException" u')) : V_X11_plans G z yr v i u Q X := by
  obtain ⟨h, hL, hC, hB, _⟩ := id hR
  have hk := hS.2.1
  have n20 := hk.1
  unfold plE at hQ
  refine c_needYear (fun hyr => ?_) (fun g => (hQ u Kc.rfl').2.1 (pick_t g))
  rw [pick_f (fun q => q hyr)] at hQ
  have hlen : (pnL (sB S) yr (bkN (sB S))).length ≤ bkN (sB S) := flt_len _ _
  have bad : ¬ btw 50 150 v → V_X11_plans_17 G Q X u := fun g => (hQ u Kc.rfl').2.2 (pick_t (fun q => g q.1))
  refine ⟨fun c => bad (fun q => ?_), fun c => ⟨fun c2 => ?_, fun c2 => bad (fun q => ?_)⟩⟩
  · rw [fa_lt, li_50] at c
    have := q.1
    omega
  · have hv : btw 50 150 v := by
      rw [fa_lt, li_50] at c
      rw [fa_le, li_150] at c2
      exact ⟨by omega, by omega⟩
    rw [h.bk.1]
    refine ⟨h.k, by omega, h.bk.2.2.1, c_pick h hB hk (fun u0 k0 p0 => ⟨fun e => ?_, fun e => ?_⟩)⟩
    · refine (hQ u0 k0).2.2 (pick_t (fun q => q.2 ?_))
      exact List.eq_nil_of_length_eq_zero (nI_inj (b := 0) (by omega) (by omega) e)
    · have ne : pnL (sB S) yr (bkN (sB S)) ≠ [] := fun q => e (by rw [q]; rfl)
      rw [pick_f (fun q => q ⟨hv, ne⟩)] at hQ
      obtain ⟨g0, gL, gC, gB, _⟩ := hR.kc hS k0
      rw [g0.pl.1, g0.bk.1]
      have hm : ∀ s, s ∈ pnL (sB S) yr (bkN (sB S)) → s < bkN (sB S) ∧ bkF (sB S) s 0 ≠ -1 ∧ bkF (sB S) s 2 = yr := fun s hs => pnL_mem hs
      have hh : SH G z (sB S) v yr (pnL (sB S) yr (bkN (sB S))) u0 := ⟨g0, gB, hk, p0, by omega, hm, hv⟩
      refine ⟨by omega, by omega, g0.pl.2.2.1, c_prepare g0 gB hk p0 (by omega) hm hv (fun u1 f1 P1 => ?_)⟩
      have g1 := g0.fx f1
      rw [g1.pl.1, g1.bk.1]
      refine ⟨by omega, by omega, g1.pl.2.2.1, c_search hh f1 P1 (fun u2 f2 => ?_)⟩
      have K2 : Kc z u u2 := by
        refine ⟨fun a j q => ?_, fun a j q => ?_, ?_⟩
        · rw [f2.2 a j (fun q2 => q (Or.inl (inP_cst q2)))]; exact k0.1 a j q
        · rw [f2.gR]; exact k0.2.1 a j q
        · rw [f2.1]; exact k0.2.2
      obtain ⟨q0, q1, q2⟩ := hQ u2 K2
      have pl := plP_len (sB S) v (pnL (sB S) yr (bkN (sB S)))
      unfold plV at q0
      refine ⟨fun e1 => ⟨fun _ => ?_, fun c => absurd e1 c⟩, fun e1 r r1 r2 => ⟨fun c => absurd c e1, fun _ => ⟨fun rm => ?_, fun rm => ?_⟩⟩⟩
      · have := q0 (pick_t (Or.inl e1))
        rw [if_pos e1] at this
        exact this
      · refine q1 (pick_f (fun q => ?_))
        rcases q with q | ⟨j, hj, q⟩
        · exact e1 q
        · have e2 := r2 j hj q
          rw [rm] at e2
          have hmem : (plP (sB S) v (pnL (sB S) yr (bkN (sB S)))).getD j [] ∈ plnA (List.range 82) := by
            rw [List.getD_eq_getElem?_getD, List.getElem?_eq_getElem hj]
            exact (List.mem_filter.mp (List.getElem_mem hj)).1
          exact cdP_ne (plnA_mem (fun a ha => List.mem_range.mp ha) hmem).2 e2.symm
      · by_cases w : ∃ j, j < (plP (sB S) v (pnL (sB S) yr (bkN (sB S)))).length ∧ i = nI j
        · obtain ⟨j, hj, ej⟩ := w
          have := q0 (pick_t (Or.inr ⟨j, hj, ej⟩))
          rw [if_neg e1, ej, nI_clamp (by omega), ← r2 j hj ej] at this
          exact this
        · exact absurd (r1 (fun j hj ej => w ⟨j, hj, ej⟩)) rm
  · rw [fa_le, li_150] at c2
    have := q.2
    omega
end SEARCH
