theorem arr_of {s : State} {cA comp : ClassId} {kA : Class} {ty : FieldType} (f2 : s.vm.classes[cA]? = some kA) (f3 : kA.kind = .array comp ty) : ArrOfT s cA ty := fun N z => ⟨(fun k h => by cases h), kA, f2, comp, f3⟩
set_option maxHeartbeats 8000000 in
set_option maxRecDepth 100000 in
theorem strs_all {A : Nat → Prop} {args : Array Value} {s : State} (h : narrow_1.before args s = true) (hts : ∀ w ∈ lw_tbl, w.before args s = true) (hA : ∀ a : Nat, a < s.heap.size → ¬ A a) : ∀ i : Nat, i < 36 → ∃ a v : Nat, vk_R (kOwn i) (kIdx i) (kTxt i) a s ∧ va_O "java/lang/String" a A s s.heap ∧ va_OF "java/lang/String" "coder" "B" (.int 0) a A s s.heap ∧ va_OF "java/lang/String" "value" "[B" (.ref v) a A s s.heap ∧ va_T .byte v (kLen i) (fun j => .int ((kByt i).getD j 0)) A s s.heap := by
  intro i hi
  rcases (show i = 0 ∨ i = 1 ∨ i = 2 ∨ i = 3 ∨ i = 4 ∨ i = 5 ∨ i = 6 ∨ i = 7 ∨ i = 8 ∨ i = 9 ∨ i = 10 ∨ i = 11 ∨ i = 12 ∨ i = 13 ∨ i = 14 ∨ i = 15 ∨ i = 16 ∨ i = 17 ∨ i = 18 ∨ i = 19 ∨ i = 20 ∨ i = 21 ∨ i = 22 ∨ i = 23 ∨ i = 24 ∨ i = 25 ∨ i = 26 ∨ i = 27 ∨ i = 28 ∨ i = 29 ∨ i = 30 ∨ i = 31 ∨ i = 32 ∨ i = 33 ∨ i = 34 ∨ i = 35 by omega) with r | r | r | r | r | r | r | r | r | r | r | r | r | r | r | r | r | r | r | r | r | r | r | r | r | r | r | r | r | r | r | r | r | r | r | r
  · subst r; exact str_0 h (hts _ (mw_3 (List.mem_of_getElem? (i := 118) rfl))) hA
  · subst r; exact str_1 h (hts _ (mw_3 (List.mem_of_getElem? (i := 153) rfl))) hA
  · subst r; exact str_2 h (hts _ (mw_3 (List.mem_of_getElem? (i := 175) rfl))) hA
  · subst r; exact str_3 h (hts _ (mw_4 (List.mem_of_getElem? (i := 4) rfl))) hA
  · subst r; exact str_4 h (hts _ (mw_4 (List.mem_of_getElem? (i := 9) rfl))) hA
  · subst r; exact str_5 h (hts _ (mw_4 (List.mem_of_getElem? (i := 10) rfl))) hA
  · subst r; exact str_6 h (hts _ (mw_4 (List.mem_of_getElem? (i := 15) rfl))) hA
  · subst r; exact str_7 h (hts _ (mw_4 (List.mem_of_getElem? (i := 16) rfl))) hA
  · subst r; exact str_8 h (hts _ (mw_4 (List.mem_of_getElem? (i := 21) rfl))) hA
  · subst r; exact str_9 h (hts _ (mw_4 (List.mem_of_getElem? (i := 26) rfl))) hA
  · subst r; exact str_10 h (hts _ (mw_4 (List.mem_of_getElem? (i := 42) rfl))) hA
  · subst r; exact str_11 h (hts _ (mw_4 (List.mem_of_getElem? (i := 50) rfl))) hA
  · subst r; exact str_12 h (hts _ (mw_4 (List.mem_of_getElem? (i := 65) rfl))) hA
  · subst r; exact str_13 h (hts _ (mw_4 (List.mem_of_getElem? (i := 69) rfl))) hA
  · subst r; exact str_14 h (hts _ (mw_4 (List.mem_of_getElem? (i := 73) rfl))) hA
  · subst r; exact str_15 h (hts _ (mw_4 (List.mem_of_getElem? (i := 162) rfl))) hA
  · subst r; exact str_16 h (hts _ (mw_4 (List.mem_of_getElem? (i := 173) rfl))) hA
  · subst r; exact str_17 h (hts _ (mw_4 (List.mem_of_getElem? (i := 189) rfl))) hA
  · subst r; exact str_18 h (hts _ (mw_4 (List.mem_of_getElem? (i := 205) rfl))) hA
  · subst r; exact str_19 h (hts _ (mw_5 (List.mem_of_getElem? (i := 2) rfl))) hA
  · subst r; exact str_20 h (hts _ (mw_5 (List.mem_of_getElem? (i := 14) rfl))) hA
  · subst r; exact str_21 h (hts _ (mw_5 (List.mem_of_getElem? (i := 15) rfl))) hA
  · subst r; exact str_22 h (hts _ (mw_5 (List.mem_of_getElem? (i := 24) rfl))) hA
  · subst r; exact str_23 h (hts _ (mw_5 (List.mem_of_getElem? (i := 69) rfl))) hA
  · subst r; exact str_24 h (hts _ (mw_5 (List.mem_of_getElem? (i := 70) rfl))) hA
  · subst r; exact str_25 h (hts _ (mw_5 (List.mem_of_getElem? (i := 105) rfl))) hA
  · subst r; exact str_26 h (hts _ (mw_5 (List.mem_of_getElem? (i := 113) rfl))) hA
  · subst r; exact str_27 h (hts _ (mw_5 (List.mem_of_getElem? (i := 114) rfl))) hA
  · subst r; exact str_28 h (hts _ (mw_5 (List.mem_of_getElem? (i := 179) rfl))) hA
  · subst r; exact str_29 h (hts _ (mw_5 (List.mem_of_getElem? (i := 180) rfl))) hA
  · subst r; exact str_30 h (hts _ (mw_5 (List.mem_of_getElem? (i := 181) rfl))) hA
  · subst r; exact str_31 h (hts _ (mw_5 (List.mem_of_getElem? (i := 182) rfl))) hA
  · subst r; exact str_32 h (hts _ (mw_5 (List.mem_of_getElem? (i := 183) rfl))) hA
  · subst r; exact str_33 h (hts _ (mw_5 (List.mem_of_getElem? (i := 184) rfl))) hA
  · subst r; exact str_34 h (hts _ (mw_6 (List.mem_of_getElem? (i := 188) rfl))) hA
  · subst r; exact str_35 h (hts _ (mw_6 (List.mem_of_getElem? (i := 201) rfl))) hA
set_option maxHeartbeats 8000000 in
set_option maxRecDepth 100000 in
theorem whole_startP (PV : ∀ G : Gx, okG G → ∀ (b L : Nat) (xs : Nat → Int32), L ≤ 3584 → V_start G b L xs) {p : Program} {e : Env} {s : State} {m : MethodId} {below : List Frame} {meth : Method} {c : Code} (l : Launch) (hst : l.stackTraces = false) {b L : Nat} {xs : Nat → Int32} (hL : L ≤ 3584) (C0 : lw_At p s m meth c b L xs) : W p l e room_1 s m #[Value.ref b] below meth c s.heap [] 0 0 (lw_Z below #[Value.ref b] s) (entryFrame m ([Value.ref b] : List Value).toArray 7) := by
  obtain ⟨hx, hb, hr, hml, hown, hts, hX, hbl, hlocks, hgv⟩ := C0
  have hA : AllW s := AllW.of hts
  have hnr : narrow_1.before #[Value.ref b] s = true := aR hgv
  have hlow : ∀ a : Nat, a < s.heap.size → ¬ (fun q : Nat => s.heap.size ≤ q) a := fun a h => Nat.not_le.mpr h
  obtain ⟨c0, i0, h0⟩ := u_known (C := RX0) (T := TX0) (N := 5) (n := 5) hts (fun w h => (lm_X0 w h).1) (inst_X0 hA)
  obtain ⟨c1, i1, h1⟩ := u_known (C := RX1) (T := TX1) (N := 8) (n := 8) hts (fun w h => (lm_X1 w h).1) (inst_X1 hA)
  obtain ⟨c2, i2, h2⟩ := u_known (C := RX2) (T := TX2) (N := 5) (n := 5) hts (fun w h => (lm_X2 w h).1) (inst_X2 hA)
  obtain ⟨c3, i3, h3⟩ := u_known (C := RX3) (T := TX3) (N := 7) (n := 7) hts (fun w h => (lm_X3 w h).1) (inst_X3 hA)
  obtain ⟨c4, i4, h4⟩ := u_known (C := RX4) (T := TX4) (N := 8) (n := 8) hts (fun w h => (lm_X4 w h).1) (inst_X4 hA)
  obtain ⟨c5, i5, h5⟩ := u_known (C := RX5) (T := TX5) (N := 8) (n := 8) hts (fun w h => (lm_X5 w h).1) (inst_X5 hA)
  obtain ⟨c6, i6, h6⟩ := u_known (C := RX6) (T := TX6) (N := 9) (n := 9) hts (fun w h => (lm_X6 w h).1) (inst_X6 hA)
  obtain ⟨c7, i7, h7⟩ := u_known (C := RX7) (T := TX7) (N := 7) (n := 7) hts (fun w h => (lm_X7 w h).1) (inst_X7 hA)
  obtain ⟨c8, i8, h8⟩ := u_known (C := RX8) (T := TX8) (N := 12) (n := 12) hts (fun w h => (lm_X8 w h).1) (inst_X8 hA)
  obtain ⟨c9, i9, h9⟩ := u_known (C := RX9) (T := TX9) (N := 5) (n := 5) hts (fun w h => (lm_X9 w h).1) (inst_X9 hA)
  obtain ⟨c10, i10, h10⟩ := u_known (C := RX10) (T := TX10) (N := 5) (n := 5) hts (fun w h => (lm_X10 w h).1) (inst_X10 hA)
  obtain ⟨c11, i11, h11⟩ := u_known (C := RX11) (T := TX11) (N := 12) (n := 12) hts (fun w h => (lm_X11 w h).1) (inst_X11 hA)
  obtain ⟨c12, i12, h12⟩ := u_known (C := RX12) (T := TX12) (N := 58) (n := 58) hts (fun w h => (lm_X12 w h).1) (inst_X12 hA)
  obtain ⟨aI, kI, mI, fI1, fI2, fI3⟩ := Cond.arrayClass_spec (ac_int hA (A := #[]))
  obtain ⟨aB, kB, mB, fB1, fB2, fB3⟩ := Cond.arrayClass_spec (ac_byte hA (A := #[]))
  obtain ⟨aJ, kJ, mJ, fJ1, fJ2, fJ3⟩ := Cond.arrayClass_spec (ac_long hA (A := #[]))
  obtain ⟨mLand, aLand, kLand, fLand1, -, fLand2, fLand3, fLand4⟩ := Cond.arrayOver_spec (ao_object_ClapValley_Land hA (A := #[]))
  obtain ⟨mWall, aWall, kWall, fWall1, -, fWall2, fWall3, fWall4⟩ := Cond.arrayOver_spec (ao_object_ClapValley_Wall hA (A := #[]))
  obtain ⟨mBarn, aBarn, kBarn, fBarn1, -, fBarn2, fBarn3, fBarn4⟩ := Cond.arrayOver_spec (ao_object_ClapValley_Barn hA (A := #[]))
  obtain ⟨mWood, aWood, kWood, fWood1, -, fWood2, fWood3, fWood4⟩ := Cond.arrayOver_spec (ao_object_ClapValley_Wood hA (A := #[]))
  obtain ⟨mScene, aScene, kScene, fScene1, -, fScene2, fScene3, fScene4⟩ := Cond.arrayOver_spec (ao_object_ClapValley_Scene hA (A := #[]))
  obtain ⟨mStation, aStation, kStation, fStation1, -, fStation2, fStation3, fStation4⟩ := Cond.arrayOver_spec (ao_object_ClapValley_Station hA (A := #[]))
  obtain ⟨mII, aII, kII, fII1, -, fII2, fII3, fII4⟩ := arrayOverA_spec (ao_array_FieldType_int hA (A := #[]))
  obtain ⟨mSt, aSt, kSt, fSt1, -, fSt2, fSt3, fSt4⟩ := Cond.arrayOver_spec (ao_object_java_lang_String hA (A := #[]))
  have hstr := strs_all hnr hts hlow
  obtain ⟨adS, adV, hS⟩ : ∃ adS adV : Nat → Nat, ∀ i : Nat, i < 36 → vk_R (kOwn i) (kIdx i) (kTxt i) (adS i) s ∧ va_O "java/lang/String" (adS i) (fun q : Nat => s.heap.size ≤ q) s s.heap ∧ va_OF "java/lang/String" "coder" "B" (.int 0) (adS i) (fun q : Nat => s.heap.size ≤ q) s s.heap ∧ va_OF "java/lang/String" "value" "[B" (.ref (adV i)) (adS i) (fun q : Nat => s.heap.size ≤ q) s s.heap ∧ va_T .byte (adV i) (kLen i) (fun j => .int ((kByt i).getD j 0)) (fun q : Nat => s.heap.size ≤ q) s s.heap := by
    refine ⟨fun i => if h : i < 36 then (hstr i h).choose else 0, fun i => if h : i < 36 then (hstr i h).choose_spec.choose else 0, fun i hi => ?_⟩
    simp only [dif_pos hi]
    exact (hstr i hi).choose_spec.choose_spec
  obtain ⟨D, hKc⟩ : ∃ D : va_G, ∀ (k : Nat) (q : vw_C), vwCl[k]? = some q → u_Kn s q.1 q.2.1 q.2.2 (D.1 k) (D.2 k) := by
    refine ⟨(fun k => [c0, c1, c2, c3, c4, c5, c6, c7, c8, c9, c10, c11, c12].getD k c0, fun k => [i0, i1, i2, i3, i4, i5, i6, i7, i8, i9, i10, i11, i12].getD k i0), ?_⟩
    intro k q hq
    match k, hq with
    | 0, hq => cases hq; exact h0
    | 1, hq => cases hq; exact h1
    | 2, hq => cases hq; exact h2
    | 3, hq => cases hq; exact h3
    | 4, hq => cases hq; exact h4
    | 5, hq => cases hq; exact h5
    | 6, hq => cases hq; exact h6
    | 7, hq => cases hq; exact h7
    | 8, hq => cases hq; exact h8
    | 9, hq => cases hq; exact h9
    | 10, hq => cases hq; exact h10
    | 11, hq => cases hq; exact h11
    | 12, hq => cases hq; exact h12
    | k + 13, hq => simp [vwCl] at hq
  obtain ⟨gAf, hgA⟩ : ∃ f : Nat → ClassId, (f 13 = aI ∧ f 14 = aB ∧ f 15 = aJ ∧ f 16 = aLand ∧ f 17 = aWall ∧ f 18 = aBarn ∧ f 19 = aWood ∧ f 20 = aScene ∧ f 21 = aStation ∧ f 22 = aII ∧ f 23 = aSt) := ⟨fun k => [aI, aB, aJ, aLand, aWall, aBarn, aWood, aScene, aStation, aII, aSt].getD (k - 13) aI, by refine ⟨rfl, rfl, rfl, rfl, rfl, rfl, rfl, rfl, rfl, rfl, rfl⟩⟩
  obtain ⟨g13, g14, g15, g16, g17, g18, g19, g20, g21, g22, g23⟩ := hgA
  obtain ⟨G, hGe⟩ : ∃ G : Gx, G = (s.heap.size, 517, gAf, D, fun a => if s.heap.size ≤ a then layL.getD (a - s.heap.size) (99, 0) else (99, 0), adS, adV) := ⟨_, rfl⟩
  have hzG : gz G = s.heap.size := by rw [hGe]; rfl
  have hkd : ∀ k, k < 517 → kd G (gz G + k) = (layL.getD k (99, 0)).1 ∧ ln G (gz G + k) = (layL.getD k (99, 0)).2 := by
    intro k hk
    rw [hzG]
    unfold kd ln
    rw [hGe]
    simp only [if_pos (Nat.le_add_right _ _), Nat.add_sub_cancel_left]
    exact ⟨trivial, trivial⟩
  have hlay : ∀ a, kd G a < 24 → gz G ≤ a ∧ a < gz G + 517 := by
    intro a ha
    rw [hzG]
    unfold kd at ha
    rw [hGe] at ha
    simp only at ha
    by_cases q : s.heap.size ≤ a
    · refine ⟨q, ?_⟩
      rw [if_pos q] at ha
      rcases Nat.lt_or_ge (a - s.heap.size) 517 with r | r
      · omega
      · rw [List.getD_eq_getElem?_getD, List.getElem?_eq_none (by rw [show layL.length = 517 from by decide +kernel]; exact r)] at ha
        simp at ha
    · rw [if_neg q] at ha
      simp at ha
  have hG : okG G := ⟨by rw [hGe]; rfl, by rw [hzG]; omega, hlay, hkd⟩
  have hB : bsG G := fun a ha => (hlay a ha).1
  have hag : ag (cut G 0) = fun q : Nat => s.heap.size ≤ q := by
    funext q
    show (gz G ≤ q) = _
    rw [hzG]
  have hty : ∀ (k : Nat) (q : ClassId × FieldType), (tysG (cut G 0))[k]? = some q → ArrOfT s q.1 q.2 ∧ va_RA s q.1 q.2 := by
    have e : tysG (cut G 0) = [(gAf 13, .int), (gAf 14, .byte), (gAf 15, .long), (gAf 16, .object "ClapValley$Land"), (gAf 17, .object "ClapValley$Wall"), (gAf 18, .object "ClapValley$Barn"), (gAf 19, .object "ClapValley$Wood"), (gAf 20, .object "ClapValley$Scene"), (gAf 21, .object "ClapValley$Station"), (gAf 22, .array .int), (gAf 23, .object "java/lang/String")] := by rw [hGe]; rfl
    rw [e, g13, g14, g15, g16, g17, g18, g19, g20, g21, g22, g23]
    intro k q hq
    match k, hq with
    | 0, hq => cases hq; exact ⟨arr_of fI2 fI3, fI1⟩
    | 1, hq => cases hq; exact ⟨arr_of fB2 fB3, fB1⟩
    | 2, hq => cases hq; exact ⟨arr_of fJ2 fJ3, fJ1⟩
    | 3, hq => cases hq; exact ⟨arr_of fLand2 fLand3, kLand, mLand, fLand2, fLand3, fLand1, fLand4⟩
    | 4, hq => cases hq; exact ⟨arr_of fWall2 fWall3, kWall, mWall, fWall2, fWall3, fWall1, fWall4⟩
    | 5, hq => cases hq; exact ⟨arr_of fBarn2 fBarn3, kBarn, mBarn, fBarn2, fBarn3, fBarn1, fBarn4⟩
    | 6, hq => cases hq; exact ⟨arr_of fWood2 fWood3, kWood, mWood, fWood2, fWood3, fWood1, fWood4⟩
    | 7, hq => cases hq; exact ⟨arr_of fScene2 fScene3, kScene, mScene, fScene2, fScene3, fScene1, fScene4⟩
    | 8, hq => cases hq; exact ⟨arr_of fStation2 fStation3, kStation, mStation, fStation2, fStation3, fStation1, fStation4⟩
    | 9, hq => cases hq; exact ⟨arr_of fII2 fII3, fII4⟩
    | 10, hq => cases hq; exact ⟨arr_of fSt2 fSt3, kSt, mSt, fSt2, fSt3, fSt1, fSt4⟩
    | k + 11, hq => simp at hq
  have hex : exG (cut G 0) s s.heap := by
    unfold exG
    rw [hag]
    exact ⟨vx_Zqof (hts _ (mw_3 (List.mem_of_getElem? (i := 105) rfl))) (ini_java_lang_Throwable hA) (aR (aR (aL (aL (aL (aL (aL (aL (aL (aL hnr)))))))))) hlow, vx_Zqof (hts _ (mw_3 (List.mem_of_getElem? (i := 107) rfl))) (ini_java_lang_Throwable hA) (aL (aR (aL (aL (aL (aL (aL (aL (aL hnr))))))))) hlow, va_Zof (hts _ (mw_3 (List.mem_of_getElem? (i := 189) rfl))) (ini_J0 hA) (va_eqi (aL (aR (aR (aL (aL (aL (aL (aL (aL (aL hnr))))))))))) hlow, va_Zqof (hts _ (mw_3 (List.mem_of_getElem? (i := 205) rfl))) (ini_J3 hA) (aR (aR (aR (aL (aL (aL (aL (aL (aL (aL hnr)))))))))) hlow⟩
  have hsg : stG (cut G 0) s s.heap := by
    intro i hi
    rw [hag, show gS (cut G 0) = adS by rw [hGe]; rfl, show gV (cut G 0) = adV by rw [hGe]; rfl]
    exact hS i hi
  have hDe : gD (cut G 0) = D := by rw [hGe]; rfl
  have hF : fxG (cut G 0) s := ⟨hA, by rw [hDe]; exact ⟨hKc, hty⟩, hsg, hex, lyC hB 0, by show gz G ≤ _; omega, by show 0 < gz G; omega⟩
  exact start_walk hst hG ⟨hx, hb, hown, hml, hF⟩ hr hlocks (va_Nc.of (aL (aR (aR (aR (aR (aL (aL (aL (aL (aL hnr))))))))))) hX hbl hzG (PV G hG b L xs hL)
