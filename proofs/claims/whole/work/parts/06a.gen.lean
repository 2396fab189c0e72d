-- X12_thrown
abbrev rm_X12_thrown : Room := { frames := 0, cells := 0, slots := 0, locals := 0 }
theorem hd_X12_thrown : yX12_thrown.cls ≠ "java/lang/invoke/MethodHandle" ∧ yX12_thrown.cls ≠ "java/lang/invoke/VarHandle" ∧ (parseMethodDescriptor yX12_thrown.desc).map (fun d => d.parameters.length) = some 0 := by decide +kernel
def V_X12_thrown (G : Gx) (p0 : Nat) (u : Mm) (Q : Int32 → Mm → Prop) : Prop :=
  kd G p0 = 12 ∧ Q (gI u p0 1) u
set_option maxHeartbeats 4000000 in
set_option maxRecDepth 100000 in
theorem c_X12_thrown {l : Launch} {G : Gx} {p0 : Nat} {u : Mm} {Q : Int32 → Mm → Prop} (h : V_X12_thrown G p0 u Q) : Met l yX12_thrown [.code yX12_thrown cX12_thrown 1 (some .int)] rm_X12_thrown (va_Pc [.ref p0] (Wd G u)) (Ei G Q) 0 0 (ag G) := by
  refine q_met (by decide) (Nat.le_of_ble_eq_true rfl) ?_
  intro p e s m below meth c ls C hr hlk hnm hl hP
  have hl : lv_has ls 1 [(0, .ref p0)] := hl
  generalize ([.ref p0] : List Value).toArray = args
  have hx := C.1
  have hb := C.2.1
  unfold V_X12_thrown at h
  refine lv_aload_n hx hb dX12_thrown_0 rfl (lv_at hl 0 rfl) ?_
  obtain ⟨g1, h⟩ := h
  refine q_getI C hP (k := 1) (lay_X12 C.hA) rfl (by decide) g1 (fl_X12_147 C.hA) dX12_thrown_1 ?_
  exact q_iret C hr hlk hP h (by decide) (by decide) dX12_thrown_4
-- X12_fail
abbrev rm_X12_fail : Room := { frames := 0, cells := 0, slots := 0, locals := 0 }
theorem hd_X12_fail : yX12_fail.cls ≠ "java/lang/invoke/MethodHandle" ∧ yX12_fail.cls ≠ "java/lang/invoke/VarHandle" ∧ (parseMethodDescriptor yX12_fail.desc).map (fun d => d.parameters.length) = some 1 := by decide +kernel
def V_X12_fail (G : Gx) (p0 : Nat) (p1 : Int32) (u : Mm) (Q : Int32 → Mm → Prop) : Prop :=
  kd G p0 = 12 ∧ ∀ u_2 : Mm, u_2 = sI u p0 1 p1 → Q (0 : Int32) u_2
set_option maxHeartbeats 4000000 in
set_option maxRecDepth 100000 in
theorem c_X12_fail {l : Launch} {G : Gx} {p0 : Nat} {p1 : Int32} {u : Mm} {Q : Int32 → Mm → Prop} (h : V_X12_fail G p0 p1 u Q) : Met l yX12_fail [.code yX12_fail cX12_fail 2 (some .int)] rm_X12_fail (va_Pc [.ref p0, .int p1] (Wd G u)) (Ei G Q) 0 0 (ag G) := by
  refine q_met (by decide) (Nat.le_of_ble_eq_true rfl) ?_
  intro p e s m below meth c ls C hr hlk hnm hl hP
  have hl : lv_has ls 2 [(0, .ref p0), (1, .int p1)] := hl
  generalize ([.ref p0, .int p1] : List Value).toArray = args
  have hx := C.1
  have hb := C.2.1
  unfold V_X12_fail at h
  refine lv_aload_n hx hb dX12_fail_0 rfl (lv_at hl 0 rfl) ?_
  refine lv_iload_n hx hb dX12_fail_1 rfl (lv_at hl 1 rfl) ?_
  obtain ⟨g1, h⟩ := h
  refine q_putI C hP (k := 1) tyX12_ok nmX12 (lay_X12 C.hA) rfl (by decide) rfl rfl rfl rfl g1 (fl_X12_147 C.hA) dX12_fail_2 (fun H locs hP => ?_)
  obtain ⟨u_2, eu_2, hP⟩ := Hp.nm hP
  have h := h u_2 eu_2
  refine lv_iconst (v := (0 : Int32)) hx hb dX12_fail_5 (by decide) ?_
  exact q_iret C hr hlk hP h (by decide) (by decide) dX12_fail_6
-- X12_isIn
abbrev rm_X12_isIn : Room := { frames := 0, cells := 0, slots := 0, locals := 0 }
theorem hd_X12_isIn : yX12_isIn.cls ≠ "java/lang/invoke/MethodHandle" ∧ yX12_isIn.cls ≠ "java/lang/invoke/VarHandle" ∧ (parseMethodDescriptor yX12_isIn.desc).map (fun d => d.parameters.length) = some 3 := by decide +kernel
def V_X12_isIn (G : Gx) (p0 : Int32) (p1 : Int32) (p2 : Int32) (u : Mm) (Q : Int32 → Mm → Prop) : Prop :=
  ((p0 < p1 → Q (0 : Int32) u) ∧ (¬ p0 < p1 → ((p2 < p0 → Q (0 : Int32) u) ∧ (¬ p2 < p0 → Q (1 : Int32) u))))
set_option maxHeartbeats 4000000 in
set_option maxRecDepth 100000 in
theorem c_X12_isIn {l : Launch} {G : Gx} {p0 : Int32} {p1 : Int32} {p2 : Int32} {u : Mm} {Q : Int32 → Mm → Prop} (h : V_X12_isIn G p0 p1 p2 u Q) : Met l yX12_isIn [.code yX12_isIn cX12_isIn 3 (some .boolean)] rm_X12_isIn (va_Pc [.int p0, .int p1, .int p2] (Wd G u)) (Ei G Q) 0 0 (ag G) := by
  refine q_met (by decide) (Nat.le_of_ble_eq_true rfl) ?_
  intro p e s m below meth c ls C hr hlk hnm hl hP
  have hl : lv_has ls 3 [(0, .int p0), (1, .int p1), (2, .int p2)] := hl
  generalize ([.int p0, .int p1, .int p2] : List Value).toArray = args
  have hx := C.1
  have hb := C.2.1
  unfold V_X12_isIn at h
  refine lv_iload_n hx hb dX12_isIn_0 rfl (lv_at hl 0 rfl) ?_
  refine lv_iload_n hx hb dX12_isIn_1 rfl (lv_at hl 1 rfl) ?_
  refine lv_icmp_lt (tgt := 14) hx hb dX12_isIn_2 (by decide) (fun c2 => ?_) (fun c2 => ?_)
  · have h := h.1 c2
    refine lv_iconst (v := (0 : Int32)) hx hb dX12_isIn_14 (by decide) ?_
    exact q_zret C hr hlk hP (by decide) h (by decide) (by decide) dX12_isIn_15
  · have h := h.2 c2
    refine lv_iload_n hx hb dX12_isIn_5 rfl (lv_at hl 0 rfl) ?_
    refine lv_iload_n hx hb dX12_isIn_6 rfl (lv_at hl 2 rfl) ?_
    refine lv_icmp_gt (tgt := 14) hx hb dX12_isIn_7 (by decide) (fun c7 => ?_) (fun c7 => ?_)
    · have h := h.1 c7
      refine lv_iconst (v := (0 : Int32)) hx hb dX12_isIn_14 (by decide) ?_
      exact q_zret C hr hlk hP (by decide) h (by decide) (by decide) dX12_isIn_15
    · have h := h.2 c7
      refine lv_iconst (v := (1 : Int32)) hx hb dX12_isIn_10 (by decide) ?_
      refine lv_goto (tgt := 15) hx hb dX12_isIn_11 (by decide) ?_
      exact q_zret C hr hlk hP (by decide) h (by decide) (by decide) dX12_isIn_15
-- X12_atFirst
abbrev rm_X12_atFirst : Room := { frames := 0, cells := 0, slots := 0, locals := 0 }
theorem hd_X12_atFirst : yX12_atFirst.cls ≠ "java/lang/invoke/MethodHandle" ∧ yX12_atFirst.cls ≠ "java/lang/invoke/VarHandle" ∧ (parseMethodDescriptor yX12_atFirst.desc).map (fun d => d.parameters.length) = some 1 := by decide +kernel
def V_X12_atFirst (G : Gx) (p0 : Nat) (p1 : Int32) (u : Mm) (Q : Mm → Prop) : Prop :=
  kd G p0 = 12 ∧ (gR u p0 2) ≠ 0 ∧ kd G (gR u p0 2) = 13 ∧ vp_in p1 (ln G (gR u p0 2)) ∧ ∀ u_6 : Mm, u_6 = sI u (gR u p0 2) p1.toNatClampNeg (0 : Int32) → (gR u_6 p0 3) ≠ 0 ∧ kd G (gR u_6 p0 3) = 13 ∧ vp_in p1 (ln G (gR u_6 p0 3)) ∧ ∀ u_13 : Mm, u_13 = sI u_6 (gR u_6 p0 3) p1.toNatClampNeg (0 : Int32) → (gR u_13 p0 4) ≠ 0 ∧ kd G (gR u_13 p0 4) = 13 ∧ vp_in p1 (ln G (gR u_13 p0 4)) ∧ ∀ u_20 : Mm, u_20 = sI u_13 (gR u_13 p0 4) p1.toNatClampNeg (0 : Int32) → (gR u_20 p0 5) ≠ 0 ∧ kd G (gR u_20 p0 5) = 13 ∧ vp_in p1 (ln G (gR u_20 p0 5)) ∧ ∀ u_28 : Mm, u_28 = sI u_20 (gR u_20 p0 5) p1.toNatClampNeg (100 : Int32) → (gR u_28 p0 6) ≠ 0 ∧ kd G (gR u_28 p0 6) = 13 ∧ vp_in p1 (ln G (gR u_28 p0 6)) ∧ ∀ u_36 : Mm, u_36 = sI u_28 (gR u_28 p0 6) p1.toNatClampNeg (100 : Int32) → Q u_36
set_option maxHeartbeats 4000000 in
set_option maxRecDepth 100000 in
theorem c_X12_atFirst {l : Launch} {G : Gx} {p0 : Nat} {p1 : Int32} {u : Mm} {Q : Mm → Prop} (h : V_X12_atFirst G p0 p1 u Q) : Met l yX12_atFirst [.code yX12_atFirst cX12_atFirst 2 none] rm_X12_atFirst (va_Pc [.ref p0, .int p1] (Wd G u)) (Ev G Q) 0 0 (ag G) := by
  refine q_met (by decide) (Nat.le_of_ble_eq_true rfl) ?_
  intro p e s m below meth c ls C hr hlk hnm hl hP
  have hl : lv_has ls 2 [(0, .ref p0), (1, .int p1)] := hl
  generalize ([.ref p0, .int p1] : List Value).toArray = args
  have hx := C.1
  have hb := C.2.1
  unfold V_X12_atFirst at h
  refine lv_aload_n hx hb dX12_atFirst_0 rfl (lv_at hl 0 rfl) ?_
  obtain ⟨g1, h⟩ := h
  obtain ⟨g2, h⟩ := h
  refine q_getR C hP (k := 2) (lay_X12 C.hA) rfl (by decide) g1 g2 (fl_X12_27 C.hA) dX12_atFirst_1 ?_
  refine lv_iload_n hx hb dX12_atFirst_4 rfl (lv_at hl 1 rfl) ?_
  refine lv_iconst (v := (0 : Int32)) hx hb dX12_atFirst_5 (by decide) ?_
  obtain ⟨g3, h⟩ := h
  obtain ⟨g4, h⟩ := h
  refine q_iast C hP g3 g4 dX12_atFirst_6 (fun H locs hP => ?_)
  obtain ⟨u_6, eu_6, hP⟩ := Hp.nm hP
  have h := h u_6 eu_6
  refine lv_aload_n hx hb dX12_atFirst_7 rfl (lv_at hl 0 rfl) ?_
  obtain ⟨g5, h⟩ := h
  refine q_getR C hP (k := 3) (lay_X12 C.hA) rfl (by decide) g1 g5 (fl_X12_31 C.hA) dX12_atFirst_8 ?_
  refine lv_iload_n hx hb dX12_atFirst_11 rfl (lv_at hl 1 rfl) ?_
  refine lv_iconst (v := (0 : Int32)) hx hb dX12_atFirst_12 (by decide) ?_
  obtain ⟨g6, h⟩ := h
  obtain ⟨g7, h⟩ := h
  refine q_iast C hP g6 g7 dX12_atFirst_13 (fun H locs hP => ?_)
  obtain ⟨u_13, eu_13, hP⟩ := Hp.nm hP
  have h := h u_13 eu_13
  refine lv_aload_n hx hb dX12_atFirst_14 rfl (lv_at hl 0 rfl) ?_
  obtain ⟨g8, h⟩ := h
  refine q_getR C hP (k := 4) (lay_X12 C.hA) rfl (by decide) g1 g8 (fl_X12_34 C.hA) dX12_atFirst_15 ?_
  refine lv_iload_n hx hb dX12_atFirst_18 rfl (lv_at hl 1 rfl) ?_
  refine lv_iconst (v := (0 : Int32)) hx hb dX12_atFirst_19 (by decide) ?_
  obtain ⟨g9, h⟩ := h
  obtain ⟨g10, h⟩ := h
  refine q_iast C hP g9 g10 dX12_atFirst_20 (fun H locs hP => ?_)
  obtain ⟨u_20, eu_20, hP⟩ := Hp.nm hP
  have h := h u_20 eu_20
  refine lv_aload_n hx hb dX12_atFirst_21 rfl (lv_at hl 0 rfl) ?_
  obtain ⟨g11, h⟩ := h
  refine q_getR C hP (k := 5) (lay_X12 C.hA) rfl (by decide) g1 g11 (fl_X12_37 C.hA) dX12_atFirst_22 ?_
  refine lv_iload_n hx hb dX12_atFirst_25 rfl (lv_at hl 1 rfl) ?_
  refine lv_bipush (v := (100 : Int32)) hx hb dX12_atFirst_26 (by decide) ?_
  obtain ⟨g12, h⟩ := h
  obtain ⟨g13, h⟩ := h
  refine q_iast C hP g12 g13 dX12_atFirst_28 (fun H locs hP => ?_)
  obtain ⟨u_28, eu_28, hP⟩ := Hp.nm hP
  have h := h u_28 eu_28
  refine lv_aload_n hx hb dX12_atFirst_29 rfl (lv_at hl 0 rfl) ?_
  obtain ⟨g14, h⟩ := h
  refine q_getR C hP (k := 6) (lay_X12 C.hA) rfl (by decide) g1 g14 (fl_X12_39 C.hA) dX12_atFirst_30 ?_
  refine lv_iload_n hx hb dX12_atFirst_33 rfl (lv_at hl 1 rfl) ?_
  refine lv_bipush (v := (100 : Int32)) hx hb dX12_atFirst_34 (by decide) ?_
  obtain ⟨g15, h⟩ := h
  obtain ⟨g16, h⟩ := h
  refine q_iast C hP g15 g16 dX12_atFirst_36 (fun H locs hP => ?_)
  obtain ⟨u_36, eu_36, hP⟩ := Hp.nm hP
  have h := h u_36 eu_36
  exact q_vret C hr hlk hP h (by decide) (by decide) dX12_atFirst_37
-- X12_isLand
abbrev rm_X12_isLand : Room := { frames := 1, cells := 0, slots := 0, locals := 22 }
theorem hd_X12_isLand : yX12_isLand.cls ≠ "java/lang/invoke/MethodHandle" ∧ yX12_isLand.cls ≠ "java/lang/invoke/VarHandle" ∧ (parseMethodDescriptor yX12_isLand.desc).map (fun d => d.parameters.length) = some 1 := by decide +kernel
def V_X12_isLand (G : Gx) (p0 : Int32) (u : Mm) (Q : Int32 → Mm → Prop) : Prop :=
  V_X12_isIn G p0 (0 : Int32) (5 : Int32) u (fun (v_3 : Int32) (u_3 : Mm) => (v_3 = 0 ∨ v_3 = 1) ∧ Q v_3 u_3)
set_option maxHeartbeats 4000000 in
set_option maxRecDepth 100000 in
theorem c_X12_isLand {l : Launch} {G : Gx} {p0 : Int32} {u : Mm} {Q : Int32 → Mm → Prop} (h : V_X12_isLand G p0 u Q) : Met l yX12_isLand [.code yX12_isLand cX12_isLand 1 (some .boolean)] rm_X12_isLand (va_Pc [.int p0] (Wd G u)) (Ei G Q) 0 0 (ag G) := by
  refine q_met (by decide) (Nat.le_of_ble_eq_true rfl) ?_
  intro p e s m below meth c ls C hr hlk hnm hl hP
  have hl : lv_has ls 1 [(0, .int p0)] := hl
  generalize ([.int p0] : List Value).toArray = args
  have hx := C.1
  have hb := C.2.1
  unfold V_X12_isLand at h
  refine lv_iload_n hx hb dX12_isLand_0 rfl (lv_at hl 0 rfl) ?_
  refine lv_iconst (v := (0 : Int32)) hx hb dX12_isLand_1 (by decide) ?_
  refine lv_iconst (v := (5 : Int32)) hx hb dX12_isLand_2 (by decide) ?_
  refine q_cali (q_runS C hP (c_X12_isIn h) (cd_X12_isIn C.hA) (ini_X12 C.hA) (ml_X12_150 C.hA) (st_X12_isIn C.hA) hd_X12_isIn ⟨rfl, rfl⟩ ⟨Nat.le_of_ble_eq_true rfl, Nat.le_of_ble_eq_true rfl⟩ ⟨Nat.le_of_ble_eq_true rfl, Nat.le_of_ble_eq_true rfl⟩ hl.1 rfl (Nat.le_of_ble_eq_true rfl) dX12_isLand_3) hP (fun v_3 u_3 H locs h hP => ?_)
  obtain ⟨g1, h⟩ := h
  exact q_zret C hr hlk hP g1 h (by decide) (by decide) dX12_isLand_6
-- X12_isPlace
abbrev rm_X12_isPlace : Room := { frames := 1, cells := 0, slots := 0, locals := 22 }
theorem hd_X12_isPlace : yX12_isPlace.cls ≠ "java/lang/invoke/MethodHandle" ∧ yX12_isPlace.cls ≠ "java/lang/invoke/VarHandle" ∧ (parseMethodDescriptor yX12_isPlace.desc).map (fun d => d.parameters.length) = some 2 := by decide +kernel
def V_X12_isPlace (G : Gx) (p0 : Int32) (p1 : Int32) (u : Mm) (Q : Int32 → Mm → Prop) : Prop :=
  V_X12_isIn G p0 (0 : Int32) (40 : Int32) u (fun (v_4 : Int32) (u_4 : Mm) => ((v_4 = 0 → Q (0 : Int32) u_4) ∧ (¬ v_4 = 0 → V_X12_isIn G p1 (0 : Int32) (40 : Int32) u_4 (fun (v_14 : Int32) (u_14 : Mm) => ((v_14 = 0 → Q (0 : Int32) u_14) ∧ (¬ v_14 = 0 → Q (1 : Int32) u_14))))))
set_option maxHeartbeats 4000000 in
set_option maxRecDepth 100000 in
theorem c_X12_isPlace {l : Launch} {G : Gx} {p0 : Int32} {p1 : Int32} {u : Mm} {Q : Int32 → Mm → Prop} (h : V_X12_isPlace G p0 p1 u Q) : Met l yX12_isPlace [.code yX12_isPlace cX12_isPlace 2 (some .boolean)] rm_X12_isPlace (va_Pc [.int p0, .int p1] (Wd G u)) (Ei G Q) 0 0 (ag G) := by
  refine q_met (by decide) (Nat.le_of_ble_eq_true rfl) ?_
  intro p e s m below meth c ls C hr hlk hnm hl hP
  have hl : lv_has ls 2 [(0, .int p0), (1, .int p1)] := hl
  generalize ([.int p0, .int p1] : List Value).toArray = args
  have hx := C.1
  have hb := C.2.1
  unfold V_X12_isPlace at h
  refine lv_iload_n hx hb dX12_isPlace_0 rfl (lv_at hl 0 rfl) ?_
  refine lv_iconst (v := (0 : Int32)) hx hb dX12_isPlace_1 (by decide) ?_
  refine lv_bipush (v := (40 : Int32)) hx hb dX12_isPlace_2 (by decide) ?_
  refine q_cali (q_runS C hP (c_X12_isIn h) (cd_X12_isIn C.hA) (ini_X12 C.hA) (ml_X12_150 C.hA) (st_X12_isIn C.hA) hd_X12_isIn ⟨rfl, rfl⟩ ⟨Nat.le_of_ble_eq_true rfl, Nat.le_of_ble_eq_true rfl⟩ ⟨Nat.le_of_ble_eq_true rfl, Nat.le_of_ble_eq_true rfl⟩ hl.1 rfl (Nat.le_of_ble_eq_true rfl) dX12_isPlace_4) hP (fun v_4 u_4 H locs h hP => ?_)
  refine lv_if_eq (tgt := 24) hx hb dX12_isPlace_7 (by decide) (fun c7 => ?_) (fun c7 => ?_)
  · have h := h.1 c7
    refine lv_iconst (v := (0 : Int32)) hx hb dX12_isPlace_24 (by decide) ?_
    exact q_zret C hr hlk hP (by decide) h (by decide) (by decide) dX12_isPlace_25
  · have h := h.2 c7
    refine lv_iload_n hx hb dX12_isPlace_10 rfl (lv_at hl 1 rfl) ?_
    refine lv_iconst (v := (0 : Int32)) hx hb dX12_isPlace_11 (by decide) ?_
    refine lv_bipush (v := (40 : Int32)) hx hb dX12_isPlace_12 (by decide) ?_
    refine q_cali (q_runS C hP (c_X12_isIn h) (cd_X12_isIn C.hA) (ini_X12 C.hA) (ml_X12_150 C.hA) (st_X12_isIn C.hA) hd_X12_isIn ⟨rfl, rfl⟩ ⟨Nat.le_of_ble_eq_true rfl, Nat.le_of_ble_eq_true rfl⟩ ⟨Nat.le_of_ble_eq_true rfl, Nat.le_of_ble_eq_true rfl⟩ hl.1 rfl (Nat.le_of_ble_eq_true rfl) dX12_isPlace_14) hP (fun v_14 u_14 H locs h hP => ?_)
    refine lv_if_eq (tgt := 24) hx hb dX12_isPlace_17 (by decide) (fun c17 => ?_) (fun c17 => ?_)
    · have h := h.1 c17
      refine lv_iconst (v := (0 : Int32)) hx hb dX12_isPlace_24 (by decide) ?_
      exact q_zret C hr hlk hP (by decide) h (by decide) (by decide) dX12_isPlace_25
    · have h := h.2 c17
      refine lv_iconst (v := (1 : Int32)) hx hb dX12_isPlace_20 (by decide) ?_
      refine lv_goto (tgt := 25) hx hb dX12_isPlace_21 (by decide) ?_
      exact q_zret C hr hlk hP (by decide) h (by decide) (by decide) dX12_isPlace_25
-- X12_isYear
abbrev rm_X12_isYear : Room := { frames := 1, cells := 0, slots := 0, locals := 22 }
theorem hd_X12_isYear : yX12_isYear.cls ≠ "java/lang/invoke/MethodHandle" ∧ yX12_isYear.cls ≠ "java/lang/invoke/VarHandle" ∧ (parseMethodDescriptor yX12_isYear.desc).map (fun d => d.parameters.length) = some 1 := by decide +kernel
def V_X12_isYear (G : Gx) (p0 : Int32) (u : Mm) (Q : Int32 → Mm → Prop) : Prop :=
  V_X12_isIn G p0 (0 : Int32) (99 : Int32) u (fun (v_4 : Int32) (u_4 : Mm) => (v_4 = 0 ∨ v_4 = 1) ∧ Q v_4 u_4)
set_option maxHeartbeats 4000000 in
set_option maxRecDepth 100000 in
theorem c_X12_isYear {l : Launch} {G : Gx} {p0 : Int32} {u : Mm} {Q : Int32 → Mm → Prop} (h : V_X12_isYear G p0 u Q) : Met l yX12_isYear [.code yX12_isYear cX12_isYear 1 (some .boolean)] rm_X12_isYear (va_Pc [.int p0] (Wd G u)) (Ei G Q) 0 0 (ag G) := by
  refine q_met (by decide) (Nat.le_of_ble_eq_true rfl) ?_
  intro p e s m below meth c ls C hr hlk hnm hl hP
  have hl : lv_has ls 1 [(0, .int p0)] := hl
  generalize ([.int p0] : List Value).toArray = args
  have hx := C.1
  have hb := C.2.1
  unfold V_X12_isYear at h
  refine lv_iload_n hx hb dX12_isYear_0 rfl (lv_at hl 0 rfl) ?_
  refine lv_iconst (v := (0 : Int32)) hx hb dX12_isYear_1 (by decide) ?_
  refine lv_bipush (v := (99 : Int32)) hx hb dX12_isYear_2 (by decide) ?_
  refine q_cali (q_runS C hP (c_X12_isIn h) (cd_X12_isIn C.hA) (ini_X12 C.hA) (ml_X12_150 C.hA) (st_X12_isIn C.hA) hd_X12_isIn ⟨rfl, rfl⟩ ⟨Nat.le_of_ble_eq_true rfl, Nat.le_of_ble_eq_true rfl⟩ ⟨Nat.le_of_ble_eq_true rfl, Nat.le_of_ble_eq_true rfl⟩ hl.1 rfl (Nat.le_of_ble_eq_true rfl) dX12_isYear_4) hP (fun v_4 u_4 H locs h hP => ?_)
  obtain ⟨g1, h⟩ := h
  exact q_zret C hr hlk hP g1 h (by decide) (by decide) dX12_isYear_7
-- X12_isTone
abbrev rm_X12_isTone : Room := { frames := 1, cells := 0, slots := 0, locals := 22 }
theorem hd_X12_isTone : yX12_isTone.cls ≠ "java/lang/invoke/MethodHandle" ∧ yX12_isTone.cls ≠ "java/lang/invoke/VarHandle" ∧ (parseMethodDescriptor yX12_isTone.desc).map (fun d => d.parameters.length) = some 1 := by decide +kernel
def V_X12_isTone (G : Gx) (p0 : Int32) (u : Mm) (Q : Int32 → Mm → Prop) : Prop :=
  V_X12_isIn G p0 (0 : Int32) (2 : Int32) u (fun (v_3 : Int32) (u_3 : Mm) => (v_3 = 0 ∨ v_3 = 1) ∧ Q v_3 u_3)
set_option maxHeartbeats 4000000 in
set_option maxRecDepth 100000 in
theorem c_X12_isTone {l : Launch} {G : Gx} {p0 : Int32} {u : Mm} {Q : Int32 → Mm → Prop} (h : V_X12_isTone G p0 u Q) : Met l yX12_isTone [.code yX12_isTone cX12_isTone 1 (some .boolean)] rm_X12_isTone (va_Pc [.int p0] (Wd G u)) (Ei G Q) 0 0 (ag G) := by
  refine q_met (by decide) (Nat.le_of_ble_eq_true rfl) ?_
  intro p e s m below meth c ls C hr hlk hnm hl hP
  have hl : lv_has ls 1 [(0, .int p0)] := hl
  generalize ([.int p0] : List Value).toArray = args
  have hx := C.1
  have hb := C.2.1
  unfold V_X12_isTone at h
  refine lv_iload_n hx hb dX12_isTone_0 rfl (lv_at hl 0 rfl) ?_
  refine lv_iconst (v := (0 : Int32)) hx hb dX12_isTone_1 (by decide) ?_
  refine lv_iconst (v := (2 : Int32)) hx hb dX12_isTone_2 (by decide) ?_
  refine q_cali (q_runS C hP (c_X12_isIn h) (cd_X12_isIn C.hA) (ini_X12 C.hA) (ml_X12_150 C.hA) (st_X12_isIn C.hA) hd_X12_isIn ⟨rfl, rfl⟩ ⟨Nat.le_of_ble_eq_true rfl, Nat.le_of_ble_eq_true rfl⟩ ⟨Nat.le_of_ble_eq_true rfl, Nat.le_of_ble_eq_true rfl⟩ hl.1 rfl (Nat.le_of_ble_eq_true rfl) dX12_isTone_3) hP (fun v_3 u_3 H locs h hP => ?_)
  obtain ⟨g1, h⟩ := h
  exact q_zret C hr hlk hP g1 h (by decide) (by decide) dX12_isTone_6
-- X12_ofWall
abbrev rm_X12_ofWall : Room := { frames := 0, cells := 0, slots := 0, locals := 0 }
theorem hd_X12_ofWall : yX12_ofWall.cls ≠ "java/lang/invoke/MethodHandle" ∧ yX12_ofWall.cls ≠ "java/lang/invoke/VarHandle" ∧ (parseMethodDescriptor yX12_ofWall.desc).map (fun d => d.parameters.length) = some 3 := by decide +kernel
def V_X12_ofWall (G : Gx) (p0 : Nat) (p1 : Int32) (p2 : Int32) (p3 : Int32) (u : Mm) (Q : Int32 → Mm → Prop) : Prop :=
  kd G p0 = 12 ∧ (gR u p0 7) ≠ 0 ∧ kd G (gR u p0 7) = 13 ∧ vp_in (((((8 : Int32) * p1) + p2) * (5 : Int32)) + p3) (ln G (gR u p0 7)) ∧ Q (gI u (gR u p0 7) (((((8 : Int32) * p1) + p2) * (5 : Int32)) + p3).toNatClampNeg) u
set_option maxHeartbeats 4000000 in
set_option maxRecDepth 100000 in
theorem c_X12_ofWall {l : Launch} {G : Gx} {p0 : Nat} {p1 : Int32} {p2 : Int32} {p3 : Int32} {u : Mm} {Q : Int32 → Mm → Prop} (h : V_X12_ofWall G p0 p1 p2 p3 u Q) : Met l yX12_ofWall [.code yX12_ofWall cX12_ofWall 4 (some .int)] rm_X12_ofWall (va_Pc [.ref p0, .int p1, .int p2, .int p3] (Wd G u)) (Ei G Q) 0 0 (ag G) := by
  refine q_met (by decide) (Nat.le_of_ble_eq_true rfl) ?_
  intro p e s m below meth c ls C hr hlk hnm hl hP
  have hl : lv_has ls 4 [(0, .ref p0), (1, .int p1), (2, .int p2), (3, .int p3)] := hl
  generalize ([.ref p0, .int p1, .int p2, .int p3] : List Value).toArray = args
  have hx := C.1
  have hb := C.2.1
  unfold V_X12_ofWall at h
  refine lv_aload_n hx hb dX12_ofWall_0 rfl (lv_at hl 0 rfl) ?_
  obtain ⟨g1, h⟩ := h
  obtain ⟨g2, h⟩ := h
  refine q_getR C hP (k := 7) (lay_X12 C.hA) rfl (by decide) g1 g2 (fl_X12_41 C.hA) dX12_ofWall_1 ?_
  refine lv_bipush (v := (8 : Int32)) hx hb dX12_ofWall_4 (by decide) ?_
  refine lv_iload_n hx hb dX12_ofWall_6 rfl (lv_at hl 1 rfl) ?_
  refine lv_imul hx hb dX12_ofWall_7 ?_
  refine lv_iload_n hx hb dX12_ofWall_8 rfl (lv_at hl 2 rfl) ?_
  refine lv_iadd hx hb dX12_ofWall_9 ?_
  refine lv_iconst (v := (5 : Int32)) hx hb dX12_ofWall_10 (by decide) ?_
  refine lv_imul hx hb dX12_ofWall_11 ?_
  refine lv_iload_n hx hb dX12_ofWall_12 rfl (lv_at hl 3 rfl) ?_
  refine lv_iadd hx hb dX12_ofWall_13 ?_
  obtain ⟨g3, h⟩ := h
  obtain ⟨g4, h⟩ := h
  refine q_iald C hP g3 g4 dX12_ofWall_14 ?_
  exact q_iret C hr hlk hP h (by decide) (by decide) dX12_ofWall_15
-- X12_ofBarn
abbrev rm_X12_ofBarn : Room := { frames := 0, cells := 0, slots := 0, locals := 0 }
theorem hd_X12_ofBarn : yX12_ofBarn.cls ≠ "java/lang/invoke/MethodHandle" ∧ yX12_ofBarn.cls ≠ "java/lang/invoke/VarHandle" ∧ (parseMethodDescriptor yX12_ofBarn.desc).map (fun d => d.parameters.length) = some 3 := by decide +kernel
def V_X12_ofBarn (G : Gx) (p0 : Nat) (p1 : Int32) (p2 : Int32) (p3 : Int32) (u : Mm) (Q : Int32 → Mm → Prop) : Prop :=
  kd G p0 = 12 ∧ (gR u p0 8) ≠ 0 ∧ kd G (gR u p0 8) = 13 ∧ vp_in (((((8 : Int32) * p1) + p2) * (5 : Int32)) + p3) (ln G (gR u p0 8)) ∧ Q (gI u (gR u p0 8) (((((8 : Int32) * p1) + p2) * (5 : Int32)) + p3).toNatClampNeg) u
set_option maxHeartbeats 4000000 in
set_option maxRecDepth 100000 in
theorem c_X12_ofBarn {l : Launch} {G : Gx} {p0 : Nat} {p1 : Int32} {p2 : Int32} {p3 : Int32} {u : Mm} {Q : Int32 → Mm → Prop} (h : V_X12_ofBarn G p0 p1 p2 p3 u Q) : Met l yX12_ofBarn [.code yX12_ofBarn cX12_ofBarn 4 (some .int)] rm_X12_ofBarn (va_Pc [.ref p0, .int p1, .int p2, .int p3] (Wd G u)) (Ei G Q) 0 0 (ag G) := by
  refine q_met (by decide) (Nat.le_of_ble_eq_true rfl) ?_
  intro p e s m below meth c ls C hr hlk hnm hl hP
  have hl : lv_has ls 4 [(0, .ref p0), (1, .int p1), (2, .int p2), (3, .int p3)] := hl
  generalize ([.ref p0, .int p1, .int p2, .int p3] : List Value).toArray = args
  have hx := C.1
  have hb := C.2.1
  unfold V_X12_ofBarn at h
  refine lv_aload_n hx hb dX12_ofBarn_0 rfl (lv_at hl 0 rfl) ?_
  obtain ⟨g1, h⟩ := h
  obtain ⟨g2, h⟩ := h
  refine q_getR C hP (k := 8) (lay_X12 C.hA) rfl (by decide) g1 g2 (fl_X12_44 C.hA) dX12_ofBarn_1 ?_
  refine lv_bipush (v := (8 : Int32)) hx hb dX12_ofBarn_4 (by decide) ?_
  refine lv_iload_n hx hb dX12_ofBarn_6 rfl (lv_at hl 1 rfl) ?_
  refine lv_imul hx hb dX12_ofBarn_7 ?_
  refine lv_iload_n hx hb dX12_ofBarn_8 rfl (lv_at hl 2 rfl) ?_
  refine lv_iadd hx hb dX12_ofBarn_9 ?_
  refine lv_iconst (v := (5 : Int32)) hx hb dX12_ofBarn_10 (by decide) ?_
  refine lv_imul hx hb dX12_ofBarn_11 ?_
  refine lv_iload_n hx hb dX12_ofBarn_12 rfl (lv_at hl 3 rfl) ?_
  refine lv_iadd hx hb dX12_ofBarn_13 ?_
  obtain ⟨g3, h⟩ := h
  obtain ⟨g4, h⟩ := h
  refine q_iald C hP g3 g4 dX12_ofBarn_14 ?_
  exact q_iret C hr hlk hP h (by decide) (by decide) dX12_ofBarn_15
-- X12_ofWood
abbrev rm_X12_ofWood : Room := { frames := 0, cells := 0, slots := 0, locals := 0 }
theorem hd_X12_ofWood : yX12_ofWood.cls ≠ "java/lang/invoke/MethodHandle" ∧ yX12_ofWood.cls ≠ "java/lang/invoke/VarHandle" ∧ (parseMethodDescriptor yX12_ofWood.desc).map (fun d => d.parameters.length) = some 3 := by decide +kernel
def V_X12_ofWood (G : Gx) (p0 : Nat) (p1 : Int32) (p2 : Int32) (p3 : Int32) (u : Mm) (Q : Int32 → Mm → Prop) : Prop :=
  kd G p0 = 12 ∧ (gR u p0 9) ≠ 0 ∧ kd G (gR u p0 9) = 13 ∧ vp_in (((((4 : Int32) * p1) + p2) * (7 : Int32)) + p3) (ln G (gR u p0 9)) ∧ Q (gI u (gR u p0 9) (((((4 : Int32) * p1) + p2) * (7 : Int32)) + p3).toNatClampNeg) u
set_option maxHeartbeats 4000000 in
set_option maxRecDepth 100000 in
theorem c_X12_ofWood {l : Launch} {G : Gx} {p0 : Nat} {p1 : Int32} {p2 : Int32} {p3 : Int32} {u : Mm} {Q : Int32 → Mm → Prop} (h : V_X12_ofWood G p0 p1 p2 p3 u Q) : Met l yX12_ofWood [.code yX12_ofWood cX12_ofWood 4 (some .int)] rm_X12_ofWood (va_Pc [.ref p0, .int p1, .int p2, .int p3] (Wd G u)) (Ei G Q) 0 0 (ag G) := by
  refine q_met (by decide) (Nat.le_of_ble_eq_true rfl) ?_
  intro p e s m below meth c ls C hr hlk hnm hl hP
  have hl : lv_has ls 4 [(0, .ref p0), (1, .int p1), (2, .int p2), (3, .int p3)] := hl
  generalize ([.ref p0, .int p1, .int p2, .int p3] : List Value).toArray = args
  have hx := C.1
  have hb := C.2.1
  unfold V_X12_ofWood at h
  refine lv_aload_n hx hb dX12_ofWood_0 rfl (lv_at hl 0 rfl) ?_
  obtain ⟨g1, h⟩ := h
  obtain ⟨g2, h⟩ := h
  refine q_getR C hP (k := 9) (lay_X12 C.hA) rfl (by decide) g1 g2 (fl_X12_46 C.hA) dX12_ofWood_1 ?_
  refine lv_iconst (v := (4 : Int32)) hx hb dX12_ofWood_4 (by decide) ?_
  refine lv_iload_n hx hb dX12_ofWood_5 rfl (lv_at hl 1 rfl) ?_
  refine lv_imul hx hb dX12_ofWood_6 ?_
  refine lv_iload_n hx hb dX12_ofWood_7 rfl (lv_at hl 2 rfl) ?_
  refine lv_iadd hx hb dX12_ofWood_8 ?_
  refine lv_bipush (v := (7 : Int32)) hx hb dX12_ofWood_9 (by decide) ?_
  refine lv_imul hx hb dX12_ofWood_11 ?_
  refine lv_iload_n hx hb dX12_ofWood_12 rfl (lv_at hl 3 rfl) ?_
  refine lv_iadd hx hb dX12_ofWood_13 ?_
  obtain ⟨g3, h⟩ := h
  obtain ⟨g4, h⟩ := h
  refine q_iald C hP g3 g4 dX12_ofWood_14 ?_
  exact q_iret C hr hlk hP h (by decide) (by decide) dX12_ofWood_15
-- X12_feed
abbrev rm_X12_feed : Room := { frames := 0, cells := 0, slots := 0, locals := 0 }
theorem hd_X12_feed : yX12_feed.cls ≠ "java/lang/invoke/MethodHandle" ∧ yX12_feed.cls ≠ "java/lang/invoke/VarHandle" ∧ (parseMethodDescriptor yX12_feed.desc).map (fun d => d.parameters.length) = some 5 := by decide +kernel
def V_X12_feed_76 (G : Gx) (Q : Int32 → Mm → Prop) (k_23 : Nat → Int32 → Int32 → Int32 → Int32 → Int32 → Int32 → Mm → Prop) (x0 : Nat) (x1 : Int32) (x2 : Int32) (x3 : Int32) (x4 : Int32) (x5 : Int32) (x6 : Int32) (t0 : Int32) (u : Mm) : Prop :=
  kd G x0 = 12 ∧ (gR u x0 11) ≠ 0 ∧ kd G (gR u x0 11) = 13 ∧ vp_in (gI u x0 12) (ln G (gR u x0 11)) ∧ ∀ u_103 : Mm, u_103 = sI u (gR u x0 11) (gI u x0 12).toNatClampNeg ((shr t0 ((24 : Int32) - ((8 : Int32) * (irm x6 (4 : Int32))))) &&& (255 : Int32)) → ∀ u_111 : Mm, u_111 = sI u_103 x0 12 ((gI u_103 x0 12) + (1 : Int32)) → ∀ x6_114 : Int32, x6_114 = x6 + (1 : Int32) → k_23 x0 x1 x2 x3 x4 x5 x6_114 u_111
def V_X12_feed_23_B (G : Gx) (Q : Int32 → Mm → Prop) (k_23 : Nat → Int32 → Int32 → Int32 → Int32 → Int32 → Int32 → Mm → Prop) (x0 : Nat) (x1 : Int32) (x2 : Int32) (x3 : Int32) (x4 : Int32) (x5 : Int32) (x6 : Int32) (u : Mm) : Prop :=
  (((20 : Int32) ≤ x6 → kd G x0 = 12 ∧ Q (gI u x0 12) u) ∧ (¬ (20 : Int32) ≤ x6 → (((4 : Int32) ≤ x6 → (((8 : Int32) ≤ x6 → (((12 : Int32) ≤ x6 → (((16 : Int32) ≤ x6 → V_X12_feed_76 G Q k_23 x0 x1 x2 x3 x4 x5 x6 x5 u) ∧ (¬ (16 : Int32) ≤ x6 → V_X12_feed_76 G Q k_23 x0 x1 x2 x3 x4 x5 x6 x4 u))) ∧ (¬ (12 : Int32) ≤ x6 → V_X12_feed_76 G Q k_23 x0 x1 x2 x3 x4 x5 x6 x3 u))) ∧ (¬ (8 : Int32) ≤ x6 → V_X12_feed_76 G Q k_23 x0 x1 x2 x3 x4 x5 x6 x2 u))) ∧ (¬ (4 : Int32) ≤ x6 → V_X12_feed_76 G Q k_23 x0 x1 x2 x3 x4 x5 x6 x1 u))))
def V_X12_feed_23 (G : Gx) (Q : Int32 → Mm → Prop) : Nat → (Nat → Int32 → Int32 → Int32 → Int32 → Int32 → Int32 → Mm → Prop)
  | 0 => fun _ _ _ _ _ _ _ _ => False
  | n + 1 => fun x0 x1 x2 x3 x4 x5 x6 u => V_X12_feed_23_B G Q (V_X12_feed_23 G Q n) x0 x1 x2 x3 x4 x5 x6 u
def V_X12_feed (G : Gx) (p0 : Nat) (p1 : Int32) (p2 : Int32) (p3 : Int32) (p4 : Int32) (p5 : Int32) (u : Mm) (Q : Int32 → Mm → Prop) : Prop :=
  kd G p0 = 12 ∧ ∀ u_2 : Mm, u_2 = sI u p0 1 (0 : Int32) → ((((gI u_2 p0 12) + (20 : Int32)) ≤ (700 : Int32) → ∃ n : Nat, V_X12_feed_23 G Q n p0 p1 p2 p3 p4 p5 (0 : Int32) u_2) ∧ (¬ ((gI u_2 p0 12) + (20 : Int32)) ≤ (700 : Int32) → Q (-1 : Int32) u_2))
set_option maxHeartbeats 4000000 in
set_option maxRecDepth 100000 in
theorem b_X12_feed_76 {G : Gx} {Q : Int32 → Mm → Prop} {p : Program} {l : Launch} {e : Env} {s : State} {m : MethodId} {args : Array Value} {below : List Frame} {meth : Method} {c : Code} (C : Cx G p s m c cX12_feed RX12 8) (hr : meth.sig.returnType = (some .int)) (hlk : meth.locks = false) {k_23 : Nat → Int32 → Int32 → Int32 → Int32 → Int32 → Int32 → Mm → Prop} (hk_23 : ∀ (x0 : Nat) (x1 : Int32) (x2 : Int32) (x3 : Int32) (x4 : Int32) (x5 : Int32) (x6 : Int32) (u : Mm) (H : Heap) (locs : List Loc) (ls : Array Slot), k_23 x0 x1 x2 x3 x4 x5 x6 u → lv_has ls 8 [(0, .ref x0), (1, .int x1), (2, .int x2), (3, .int x3), (4, .int x4), (5, .int x5), (6, .int x6)] → Hp G u s H locs → W p l e rm_X12_feed s m args below meth c H locs 0 0 (MQ below (Ei G Q) args s 0 0 (ag G)) (F0 m 23 ls [])) {x0 : Nat} {x1 : Int32} {x2 : Int32} {x3 : Int32} {x4 : Int32} {x5 : Int32} {x6 : Int32} {t0 : Int32} {u : Mm} {H : Heap} {locs : List Loc} {ls : Array Slot} (h : V_X12_feed_76 G Q k_23 x0 x1 x2 x3 x4 x5 x6 t0 u) (hl : lv_has ls 8 [(0, .ref x0), (1, .int x1), (2, .int x2), (3, .int x3), (4, .int x4), (5, .int x5), (6, .int x6)]) (hP : Hp G u s H locs) : W p l e rm_X12_feed s m args below meth c H locs 0 0 (MQ below (Ei G Q) args s 0 0 (ag G)) (F0 m 76 ls [.int t0]) := by
  have hx := C.1
  have hb := C.2.1
  unfold V_X12_feed_76 at h
  refine lv_istore (lv' := [(7, .int t0), (0, .ref x0), (1, .int x1), (2, .int x2), (3, .int x3), (4, .int x4), (5, .int x5), (6, .int x6)]) hx hb dX12_feed_76 hl (by decide) rfl (fun ls hl => ?_)
  refine lv_aload_n hx hb dX12_feed_78 rfl (lv_at hl 1 rfl) ?_
  obtain ⟨g1, h⟩ := h
  obtain ⟨g2, h⟩ := h
  refine q_getR C hP (k := 11) (lay_X12 C.hA) rfl (by decide) g1 g2 (fl_X12_51 C.hA) dX12_feed_79 ?_
  refine lv_aload_n hx hb dX12_feed_82 rfl (lv_at hl 1 rfl) ?_
  refine q_getI C hP (k := 12) (lay_X12 C.hA) rfl (by decide) g1 (fl_X12_154 C.hA) dX12_feed_83 ?_
  refine lv_iload hx hb dX12_feed_86 (lv_at hl 0 rfl) ?_
  refine lv_bipush (v := (24 : Int32)) hx hb dX12_feed_88 (by decide) ?_
  refine lv_bipush (v := (8 : Int32)) hx hb dX12_feed_90 (by decide) ?_
  refine lv_iload hx hb dX12_feed_92 (lv_at hl 7 rfl) ?_
  refine lv_iconst (v := (4 : Int32)) hx hb dX12_feed_94 (by decide) ?_
  refine lv_irem hx hb dX12_feed_95 (by decide) ?_
  refine lv_imul hx hb dX12_feed_96 ?_
  refine lv_isub hx hb dX12_feed_97 ?_
  refine lv_ishr hx hb dX12_feed_98 ?_
  refine lv_sipush (v := (255 : Int32)) hx hb dX12_feed_99 (by decide) ?_
  refine lv_iand hx hb dX12_feed_102 ?_
  obtain ⟨g3, h⟩ := h
  obtain ⟨g4, h⟩ := h
  refine q_iast C hP g3 g4 dX12_feed_103 (fun H locs hP => ?_)
  obtain ⟨u_103, eu_103, hP⟩ := Hp.nm hP
  have h := h u_103 eu_103
  refine lv_aload_n hx hb dX12_feed_104 rfl (lv_at hl 1 rfl) ?_
  refine lv_dup hx hb dX12_feed_105 rfl ?_
  refine q_getI C hP (k := 12) (lay_X12 C.hA) rfl (by decide) g1 (fl_X12_154 C.hA) dX12_feed_106 ?_
  refine lv_iconst (v := (1 : Int32)) hx hb dX12_feed_109 (by decide) ?_
  refine lv_iadd hx hb dX12_feed_110 ?_
  refine q_putI C hP (k := 12) tyX12_ok nmX12 (lay_X12 C.hA) rfl (by decide) rfl rfl rfl rfl g1 (fl_X12_154 C.hA) dX12_feed_111 (fun H locs hP => ?_)
  obtain ⟨u_111, eu_111, hP⟩ := Hp.nm hP
  have h := h u_111 eu_111
  obtain ⟨x6_114, ex6_114⟩ : ∃ y : Int32, y = x6 + (1 : Int32) := ⟨_, rfl⟩
  have h := h x6_114 ex6_114
  refine lv_iinc (v := x6_114) (lv' := [(6, .int x6_114), (7, .int t0), (0, .ref x0), (1, .int x1), (2, .int x2), (3, .int x3), (4, .int x4), (5, .int x5)]) hx hb dX12_feed_114 hl (k := 7) rfl (by rw [ex6_114]; rfl) (by decide) rfl (fun ls hl => ?_)
  refine lv_goto (tgt := 23) hx hb dX12_feed_117 (by decide) ?_
  exact hk_23 x0 x1 x2 x3 x4 x5 x6_114 u_111 _ _ _ h (lv_sub hl [2, 3, 4, 5, 6, 7, 0] rfl) hP
set_option maxHeartbeats 4000000 in
set_option maxRecDepth 100000 in
theorem b_X12_feed_23 {G : Gx} {Q : Int32 → Mm → Prop} {p : Program} {l : Launch} {e : Env} {s : State} {m : MethodId} {args : Array Value} {below : List Frame} {meth : Method} {c : Code} (C : Cx G p s m c cX12_feed RX12 8) (hr : meth.sig.returnType = (some .int)) (hlk : meth.locks = false) {k_23 : Nat → Int32 → Int32 → Int32 → Int32 → Int32 → Int32 → Mm → Prop} (hk_23 : ∀ (x0 : Nat) (x1 : Int32) (x2 : Int32) (x3 : Int32) (x4 : Int32) (x5 : Int32) (x6 : Int32) (u : Mm) (H : Heap) (locs : List Loc) (ls : Array Slot), k_23 x0 x1 x2 x3 x4 x5 x6 u → lv_has ls 8 [(0, .ref x0), (1, .int x1), (2, .int x2), (3, .int x3), (4, .int x4), (5, .int x5), (6, .int x6)] → Hp G u s H locs → W p l e rm_X12_feed s m args below meth c H locs 0 0 (MQ below (Ei G Q) args s 0 0 (ag G)) (F0 m 23 ls [])) {x0 : Nat} {x1 : Int32} {x2 : Int32} {x3 : Int32} {x4 : Int32} {x5 : Int32} {x6 : Int32} {u : Mm} {H : Heap} {locs : List Loc} {ls : Array Slot} (h : V_X12_feed_23_B G Q k_23 x0 x1 x2 x3 x4 x5 x6 u) (hl : lv_has ls 8 [(0, .ref x0), (1, .int x1), (2, .int x2), (3, .int x3), (4, .int x4), (5, .int x5), (6, .int x6)]) (hP : Hp G u s H locs) : W p l e rm_X12_feed s m args below meth c H locs 0 0 (MQ below (Ei G Q) args s 0 0 (ag G)) (F0 m 23 ls []) := by
  have hx := C.1
  have hb := C.2.1
  unfold V_X12_feed_23_B at h
  refine lv_iload hx hb dX12_feed_23 (lv_at hl 6 rfl) ?_
  refine lv_bipush (v := (20 : Int32)) hx hb dX12_feed_25 (by decide) ?_
  refine lv_icmp_ge (tgt := 120) hx hb dX12_feed_27 (by decide) (fun c27 => ?_) (fun c27 => ?_)
  · have h := h.1 c27
    refine lv_aload_n hx hb dX12_feed_120 rfl (lv_at hl 0 rfl) ?_
    obtain ⟨g1, h⟩ := h
    refine q_getI C hP (k := 12) (lay_X12 C.hA) rfl (by decide) g1 (fl_X12_154 C.hA) dX12_feed_121 ?_
    exact q_iret C hr hlk hP h (by decide) (by decide) dX12_feed_124
  · have h := h.2 c27
    refine lv_iload hx hb dX12_feed_30 (lv_at hl 6 rfl) ?_
    refine lv_iconst (v := (4 : Int32)) hx hb dX12_feed_32 (by decide) ?_
    refine lv_icmp_ge (tgt := 40) hx hb dX12_feed_33 (by decide) (fun c33 => ?_) (fun c33 => ?_)
    · have h := h.1 c33
      refine lv_iload hx hb dX12_feed_40 (lv_at hl 6 rfl) ?_
      refine lv_bipush (v := (8 : Int32)) hx hb dX12_feed_42 (by decide) ?_
      refine lv_icmp_ge (tgt := 51) hx hb dX12_feed_44 (by decide) (fun c44 => ?_) (fun c44 => ?_)
      · have h := h.1 c44
        refine lv_iload hx hb dX12_feed_51 (lv_at hl 6 rfl) ?_
        refine lv_bipush (v := (12 : Int32)) hx hb dX12_feed_53 (by decide) ?_
        refine lv_icmp_ge (tgt := 62) hx hb dX12_feed_55 (by decide) (fun c55 => ?_) (fun c55 => ?_)
        · have h := h.1 c55
          refine lv_iload hx hb dX12_feed_62 (lv_at hl 6 rfl) ?_
          refine lv_bipush (v := (16 : Int32)) hx hb dX12_feed_64 (by decide) ?_
          refine lv_icmp_ge (tgt := 74) hx hb dX12_feed_66 (by decide) (fun c66 => ?_) (fun c66 => ?_)
          · have h := h.1 c66
            refine lv_iload hx hb dX12_feed_74 (lv_at hl 5 rfl) ?_
            exact b_X12_feed_76 C hr hlk hk_23 h (lv_sub hl [0, 1, 2, 3, 4, 5, 6] rfl) hP
          · have h := h.2 c66
            refine lv_iload hx hb dX12_feed_69 (lv_at hl 4 rfl) ?_
            refine lv_goto (tgt := 76) hx hb dX12_feed_71 (by decide) ?_
            exact b_X12_feed_76 C hr hlk hk_23 h (lv_sub hl [0, 1, 2, 3, 4, 5, 6] rfl) hP
        · have h := h.2 c55
          refine lv_iload_n hx hb dX12_feed_58 rfl (lv_at hl 3 rfl) ?_
          refine lv_goto (tgt := 76) hx hb dX12_feed_59 (by decide) ?_
          exact b_X12_feed_76 C hr hlk hk_23 h (lv_sub hl [0, 1, 2, 3, 4, 5, 6] rfl) hP
      · have h := h.2 c44
        refine lv_iload_n hx hb dX12_feed_47 rfl (lv_at hl 2 rfl) ?_
        refine lv_goto (tgt := 76) hx hb dX12_feed_48 (by decide) ?_
        exact b_X12_feed_76 C hr hlk hk_23 h (lv_sub hl [0, 1, 2, 3, 4, 5, 6] rfl) hP
    · have h := h.2 c33
      refine lv_iload_n hx hb dX12_feed_36 rfl (lv_at hl 1 rfl) ?_
      refine lv_goto (tgt := 76) hx hb dX12_feed_37 (by decide) ?_
      exact b_X12_feed_76 C hr hlk hk_23 h (lv_sub hl [0, 1, 2, 3, 4, 5, 6] rfl) hP
theorem l_X12_feed_23 {G : Gx} {Q : Int32 → Mm → Prop} {p : Program} {l : Launch} {e : Env} {s : State} {m : MethodId} {args : Array Value} {below : List Frame} {meth : Method} {c : Code} (C : Cx G p s m c cX12_feed RX12 8) (hr : meth.sig.returnType = (some .int)) (hlk : meth.locks = false) : ∀ (n : Nat) (x0 : Nat) (x1 : Int32) (x2 : Int32) (x3 : Int32) (x4 : Int32) (x5 : Int32) (x6 : Int32) (u : Mm) (H : Heap) (locs : List Loc) (ls : Array Slot), V_X12_feed_23 G Q n x0 x1 x2 x3 x4 x5 x6 u → lv_has ls 8 [(0, .ref x0), (1, .int x1), (2, .int x2), (3, .int x3), (4, .int x4), (5, .int x5), (6, .int x6)] → Hp G u s H locs → W p l e rm_X12_feed s m args below meth c H locs 0 0 (MQ below (Ei G Q) args s 0 0 (ag G)) (F0 m 23 ls []) := by
  intro n
  induction n with
  | zero => intro x0 x1 x2 x3 x4 x5 x6 u H locs ls h; exact h.elim
  | succ n ih => intro x0 x1 x2 x3 x4 x5 x6 u H locs ls h hl hP; exact b_X12_feed_23 C hr hlk ih h hl hP
set_option maxHeartbeats 4000000 in
set_option maxRecDepth 100000 in
theorem c_X12_feed {l : Launch} {G : Gx} {p0 : Nat} {p1 : Int32} {p2 : Int32} {p3 : Int32} {p4 : Int32} {p5 : Int32} {u : Mm} {Q : Int32 → Mm → Prop} (h : V_X12_feed G p0 p1 p2 p3 p4 p5 u Q) : Met l yX12_feed [.code yX12_feed cX12_feed 8 (some .int)] rm_X12_feed (va_Pc [.ref p0, .int p1, .int p2, .int p3, .int p4, .int p5] (Wd G u)) (Ei G Q) 0 0 (ag G) := by
  refine q_met (by decide) (Nat.le_of_ble_eq_true rfl) ?_
  intro p e s m below meth c ls C hr hlk hnm hl hP
  have hl : lv_has ls 8 [(0, .ref p0), (1, .int p1), (2, .int p2), (3, .int p3), (4, .int p4), (5, .int p5)] := hl
  generalize ([.ref p0, .int p1, .int p2, .int p3, .int p4, .int p5] : List Value).toArray = args
  have hx := C.1
  have hb := C.2.1
  unfold V_X12_feed at h
  refine lv_aload_n hx hb dX12_feed_0 rfl (lv_at hl 0 rfl) ?_
  refine lv_iconst (v := (0 : Int32)) hx hb dX12_feed_1 (by decide) ?_
  obtain ⟨g1, h⟩ := h
  refine q_putI C hP (k := 1) tyX12_ok nmX12 (lay_X12 C.hA) rfl (by decide) rfl rfl rfl rfl g1 (fl_X12_147 C.hA) dX12_feed_2 (fun H locs hP => ?_)
  obtain ⟨u_2, eu_2, hP⟩ := Hp.nm hP
  have h := h u_2 eu_2
  refine lv_aload_n hx hb dX12_feed_5 rfl (lv_at hl 0 rfl) ?_
  refine q_getI C hP (k := 12) (lay_X12 C.hA) rfl (by decide) g1 (fl_X12_154 C.hA) dX12_feed_6 ?_
  refine lv_bipush (v := (20 : Int32)) hx hb dX12_feed_9 (by decide) ?_
  refine lv_iadd hx hb dX12_feed_11 ?_
  refine lv_sipush (v := (700 : Int32)) hx hb dX12_feed_12 (by decide) ?_
  refine lv_icmp_le (tgt := 20) hx hb dX12_feed_15 (by decide) (fun c15 => ?_) (fun c15 => ?_)
  · have h := h.1 c15
    refine lv_iconst (v := (0 : Int32)) hx hb dX12_feed_20 (by decide) ?_
    refine lv_istore (lv' := [(6, .int (0 : Int32)), (0, .ref p0), (1, .int p1), (2, .int p2), (3, .int p3), (4, .int p4), (5, .int p5)]) hx hb dX12_feed_21 hl (by decide) rfl (fun ls hl => ?_)
    obtain ⟨n, h⟩ := h
    exact l_X12_feed_23 C hr hlk n p0 p1 p2 p3 p4 p5 (0 : Int32) u_2 _ _ _ h (lv_sub hl [1, 2, 3, 4, 5, 6, 0] rfl) hP
  · have h := h.2 c15
    refine lv_iconst (v := (-1 : Int32)) hx hb dX12_feed_18 (by decide) ?_
    exact q_iret C hr hlk hP h (by decide) (by decide) dX12_feed_19
-- X12_byteAt
abbrev rm_X12_byteAt : Room := { frames := 0, cells := 0, slots := 0, locals := 0 }
theorem hd_X12_byteAt : yX12_byteAt.cls ≠ "java/lang/invoke/MethodHandle" ∧ yX12_byteAt.cls ≠ "java/lang/invoke/VarHandle" ∧ (parseMethodDescriptor yX12_byteAt.desc).map (fun d => d.parameters.length) = some 1 := by decide +kernel
def V_X12_byteAt (G : Gx) (p0 : Nat) (p1 : Int32) (u : Mm) (Q : Int32 → Mm → Prop) : Prop :=
  kd G p0 = 12 ∧ (((gI u p0 14) ≤ p1 → Q (-1 : Int32) u) ∧ (¬ (gI u p0 14) ≤ p1 → (gR u p0 11) ≠ 0 ∧ kd G (gR u p0 11) = 13 ∧ vp_in p1 (ln G (gR u p0 11)) ∧ Q (gI u (gR u p0 11) p1.toNatClampNeg) u))
set_option maxHeartbeats 4000000 in
set_option maxRecDepth 100000 in
theorem c_X12_byteAt {l : Launch} {G : Gx} {p0 : Nat} {p1 : Int32} {u : Mm} {Q : Int32 → Mm → Prop} (h : V_X12_byteAt G p0 p1 u Q) : Met l yX12_byteAt [.code yX12_byteAt cX12_byteAt 2 (some .int)] rm_X12_byteAt (va_Pc [.ref p0, .int p1] (Wd G u)) (Ei G Q) 0 0 (ag G) := by
  refine q_met (by decide) (Nat.le_of_ble_eq_true rfl) ?_
  intro p e s m below meth c ls C hr hlk hnm hl hP
  have hl : lv_has ls 2 [(0, .ref p0), (1, .int p1)] := hl
  generalize ([.ref p0, .int p1] : List Value).toArray = args
  have hx := C.1
  have hb := C.2.1
  unfold V_X12_byteAt at h
  refine lv_iload_n hx hb dX12_byteAt_0 rfl (lv_at hl 1 rfl) ?_
  refine lv_aload_n hx hb dX12_byteAt_1 rfl (lv_at hl 0 rfl) ?_
  obtain ⟨g1, h⟩ := h
  refine q_getI C hP (k := 14) (lay_X12 C.hA) rfl (by decide) g1 (fl_X12_157 C.hA) dX12_byteAt_2 ?_
  refine lv_icmp_ge (tgt := 17) hx hb dX12_byteAt_5 (by decide) (fun c5 => ?_) (fun c5 => ?_)
  · have h := h.1 c5
    refine lv_iconst (v := (-1 : Int32)) hx hb dX12_byteAt_17 (by decide) ?_
    exact q_iret C hr hlk hP h (by decide) (by decide) dX12_byteAt_18
  · have h := h.2 c5
    refine lv_aload_n hx hb dX12_byteAt_8 rfl (lv_at hl 0 rfl) ?_
    obtain ⟨g2, h⟩ := h
    refine q_getR C hP (k := 11) (lay_X12 C.hA) rfl (by decide) g1 g2 (fl_X12_51 C.hA) dX12_byteAt_9 ?_
    refine lv_iload_n hx hb dX12_byteAt_12 rfl (lv_at hl 1 rfl) ?_
    obtain ⟨g3, h⟩ := h
    obtain ⟨g4, h⟩ := h
    refine q_iald C hP g3 g4 dX12_byteAt_13 ?_
    refine lv_goto (tgt := 18) hx hb dX12_byteAt_14 (by decide) ?_
    exact q_iret C hr hlk hP h (by decide) (by decide) dX12_byteAt_18
-- X12_isLetter
abbrev rm_X12_isLetter : Room := { frames := 0, cells := 0, slots := 0, locals := 0 }
theorem hd_X12_isLetter : yX12_isLetter.cls ≠ "java/lang/invoke/MethodHandle" ∧ yX12_isLetter.cls ≠ "java/lang/invoke/VarHandle" ∧ (parseMethodDescriptor yX12_isLetter.desc).map (fun d => d.parameters.length) = some 1 := by decide +kernel
def V_X12_isLetter (G : Gx) (p0 : Int32) (u : Mm) (Q : Int32 → Mm → Prop) : Prop :=
  ((p0 < (97 : Int32) → Q (0 : Int32) u) ∧ (¬ p0 < (97 : Int32) → (((122 : Int32) < p0 → Q (0 : Int32) u) ∧ (¬ (122 : Int32) < p0 → Q (1 : Int32) u))))
set_option maxHeartbeats 4000000 in
set_option maxRecDepth 100000 in
theorem c_X12_isLetter {l : Launch} {G : Gx} {p0 : Int32} {u : Mm} {Q : Int32 → Mm → Prop} (h : V_X12_isLetter G p0 u Q) : Met l yX12_isLetter [.code yX12_isLetter cX12_isLetter 1 (some .boolean)] rm_X12_isLetter (va_Pc [.int p0] (Wd G u)) (Ei G Q) 0 0 (ag G) := by
  refine q_met (by decide) (Nat.le_of_ble_eq_true rfl) ?_
  intro p e s m below meth c ls C hr hlk hnm hl hP
  have hl : lv_has ls 1 [(0, .int p0)] := hl
  generalize ([.int p0] : List Value).toArray = args
  have hx := C.1
  have hb := C.2.1
  unfold V_X12_isLetter at h
  refine lv_iload_n hx hb dX12_isLetter_0 rfl (lv_at hl 0 rfl) ?_
  refine lv_bipush (v := (97 : Int32)) hx hb dX12_isLetter_1 (by decide) ?_
  refine lv_icmp_lt (tgt := 16) hx hb dX12_isLetter_3 (by decide) (fun c3 => ?_) (fun c3 => ?_)
  · have h := h.1 c3
    refine lv_iconst (v := (0 : Int32)) hx hb dX12_isLetter_16 (by decide) ?_
    exact q_zret C hr hlk hP (by decide) h (by decide) (by decide) dX12_isLetter_17
  · have h := h.2 c3
    refine lv_iload_n hx hb dX12_isLetter_6 rfl (lv_at hl 0 rfl) ?_
    refine lv_bipush (v := (122 : Int32)) hx hb dX12_isLetter_7 (by decide) ?_
    refine lv_icmp_gt (tgt := 16) hx hb dX12_isLetter_9 (by decide) (fun c9 => ?_) (fun c9 => ?_)
    · have h := h.1 c9
      refine lv_iconst (v := (0 : Int32)) hx hb dX12_isLetter_16 (by decide) ?_
      exact q_zret C hr hlk hP (by decide) h (by decide) (by decide) dX12_isLetter_17
    · have h := h.2 c9
      refine lv_iconst (v := (1 : Int32)) hx hb dX12_isLetter_12 (by decide) ?_
      refine lv_goto (tgt := 17) hx hb dX12_isLetter_13 (by decide) ?_
      exact q_zret C hr hlk hP (by decide) h (by decide) (by decide) dX12_isLetter_17
-- X12_isDigit
abbrev rm_X12_isDigit : Room := { frames := 0, cells := 0, slots := 0, locals := 0 }
theorem hd_X12_isDigit : yX12_isDigit.cls ≠ "java/lang/invoke/MethodHandle" ∧ yX12_isDigit.cls ≠ "java/lang/invoke/VarHandle" ∧ (parseMethodDescriptor yX12_isDigit.desc).map (fun d => d.parameters.length) = some 1 := by decide +kernel
def V_X12_isDigit (G : Gx) (p0 : Int32) (u : Mm) (Q : Int32 → Mm → Prop) : Prop :=
  ((p0 < (48 : Int32) → Q (0 : Int32) u) ∧ (¬ p0 < (48 : Int32) → (((57 : Int32) < p0 → Q (0 : Int32) u) ∧ (¬ (57 : Int32) < p0 → Q (1 : Int32) u))))
set_option maxHeartbeats 4000000 in
set_option maxRecDepth 100000 in
theorem c_X12_isDigit {l : Launch} {G : Gx} {p0 : Int32} {u : Mm} {Q : Int32 → Mm → Prop} (h : V_X12_isDigit G p0 u Q) : Met l yX12_isDigit [.code yX12_isDigit cX12_isDigit 1 (some .boolean)] rm_X12_isDigit (va_Pc [.int p0] (Wd G u)) (Ei G Q) 0 0 (ag G) := by
  refine q_met (by decide) (Nat.le_of_ble_eq_true rfl) ?_
  intro p e s m below meth c ls C hr hlk hnm hl hP
  have hl : lv_has ls 1 [(0, .int p0)] := hl
  generalize ([.int p0] : List Value).toArray = args
  have hx := C.1
  have hb := C.2.1
  unfold V_X12_isDigit at h
  refine lv_iload_n hx hb dX12_isDigit_0 rfl (lv_at hl 0 rfl) ?_
  refine lv_bipush (v := (48 : Int32)) hx hb dX12_isDigit_1 (by decide) ?_
  refine lv_icmp_lt (tgt := 16) hx hb dX12_isDigit_3 (by decide) (fun c3 => ?_) (fun c3 => ?_)
  · have h := h.1 c3
    refine lv_iconst (v := (0 : Int32)) hx hb dX12_isDigit_16 (by decide) ?_
    exact q_zret C hr hlk hP (by decide) h (by decide) (by decide) dX12_isDigit_17
  · have h := h.2 c3
    refine lv_iload_n hx hb dX12_isDigit_6 rfl (lv_at hl 0 rfl) ?_
    refine lv_bipush (v := (57 : Int32)) hx hb dX12_isDigit_7 (by decide) ?_
    refine lv_icmp_gt (tgt := 16) hx hb dX12_isDigit_9 (by decide) (fun c9 => ?_) (fun c9 => ?_)
    · have h := h.1 c9
      refine lv_iconst (v := (0 : Int32)) hx hb dX12_isDigit_16 (by decide) ?_
      exact q_zret C hr hlk hP (by decide) h (by decide) (by decide) dX12_isDigit_17
    · have h := h.2 c9
      refine lv_iconst (v := (1 : Int32)) hx hb dX12_isDigit_12 (by decide) ?_
      refine lv_goto (tgt := 17) hx hb dX12_isDigit_13 (by decide) ?_
      exact q_zret C hr hlk hP (by decide) h (by decide) (by decide) dX12_isDigit_17
-- X12_stepOn
abbrev rm_X12_stepOn : Room := { frames := 1, cells := 0, slots := 0, locals := 21 }
theorem hd_X12_stepOn : yX12_stepOn.cls ≠ "java/lang/invoke/MethodHandle" ∧ yX12_stepOn.cls ≠ "java/lang/invoke/VarHandle" ∧ (parseMethodDescriptor yX12_stepOn.desc).map (fun d => d.parameters.length) = some 0 := by decide +kernel
def V_X12_stepOn_211 (G : Gx) (Q : Mm → Prop) (x0 : Nat) (u : Mm) : Prop :=
  kd G x0 = 12 ∧ ∀ u_216 : Mm, u_216 = sI u x0 18 (gI u x0 13) → Q u_216
def V_X12_stepOn_208 (G : Gx) (Q : Mm → Prop) (x0 : Nat) (t0 : Nat) (t1 : Int32) (u : Mm) : Prop :=
  kd G t0 = 12 ∧ ∀ u_208 : Mm, u_208 = sI u t0 15 t1 → V_X12_stepOn_211 G Q x0 u_208
def V_X12_stepOn_123_B (G : Gx) (Q : Mm → Prop) (k_123 : Nat → Mm → Prop) (x0 : Nat) (u : Mm) : Prop :=
  kd G x0 = 12 ∧ V_X12_byteAt G x0 (gI u x0 13) u (fun (v_128 : Int32) (u_128 : Mm) => V_X12_isDigit G v_128 u_128 (fun (v_131 : Int32) (u_131 : Mm) => ((v_131 = 0 → ∀ u_180 : Mm, u_180 = sI u_131 x0 15 (2 : Int32) → V_X12_stepOn_211 G Q x0 u_180) ∧ (¬ v_131 = 0 → V_X12_byteAt G x0 (gI u_131 x0 13) u_131 (fun (v_152 : Int32) (u_152 : Mm) => ∀ u_162 : Mm, u_162 = sI u_152 x0 16 (mn (100000 : Int32) ((((10 : Int32) * (gI u_131 x0 16)) + v_152) - (48 : Int32))) → ∀ u_172 : Mm, u_172 = sI u_162 x0 13 ((gI u_162 x0 13) + (1 : Int32)) → k_123 x0 u_172)))))
def V_X12_stepOn_123 (G : Gx) (Q : Mm → Prop) : Nat → (Nat → Mm → Prop)
  | 0 => fun _ _ => False
  | n + 1 => fun x0 u => V_X12_stepOn_123_B G Q (V_X12_stepOn_123 G Q n) x0 u
def V_X12_stepOn_76_B (G : Gx) (Q : Mm → Prop) (k_76 : Nat → Mm → Prop) (x0 : Nat) (u : Mm) : Prop :=
  kd G x0 = 12 ∧ V_X12_byteAt G x0 (gI u x0 13) u (fun (v_81 : Int32) (u_81 : Mm) => V_X12_isLetter G v_81 u_81 (fun (v_84 : Int32) (u_84 : Mm) => ((v_84 = 0 → ∀ u_105 : Mm, u_105 = sI u_84 x0 15 (1 : Int32) → V_X12_stepOn_211 G Q x0 u_105) ∧ (¬ v_84 = 0 → ∀ u_97 : Mm, u_97 = sI u_84 x0 13 ((gI u_84 x0 13) + (1 : Int32)) → k_76 x0 u_97))))
def V_X12_stepOn_76 (G : Gx) (Q : Mm → Prop) : Nat → (Nat → Mm → Prop)
  | 0 => fun _ _ => False
  | n + 1 => fun x0 u => V_X12_stepOn_76_B G Q (V_X12_stepOn_76 G Q n) x0 u
def V_X12_stepOn_26 (G : Gx) (Q : Mm → Prop) (k_0 : Nat → Mm → Prop) (x0 : Nat) (u : Mm) : Prop :=
  kd G x0 = 12 ∧ ∀ u_33 : Mm, u_33 = sI u x0 13 ((gI u x0 13) + (1 : Int32)) → k_0 x0 u_33
def V_X12_stepOn_0_B (G : Gx) (Q : Mm → Prop) (k_0 : Nat → Mm → Prop) (x0 : Nat) (u : Mm) : Prop :=
  kd G x0 = 12 ∧ V_X12_byteAt G x0 (gI u x0 13) u (fun (v_5 : Int32) (u_5 : Mm) => ((v_5 = (32 : Int32) → V_X12_stepOn_26 G Q k_0 x0 u_5) ∧ (¬ v_5 = (32 : Int32) → V_X12_byteAt G x0 (gI u_5 x0 13) u_5 (fun (v_18 : Int32) (u_18 : Mm) => ((v_18 = (10 : Int32) → V_X12_stepOn_26 G Q k_0 x0 u_18) ∧ (¬ v_18 = (10 : Int32) → ∀ u_44 : Mm, u_44 = sI u_18 x0 17 (gI u_18 x0 13) → V_X12_byteAt G x0 (gI u_44 x0 13) u_44 (fun (v_52 : Int32) (u_52 : Mm) => ((v_52 = (-1 : Int32) → ∀ u_63 : Mm, u_63 = sI u_52 x0 15 (0 : Int32) → V_X12_stepOn_211 G Q x0 u_63) ∧ (¬ v_52 = (-1 : Int32) → V_X12_isLetter G v_52 u_52 (fun (v_70 : Int32) (u_70 : Mm) => ((v_70 = 0 → V_X12_isDigit G v_52 u_70 (fun (v_112 : Int32) (u_112 : Mm) => ((v_112 = 0 → ∀ u_193 : Mm, u_193 = sI u_112 x0 13 ((gI u_112 x0 13) + (1 : Int32)) → ((v_52 = (59 : Int32) → V_X12_stepOn_208 G Q x0 x0 (3 : Int32) u_193) ∧ (¬ v_52 = (59 : Int32) → V_X12_stepOn_208 G Q x0 x0 (4 : Int32) u_193))) ∧ (¬ v_112 = 0 → ∀ u_120 : Mm, u_120 = sI u_112 x0 16 (0 : Int32) → ∃ n : Nat, V_X12_stepOn_123 G Q n x0 u_120)))) ∧ (¬ v_70 = 0 → ∃ n : Nat, V_X12_stepOn_76 G Q n x0 u_70))))))))))))
def V_X12_stepOn_0 (G : Gx) (Q : Mm → Prop) : Nat → (Nat → Mm → Prop)
  | 0 => fun _ _ => False
  | n + 1 => fun x0 u => V_X12_stepOn_0_B G Q (V_X12_stepOn_0 G Q n) x0 u
def V_X12_stepOn (G : Gx) (p0 : Nat) (u : Mm) (Q : Mm → Prop) : Prop :=
  ∃ n : Nat, V_X12_stepOn_0 G Q n p0 u
set_option maxHeartbeats 4000000 in
set_option maxRecDepth 100000 in
theorem b_X12_stepOn_211 {G : Gx} {Q : Mm → Prop} {p : Program} {l : Launch} {e : Env} {s : State} {m : MethodId} {args : Array Value} {below : List Frame} {meth : Method} {c : Code} (C : Cx G p s m c cX12_stepOn RX12 2) (hr : meth.sig.returnType = none) (hlk : meth.locks = false) {x0 : Nat} {u : Mm} {H : Heap} {locs : List Loc} {ls : Array Slot} (h : V_X12_stepOn_211 G Q x0 u) (hl : lv_has ls 2 [(0, .ref x0)]) (hP : Hp G u s H locs) : W p l e rm_X12_stepOn s m args below meth c H locs 0 0 (MQ below (Ev G Q) args s 0 0 (ag G)) (F0 m 211 ls []) := by
  have hx := C.1
  have hb := C.2.1
  unfold V_X12_stepOn_211 at h
  refine lv_aload_n hx hb dX12_stepOn_211 rfl (lv_at hl 0 rfl) ?_
  refine lv_aload_n hx hb dX12_stepOn_212 rfl (lv_at hl 0 rfl) ?_
  obtain ⟨g1, h⟩ := h
  refine q_getI C hP (k := 13) (lay_X12 C.hA) rfl (by decide) g1 (fl_X12_160 C.hA) dX12_stepOn_213 ?_
  refine q_putI C hP (k := 18) tyX12_ok nmX12 (lay_X12 C.hA) rfl (by decide) rfl rfl rfl rfl g1 (fl_X12_189 C.hA) dX12_stepOn_216 (fun H locs hP => ?_)
  obtain ⟨u_216, eu_216, hP⟩ := Hp.nm hP
  have h := h u_216 eu_216
  exact q_vret C hr hlk hP h (by decide) (by decide) dX12_stepOn_219
set_option maxHeartbeats 4000000 in
set_option maxRecDepth 100000 in
theorem b_X12_stepOn_208 {G : Gx} {Q : Mm → Prop} {p : Program} {l : Launch} {e : Env} {s : State} {m : MethodId} {args : Array Value} {below : List Frame} {meth : Method} {c : Code} (C : Cx G p s m c cX12_stepOn RX12 2) (hr : meth.sig.returnType = none) (hlk : meth.locks = false) {x0 : Nat} {t0 : Nat} {t1 : Int32} {u : Mm} {H : Heap} {locs : List Loc} {ls : Array Slot} (h : V_X12_stepOn_208 G Q x0 t0 t1 u) (hl : lv_has ls 2 [(0, .ref x0)]) (hP : Hp G u s H locs) : W p l e rm_X12_stepOn s m args below meth c H locs 0 0 (MQ below (Ev G Q) args s 0 0 (ag G)) (F0 m 208 ls [.int t1, .ref t0]) := by
  have hx := C.1
  have hb := C.2.1
  unfold V_X12_stepOn_208 at h
  obtain ⟨g1, h⟩ := h
  refine q_putI C hP (k := 15) tyX12_ok nmX12 (lay_X12 C.hA) rfl (by decide) rfl rfl rfl rfl g1 (fl_X12_170 C.hA) dX12_stepOn_208 (fun H locs hP => ?_)
  obtain ⟨u_208, eu_208, hP⟩ := Hp.nm hP
  have h := h u_208 eu_208
  exact b_X12_stepOn_211 C hr hlk h (lv_sub hl [0] rfl) hP
set_option maxHeartbeats 4000000 in
set_option maxRecDepth 100000 in
theorem b_X12_stepOn_123 {G : Gx} {Q : Mm → Prop} {p : Program} {l : Launch} {e : Env} {s : State} {m : MethodId} {args : Array Value} {below : List Frame} {meth : Method} {c : Code} (C : Cx G p s m c cX12_stepOn RX12 2) (hr : meth.sig.returnType = none) (hlk : meth.locks = false) {k_123 : Nat → Mm → Prop} (hk_123 : ∀ (x0 : Nat) (u : Mm) (H : Heap) (locs : List Loc) (ls : Array Slot), k_123 x0 u → lv_has ls 2 [(0, .ref x0)] → Hp G u s H locs → W p l e rm_X12_stepOn s m args below meth c H locs 0 0 (MQ below (Ev G Q) args s 0 0 (ag G)) (F0 m 123 ls [])) {x0 : Nat} {u : Mm} {H : Heap} {locs : List Loc} {ls : Array Slot} (h : V_X12_stepOn_123_B G Q k_123 x0 u) (hl : lv_has ls 2 [(0, .ref x0)]) (hP : Hp G u s H locs) : W p l e rm_X12_stepOn s m args below meth c H locs 0 0 (MQ below (Ev G Q) args s 0 0 (ag G)) (F0 m 123 ls []) := by
  have hx := C.1
  have hb := C.2.1
  unfold V_X12_stepOn_123_B at h
  refine lv_aload_n hx hb dX12_stepOn_123 rfl (lv_at hl 0 rfl) ?_
  refine lv_aload_n hx hb dX12_stepOn_124 rfl (lv_at hl 0 rfl) ?_
  obtain ⟨g1, h⟩ := h
  refine q_getI C hP (k := 13) (lay_X12 C.hA) rfl (by decide) g1 (fl_X12_160 C.hA) dX12_stepOn_125 ?_
  refine q_cali (q_runV C hP (c_X12_byteAt h) (cd_X12_byteAt C.hA) (ini_X12 C.hA) (ml_X12_163 C.hA) (im_X12_byteAt C.hA) (sl_X12_byteAt C.hA) g1 (by decide) rfl hd_X12_byteAt ⟨rfl, rfl⟩ ⟨Nat.le_of_ble_eq_true rfl, Nat.le_of_ble_eq_true rfl⟩ ⟨Nat.le_of_ble_eq_true rfl, Nat.le_of_ble_eq_true rfl⟩ hl.1 rfl (Nat.le_of_ble_eq_true rfl) dX12_stepOn_128) hP (fun v_128 u_128 H locs h hP => ?_)
  refine q_cali (q_runS C hP (c_X12_isDigit h) (cd_X12_isDigit C.hA) (ini_X12 C.hA) (ml_X12_177 C.hA) (st_X12_isDigit C.hA) hd_X12_isDigit ⟨rfl, rfl⟩ ⟨Nat.le_of_ble_eq_true rfl, Nat.le_of_ble_eq_true rfl⟩ ⟨Nat.le_of_ble_eq_true rfl, Nat.le_of_ble_eq_true rfl⟩ hl.1 rfl (Nat.le_of_ble_eq_true rfl) dX12_stepOn_131) hP (fun v_131 u_131 H locs h hP => ?_)
  refine lv_if_eq (tgt := 178) hx hb dX12_stepOn_134 (by decide) (fun c134 => ?_) (fun c134 => ?_)
  · have h := h.1 c134
    refine lv_aload_n hx hb dX12_stepOn_178 rfl (lv_at hl 0 rfl) ?_
    refine lv_iconst (v := (2 : Int32)) hx hb dX12_stepOn_179 (by decide) ?_
    refine q_putI C hP (k := 15) tyX12_ok nmX12 (lay_X12 C.hA) rfl (by decide) rfl rfl rfl rfl g1 (fl_X12_170 C.hA) dX12_stepOn_180 (fun H locs hP => ?_)
    obtain ⟨u_180, eu_180, hP⟩ := Hp.nm hP
    have h := h u_180 eu_180
    refine lv_goto (tgt := 211) hx hb dX12_stepOn_183 (by decide) ?_
    exact b_X12_stepOn_211 C hr hlk h (lv_sub hl [0] rfl) hP
  · have h := h.2 c134
    refine lv_aload_n hx hb dX12_stepOn_137 rfl (lv_at hl 0 rfl) ?_
    refine lv_ldc (v := (100000 : Int32)) hx hb C.2.2.1 (kc_X12_103 C.hA) dX12_stepOn_138 ?_
    refine lv_bipush (v := (10 : Int32)) hx hb dX12_stepOn_140 (by decide) ?_
    refine lv_aload_n hx hb dX12_stepOn_142 rfl (lv_at hl 0 rfl) ?_
    refine q_getI C hP (k := 16) (lay_X12 C.hA) rfl (by decide) g1 (fl_X12_180 C.hA) dX12_stepOn_143 ?_
    refine lv_imul hx hb dX12_stepOn_146 ?_
    refine lv_aload_n hx hb dX12_stepOn_147 rfl (lv_at hl 0 rfl) ?_
    refine lv_aload_n hx hb dX12_stepOn_148 rfl (lv_at hl 0 rfl) ?_
    refine q_getI C hP (k := 13) (lay_X12 C.hA) rfl (by decide) g1 (fl_X12_160 C.hA) dX12_stepOn_149 ?_
    refine q_cali (q_runV C hP (c_X12_byteAt h) (cd_X12_byteAt C.hA) (ini_X12 C.hA) (ml_X12_163 C.hA) (im_X12_byteAt C.hA) (sl_X12_byteAt C.hA) g1 (by decide) rfl hd_X12_byteAt ⟨rfl, rfl⟩ ⟨Nat.le_of_ble_eq_true rfl, Nat.le_of_ble_eq_true rfl⟩ ⟨Nat.le_of_ble_eq_true rfl, Nat.le_of_ble_eq_true rfl⟩ hl.1 rfl (Nat.le_of_ble_eq_true rfl) dX12_stepOn_152) hP (fun v_152 u_152 H locs h hP => ?_)
    refine lv_iadd hx hb dX12_stepOn_155 ?_
    refine lv_bipush (v := (48 : Int32)) hx hb dX12_stepOn_156 (by decide) ?_
    refine lv_isub hx hb dX12_stepOn_158 ?_
    refine va_mmin hx hb (C.2.2.2.1.trans hl.1.symm) C.2.2.1 (ml_X12_183 C.hA) (st_J9_min_7cf53 C.hA) (ini_J9 C.hA) (cd_J9_min_7cf53 C.hA) (Nat.le_of_ble_eq_true rfl) (Nat.le_of_ble_eq_true rfl) (Nat.le_of_ble_eq_true rfl) (Nat.le_of_ble_eq_true rfl) dX12_stepOn_159 ?_
    refine q_putI C hP (k := 16) tyX12_ok nmX12 (lay_X12 C.hA) rfl (by decide) rfl rfl rfl rfl g1 (fl_X12_180 C.hA) dX12_stepOn_162 (fun H locs hP => ?_)
    obtain ⟨u_162, eu_162, hP⟩ := Hp.nm hP
    have h := h u_162 eu_162
    refine lv_aload_n hx hb dX12_stepOn_165 rfl (lv_at hl 0 rfl) ?_
    refine lv_dup hx hb dX12_stepOn_166 rfl ?_
    refine q_getI C hP (k := 13) (lay_X12 C.hA) rfl (by decide) g1 (fl_X12_160 C.hA) dX12_stepOn_167 ?_
    refine lv_iconst (v := (1 : Int32)) hx hb dX12_stepOn_170 (by decide) ?_
    refine lv_iadd hx hb dX12_stepOn_171 ?_
    refine q_putI C hP (k := 13) tyX12_ok nmX12 (lay_X12 C.hA) rfl (by decide) rfl rfl rfl rfl g1 (fl_X12_160 C.hA) dX12_stepOn_172 (fun H locs hP => ?_)
    obtain ⟨u_172, eu_172, hP⟩ := Hp.nm hP
    have h := h u_172 eu_172
    refine lv_goto (tgt := 123) hx hb dX12_stepOn_175 (by decide) ?_
    exact hk_123 x0 u_172 _ _ _ h (lv_sub hl [0] rfl) hP
theorem l_X12_stepOn_123 {G : Gx} {Q : Mm → Prop} {p : Program} {l : Launch} {e : Env} {s : State} {m : MethodId} {args : Array Value} {below : List Frame} {meth : Method} {c : Code} (C : Cx G p s m c cX12_stepOn RX12 2) (hr : meth.sig.returnType = none) (hlk : meth.locks = false) : ∀ (n : Nat) (x0 : Nat) (u : Mm) (H : Heap) (locs : List Loc) (ls : Array Slot), V_X12_stepOn_123 G Q n x0 u → lv_has ls 2 [(0, .ref x0)] → Hp G u s H locs → W p l e rm_X12_stepOn s m args below meth c H locs 0 0 (MQ below (Ev G Q) args s 0 0 (ag G)) (F0 m 123 ls []) := by
  intro n
  induction n with
  | zero => intro x0 u H locs ls h; exact h.elim
  | succ n ih => intro x0 u H locs ls h hl hP; exact b_X12_stepOn_123 C hr hlk ih h hl hP
set_option maxHeartbeats 4000000 in
set_option maxRecDepth 100000 in
theorem b_X12_stepOn_76 {G : Gx} {Q : Mm → Prop} {p : Program} {l : Launch} {e : Env} {s : State} {m : MethodId} {args : Array Value} {below : List Frame} {meth : Method} {c : Code} (C : Cx G p s m c cX12_stepOn RX12 2) (hr : meth.sig.returnType = none) (hlk : meth.locks = false) {k_76 : Nat → Mm → Prop} (hk_76 : ∀ (x0 : Nat) (u : Mm) (H : Heap) (locs : List Loc) (ls : Array Slot), k_76 x0 u → lv_has ls 2 [(0, .ref x0)] → Hp G u s H locs → W p l e rm_X12_stepOn s m args below meth c H locs 0 0 (MQ below (Ev G Q) args s 0 0 (ag G)) (F0 m 76 ls [])) {x0 : Nat} {u : Mm} {H : Heap} {locs : List Loc} {ls : Array Slot} (h : V_X12_stepOn_76_B G Q k_76 x0 u) (hl : lv_has ls 2 [(0, .ref x0)]) (hP : Hp G u s H locs) : W p l e rm_X12_stepOn s m args below meth c H locs 0 0 (MQ below (Ev G Q) args s 0 0 (ag G)) (F0 m 76 ls []) := by
  have hx := C.1
  have hb := C.2.1
  unfold V_X12_stepOn_76_B at h
  refine lv_aload_n hx hb dX12_stepOn_76 rfl (lv_at hl 0 rfl) ?_
  refine lv_aload_n hx hb dX12_stepOn_77 rfl (lv_at hl 0 rfl) ?_
  obtain ⟨g1, h⟩ := h
  refine q_getI C hP (k := 13) (lay_X12 C.hA) rfl (by decide) g1 (fl_X12_160 C.hA) dX12_stepOn_78 ?_
  refine q_cali (q_runV C hP (c_X12_byteAt h) (cd_X12_byteAt C.hA) (ini_X12 C.hA) (ml_X12_163 C.hA) (im_X12_byteAt C.hA) (sl_X12_byteAt C.hA) g1 (by decide) rfl hd_X12_byteAt ⟨rfl, rfl⟩ ⟨Nat.le_of_ble_eq_true rfl, Nat.le_of_ble_eq_true rfl⟩ ⟨Nat.le_of_ble_eq_true rfl, Nat.le_of_ble_eq_true rfl⟩ hl.1 rfl (Nat.le_of_ble_eq_true rfl) dX12_stepOn_81) hP (fun v_81 u_81 H locs h hP => ?_)
  refine q_cali (q_runS C hP (c_X12_isLetter h) (cd_X12_isLetter C.hA) (ini_X12 C.hA) (ml_X12_173 C.hA) (st_X12_isLetter C.hA) hd_X12_isLetter ⟨rfl, rfl⟩ ⟨Nat.le_of_ble_eq_true rfl, Nat.le_of_ble_eq_true rfl⟩ ⟨Nat.le_of_ble_eq_true rfl, Nat.le_of_ble_eq_true rfl⟩ hl.1 rfl (Nat.le_of_ble_eq_true rfl) dX12_stepOn_84) hP (fun v_84 u_84 H locs h hP => ?_)
  refine lv_if_eq (tgt := 103) hx hb dX12_stepOn_87 (by decide) (fun c87 => ?_) (fun c87 => ?_)
  · have h := h.1 c87
    refine lv_aload_n hx hb dX12_stepOn_103 rfl (lv_at hl 0 rfl) ?_
    refine lv_iconst (v := (1 : Int32)) hx hb dX12_stepOn_104 (by decide) ?_
    refine q_putI C hP (k := 15) tyX12_ok nmX12 (lay_X12 C.hA) rfl (by decide) rfl rfl rfl rfl g1 (fl_X12_170 C.hA) dX12_stepOn_105 (fun H locs hP => ?_)
    obtain ⟨u_105, eu_105, hP⟩ := Hp.nm hP
    have h := h u_105 eu_105
    refine lv_goto (tgt := 211) hx hb dX12_stepOn_108 (by decide) ?_
    exact b_X12_stepOn_211 C hr hlk h (lv_sub hl [0] rfl) hP
  · have h := h.2 c87
    refine lv_aload_n hx hb dX12_stepOn_90 rfl (lv_at hl 0 rfl) ?_
    refine lv_dup hx hb dX12_stepOn_91 rfl ?_
    refine q_getI C hP (k := 13) (lay_X12 C.hA) rfl (by decide) g1 (fl_X12_160 C.hA) dX12_stepOn_92 ?_
    refine lv_iconst (v := (1 : Int32)) hx hb dX12_stepOn_95 (by decide) ?_
    refine lv_iadd hx hb dX12_stepOn_96 ?_
    refine q_putI C hP (k := 13) tyX12_ok nmX12 (lay_X12 C.hA) rfl (by decide) rfl rfl rfl rfl g1 (fl_X12_160 C.hA) dX12_stepOn_97 (fun H locs hP => ?_)
    obtain ⟨u_97, eu_97, hP⟩ := Hp.nm hP
    have h := h u_97 eu_97
    refine lv_goto (tgt := 76) hx hb dX12_stepOn_100 (by decide) ?_
    exact hk_76 x0 u_97 _ _ _ h (lv_sub hl [0] rfl) hP
theorem l_X12_stepOn_76 {G : Gx} {Q : Mm → Prop} {p : Program} {l : Launch} {e : Env} {s : State} {m : MethodId} {args : Array Value} {below : List Frame} {meth : Method} {c : Code} (C : Cx G p s m c cX12_stepOn RX12 2) (hr : meth.sig.returnType = none) (hlk : meth.locks = false) : ∀ (n : Nat) (x0 : Nat) (u : Mm) (H : Heap) (locs : List Loc) (ls : Array Slot), V_X12_stepOn_76 G Q n x0 u → lv_has ls 2 [(0, .ref x0)] → Hp G u s H locs → W p l e rm_X12_stepOn s m args below meth c H locs 0 0 (MQ below (Ev G Q) args s 0 0 (ag G)) (F0 m 76 ls []) := by
  intro n
  induction n with
  | zero => intro x0 u H locs ls h; exact h.elim
  | succ n ih => intro x0 u H locs ls h hl hP; exact b_X12_stepOn_76 C hr hlk ih h hl hP
set_option maxHeartbeats 4000000 in
set_option maxRecDepth 100000 in
theorem b_X12_stepOn_26 {G : Gx} {Q : Mm → Prop} {p : Program} {l : Launch} {e : Env} {s : State} {m : MethodId} {args : Array Value} {below : List Frame} {meth : Method} {c : Code} (C : Cx G p s m c cX12_stepOn RX12 2) (hr : meth.sig.returnType = none) (hlk : meth.locks = false) {k_0 : Nat → Mm → Prop} (hk_0 : ∀ (x0 : Nat) (u : Mm) (H : Heap) (locs : List Loc) (ls : Array Slot), k_0 x0 u → lv_has ls 2 [(0, .ref x0)] → Hp G u s H locs → W p l e rm_X12_stepOn s m args below meth c H locs 0 0 (MQ below (Ev G Q) args s 0 0 (ag G)) (F0 m 0 ls [])) {x0 : Nat} {u : Mm} {H : Heap} {locs : List Loc} {ls : Array Slot} (h : V_X12_stepOn_26 G Q k_0 x0 u) (hl : lv_has ls 2 [(0, .ref x0)]) (hP : Hp G u s H locs) : W p l e rm_X12_stepOn s m args below meth c H locs 0 0 (MQ below (Ev G Q) args s 0 0 (ag G)) (F0 m 26 ls []) := by
  have hx := C.1
  have hb := C.2.1
  unfold V_X12_stepOn_26 at h
  refine lv_aload_n hx hb dX12_stepOn_26 rfl (lv_at hl 0 rfl) ?_
  refine lv_dup hx hb dX12_stepOn_27 rfl ?_
  obtain ⟨g1, h⟩ := h
  refine q_getI C hP (k := 13) (lay_X12 C.hA) rfl (by decide) g1 (fl_X12_160 C.hA) dX12_stepOn_28 ?_
  refine lv_iconst (v := (1 : Int32)) hx hb dX12_stepOn_31 (by decide) ?_
  refine lv_iadd hx hb dX12_stepOn_32 ?_
  refine q_putI C hP (k := 13) tyX12_ok nmX12 (lay_X12 C.hA) rfl (by decide) rfl rfl rfl rfl g1 (fl_X12_160 C.hA) dX12_stepOn_33 (fun H locs hP => ?_)
  obtain ⟨u_33, eu_33, hP⟩ := Hp.nm hP
  have h := h u_33 eu_33
  refine lv_goto (tgt := 0) hx hb dX12_stepOn_36 (by decide) ?_
  exact hk_0 x0 u_33 _ _ _ h (lv_sub hl [0] rfl) hP
set_option maxHeartbeats 4000000 in
set_option maxRecDepth 100000 in
theorem b_X12_stepOn_0 {G : Gx} {Q : Mm → Prop} {p : Program} {l : Launch} {e : Env} {s : State} {m : MethodId} {args : Array Value} {below : List Frame} {meth : Method} {c : Code} (C : Cx G p s m c cX12_stepOn RX12 2) (hr : meth.sig.returnType = none) (hlk : meth.locks = false) {k_0 : Nat → Mm → Prop} (hk_0 : ∀ (x0 : Nat) (u : Mm) (H : Heap) (locs : List Loc) (ls : Array Slot), k_0 x0 u → lv_has ls 2 [(0, .ref x0)] → Hp G u s H locs → W p l e rm_X12_stepOn s m args below meth c H locs 0 0 (MQ below (Ev G Q) args s 0 0 (ag G)) (F0 m 0 ls [])) {x0 : Nat} {u : Mm} {H : Heap} {locs : List Loc} {ls : Array Slot} (h : V_X12_stepOn_0_B G Q k_0 x0 u) (hl : lv_has ls 2 [(0, .ref x0)]) (hP : Hp G u s H locs) : W p l e rm_X12_stepOn s m args below meth c H locs 0 0 (MQ below (Ev G Q) args s 0 0 (ag G)) (F0 m 0 ls []) := by
  have hx := C.1
  have hb := C.2.1
  unfold V_X12_stepOn_0_B at h
  refine lv_aload_n hx hb dX12_stepOn_0 rfl (lv_at hl 0 rfl) ?_
  refine lv_aload_n hx hb dX12_stepOn_1 rfl (lv_at hl 0 rfl) ?_
  obtain ⟨g1, h⟩ := h
  refine q_getI C hP (k := 13) (lay_X12 C.hA) rfl (by decide) g1 (fl_X12_160 C.hA) dX12_stepOn_2 ?_
  refine q_cali (q_runV C hP (c_X12_byteAt h) (cd_X12_byteAt C.hA) (ini_X12 C.hA) (ml_X12_163 C.hA) (im_X12_byteAt C.hA) (sl_X12_byteAt C.hA) g1 (by decide) rfl hd_X12_byteAt ⟨rfl, rfl⟩ ⟨Nat.le_of_ble_eq_true rfl, Nat.le_of_ble_eq_true rfl⟩ ⟨Nat.le_of_ble_eq_true rfl, Nat.le_of_ble_eq_true rfl⟩ hl.1 rfl (Nat.le_of_ble_eq_true rfl) dX12_stepOn_5) hP (fun v_5 u_5 H locs h hP => ?_)
  refine lv_bipush (v := (32 : Int32)) hx hb dX12_stepOn_8 (by decide) ?_
  refine lv_icmp_eq (tgt := 26) hx hb dX12_stepOn_10 (by decide) (fun c10 => ?_) (fun c10 => ?_)
  · have h := h.1 c10
    exact b_X12_stepOn_26 C hr hlk hk_0 h (lv_sub hl [0] rfl) hP
  · have h := h.2 c10
    refine lv_aload_n hx hb dX12_stepOn_13 rfl (lv_at hl 0 rfl) ?_
    refine lv_aload_n hx hb dX12_stepOn_14 rfl (lv_at hl 0 rfl) ?_
    refine q_getI C hP (k := 13) (lay_X12 C.hA) rfl (by decide) g1 (fl_X12_160 C.hA) dX12_stepOn_15 ?_
    refine q_cali (q_runV C hP (c_X12_byteAt h) (cd_X12_byteAt C.hA) (ini_X12 C.hA) (ml_X12_163 C.hA) (im_X12_byteAt C.hA) (sl_X12_byteAt C.hA) g1 (by decide) rfl hd_X12_byteAt ⟨rfl, rfl⟩ ⟨Nat.le_of_ble_eq_true rfl, Nat.le_of_ble_eq_true rfl⟩ ⟨Nat.le_of_ble_eq_true rfl, Nat.le_of_ble_eq_true rfl⟩ hl.1 rfl (Nat.le_of_ble_eq_true rfl) dX12_stepOn_18) hP (fun v_18 u_18 H locs h hP => ?_)
    refine lv_bipush (v := (10 : Int32)) hx hb dX12_stepOn_21 (by decide) ?_
    refine lv_icmp_ne (tgt := 39) hx hb dX12_stepOn_23 (by decide) (fun c23 => ?_) (fun c23 => ?_)
    · have h := h.2 c23
      refine lv_aload_n hx hb dX12_stepOn_39 rfl (lv_at hl 0 rfl) ?_
      refine lv_aload_n hx hb dX12_stepOn_40 rfl (lv_at hl 0 rfl) ?_
      refine q_getI C hP (k := 13) (lay_X12 C.hA) rfl (by decide) g1 (fl_X12_160 C.hA) dX12_stepOn_41 ?_
      refine q_putI C hP (k := 17) tyX12_ok nmX12 (lay_X12 C.hA) rfl (by decide) rfl rfl rfl rfl g1 (fl_X12_167 C.hA) dX12_stepOn_44 (fun H locs hP => ?_)
      obtain ⟨u_44, eu_44, hP⟩ := Hp.nm hP
      have h := h u_44 eu_44
      refine lv_aload_n hx hb dX12_stepOn_47 rfl (lv_at hl 0 rfl) ?_
      refine lv_aload_n hx hb dX12_stepOn_48 rfl (lv_at hl 0 rfl) ?_
      refine q_getI C hP (k := 13) (lay_X12 C.hA) rfl (by decide) g1 (fl_X12_160 C.hA) dX12_stepOn_49 ?_
      refine q_cali (q_runV C hP (c_X12_byteAt h) (cd_X12_byteAt C.hA) (ini_X12 C.hA) (ml_X12_163 C.hA) (im_X12_byteAt C.hA) (sl_X12_byteAt C.hA) g1 (by decide) rfl hd_X12_byteAt ⟨rfl, rfl⟩ ⟨Nat.le_of_ble_eq_true rfl, Nat.le_of_ble_eq_true rfl⟩ ⟨Nat.le_of_ble_eq_true rfl, Nat.le_of_ble_eq_true rfl⟩ hl.1 rfl (Nat.le_of_ble_eq_true rfl) dX12_stepOn_52) hP (fun v_52 u_52 H locs h hP => ?_)
      refine lv_istore_n (lv' := [(1, .int v_52), (0, .ref x0)]) hx hb dX12_stepOn_55 rfl hl (by decide) rfl (fun ls hl => ?_)
      refine lv_iload_n hx hb dX12_stepOn_56 rfl (lv_at hl 0 rfl) ?_
      refine lv_iconst (v := (-1 : Int32)) hx hb dX12_stepOn_57 (by decide) ?_
      refine lv_icmp_ne (tgt := 69) hx hb dX12_stepOn_58 (by decide) (fun c58 => ?_) (fun c58 => ?_)
      · have h := h.2 c58
        refine lv_iload_n hx hb dX12_stepOn_69 rfl (lv_at hl 0 rfl) ?_
        refine q_cali (q_runS C hP (c_X12_isLetter h) (cd_X12_isLetter C.hA) (ini_X12 C.hA) (ml_X12_173 C.hA) (st_X12_isLetter C.hA) hd_X12_isLetter ⟨rfl, rfl⟩ ⟨Nat.le_of_ble_eq_true rfl, Nat.le_of_ble_eq_true rfl⟩ ⟨Nat.le_of_ble_eq_true rfl, Nat.le_of_ble_eq_true rfl⟩ hl.1 rfl (Nat.le_of_ble_eq_true rfl) dX12_stepOn_70) hP (fun v_70 u_70 H locs h hP => ?_)
        refine lv_if_eq (tgt := 111) hx hb dX12_stepOn_73 (by decide) (fun c73 => ?_) (fun c73 => ?_)
        · have h := h.1 c73
          refine lv_iload_n hx hb dX12_stepOn_111 rfl (lv_at hl 0 rfl) ?_
          refine q_cali (q_runS C hP (c_X12_isDigit h) (cd_X12_isDigit C.hA) (ini_X12 C.hA) (ml_X12_177 C.hA) (st_X12_isDigit C.hA) hd_X12_isDigit ⟨rfl, rfl⟩ ⟨Nat.le_of_ble_eq_true rfl, Nat.le_of_ble_eq_true rfl⟩ ⟨Nat.le_of_ble_eq_true rfl, Nat.le_of_ble_eq_true rfl⟩ hl.1 rfl (Nat.le_of_ble_eq_true rfl) dX12_stepOn_112) hP (fun v_112 u_112 H locs h hP => ?_)
          refine lv_if_eq (tgt := 186) hx hb dX12_stepOn_115 (by decide) (fun c115 => ?_) (fun c115 => ?_)
          · have h := h.1 c115
            refine lv_aload_n hx hb dX12_stepOn_186 rfl (lv_at hl 1 rfl) ?_
            refine lv_dup hx hb dX12_stepOn_187 rfl ?_
            refine q_getI C hP (k := 13) (lay_X12 C.hA) rfl (by decide) g1 (fl_X12_160 C.hA) dX12_stepOn_188 ?_
            refine lv_iconst (v := (1 : Int32)) hx hb dX12_stepOn_191 (by decide) ?_
            refine lv_iadd hx hb dX12_stepOn_192 ?_
            refine q_putI C hP (k := 13) tyX12_ok nmX12 (lay_X12 C.hA) rfl (by decide) rfl rfl rfl rfl g1 (fl_X12_160 C.hA) dX12_stepOn_193 (fun H locs hP => ?_)
            obtain ⟨u_193, eu_193, hP⟩ := Hp.nm hP
            have h := h u_193 eu_193
            refine lv_aload_n hx hb dX12_stepOn_196 rfl (lv_at hl 1 rfl) ?_
            refine lv_iload_n hx hb dX12_stepOn_197 rfl (lv_at hl 0 rfl) ?_
            refine lv_bipush (v := (59 : Int32)) hx hb dX12_stepOn_198 (by decide) ?_
            refine lv_icmp_ne (tgt := 207) hx hb dX12_stepOn_200 (by decide) (fun c200 => ?_) (fun c200 => ?_)
            · have h := h.2 c200
              refine lv_iconst (v := (4 : Int32)) hx hb dX12_stepOn_207 (by decide) ?_
              exact b_X12_stepOn_208 C hr hlk h (lv_sub hl [1] rfl) hP
            · have h := h.1 c200
              refine lv_iconst (v := (3 : Int32)) hx hb dX12_stepOn_203 (by decide) ?_
              refine lv_goto (tgt := 208) hx hb dX12_stepOn_204 (by decide) ?_
              exact b_X12_stepOn_208 C hr hlk h (lv_sub hl [1] rfl) hP
          · have h := h.2 c115
            refine lv_aload_n hx hb dX12_stepOn_118 rfl (lv_at hl 1 rfl) ?_
            refine lv_iconst (v := (0 : Int32)) hx hb dX12_stepOn_119 (by decide) ?_
            refine q_putI C hP (k := 16) tyX12_ok nmX12 (lay_X12 C.hA) rfl (by decide) rfl rfl rfl rfl g1 (fl_X12_180 C.hA) dX12_stepOn_120 (fun H locs hP => ?_)
            obtain ⟨u_120, eu_120, hP⟩ := Hp.nm hP
            have h := h u_120 eu_120
            obtain ⟨n, h⟩ := h
            exact l_X12_stepOn_123 C hr hlk n x0 u_120 _ _ _ h (lv_sub hl [1] rfl) hP
        · have h := h.2 c73
          obtain ⟨n, h⟩ := h
          exact l_X12_stepOn_76 C hr hlk n x0 u_70 _ _ _ h (lv_sub hl [1] rfl) hP
      · have h := h.1 c58
        refine lv_aload_n hx hb dX12_stepOn_61 rfl (lv_at hl 1 rfl) ?_
        refine lv_iconst (v := (0 : Int32)) hx hb dX12_stepOn_62 (by decide) ?_
        refine q_putI C hP (k := 15) tyX12_ok nmX12 (lay_X12 C.hA) rfl (by decide) rfl rfl rfl rfl g1 (fl_X12_170 C.hA) dX12_stepOn_63 (fun H locs hP => ?_)
        obtain ⟨u_63, eu_63, hP⟩ := Hp.nm hP
        have h := h u_63 eu_63
        refine lv_goto (tgt := 211) hx hb dX12_stepOn_66 (by decide) ?_
        exact b_X12_stepOn_211 C hr hlk h (lv_sub hl [1] rfl) hP
    · have h := h.1 c23
      exact b_X12_stepOn_26 C hr hlk hk_0 h (lv_sub hl [0] rfl) hP
theorem l_X12_stepOn_0 {G : Gx} {Q : Mm → Prop} {p : Program} {l : Launch} {e : Env} {s : State} {m : MethodId} {args : Array Value} {below : List Frame} {meth : Method} {c : Code} (C : Cx G p s m c cX12_stepOn RX12 2) (hr : meth.sig.returnType = none) (hlk : meth.locks = false) : ∀ (n : Nat) (x0 : Nat) (u : Mm) (H : Heap) (locs : List Loc) (ls : Array Slot), V_X12_stepOn_0 G Q n x0 u → lv_has ls 2 [(0, .ref x0)] → Hp G u s H locs → W p l e rm_X12_stepOn s m args below meth c H locs 0 0 (MQ below (Ev G Q) args s 0 0 (ag G)) (F0 m 0 ls []) := by
  intro n
  induction n with
  | zero => intro x0 u H locs ls h; exact h.elim
  | succ n ih => intro x0 u H locs ls h hl hP; exact b_X12_stepOn_0 C hr hlk ih h hl hP
set_option maxHeartbeats 4000000 in
set_option maxRecDepth 100000 in
theorem c_X12_stepOn {l : Launch} {G : Gx} {p0 : Nat} {u : Mm} {Q : Mm → Prop} (h : V_X12_stepOn G p0 u Q) : Met l yX12_stepOn [.code yX12_stepOn cX12_stepOn 2 none] rm_X12_stepOn (va_Pc [.ref p0] (Wd G u)) (Ev G Q) 0 0 (ag G) := by
  refine q_met (by decide) (Nat.le_of_ble_eq_true rfl) ?_
  intro p e s m below meth c ls C hr hlk hnm hl hP
  have hl : lv_has ls 2 [(0, .ref p0)] := hl
  generalize ([.ref p0] : List Value).toArray = args
  have hx := C.1
  have hb := C.2.1
  unfold V_X12_stepOn at h
  obtain ⟨n, h⟩ := h
  exact l_X12_stepOn_0 C hr hlk n p0 u _ _ _ h (lv_sub hl [0] rfl) hP
-- X12_wrong
abbrev rm_X12_wrong : Room := { frames := 0, cells := 0, slots := 0, locals := 0 }
theorem hd_X12_wrong : yX12_wrong.cls ≠ "java/lang/invoke/MethodHandle" ∧ yX12_wrong.cls ≠ "java/lang/invoke/VarHandle" ∧ (parseMethodDescriptor yX12_wrong.desc).map (fun d => d.parameters.length) = some 1 := by decide +kernel
def V_X12_wrong (G : Gx) (p0 : Nat) (p1 : Int32) (u : Mm) (Q : Mm → Prop) : Prop :=
  kd G p0 = 12 ∧ (((gI u p0 19) = 0 → ∀ u_10 : Mm, u_10 = sI u p0 19 p1 → ∀ u_18 : Mm, u_18 = sI u_10 p0 20 (gI u_10 p0 17) → Q u_18) ∧ (¬ (gI u p0 19) = 0 → Q u))
set_option maxHeartbeats 4000000 in
set_option maxRecDepth 100000 in
theorem c_X12_wrong {l : Launch} {G : Gx} {p0 : Nat} {p1 : Int32} {u : Mm} {Q : Mm → Prop} (h : V_X12_wrong G p0 p1 u Q) : Met l yX12_wrong [.code yX12_wrong cX12_wrong 2 none] rm_X12_wrong (va_Pc [.ref p0, .int p1] (Wd G u)) (Ev G Q) 0 0 (ag G) := by
  refine q_met (by decide) (Nat.le_of_ble_eq_true rfl) ?_
  intro p e s m below meth c ls C hr hlk hnm hl hP
  have hl : lv_has ls 2 [(0, .ref p0), (1, .int p1)] := hl
  generalize ([.ref p0, .int p1] : List Value).toArray = args
  have hx := C.1
  have hb := C.2.1
  unfold V_X12_wrong at h
  refine lv_aload_n hx hb dX12_wrong_0 rfl (lv_at hl 0 rfl) ?_
  obtain ⟨g1, h⟩ := h
  refine q_getI C hP (k := 19) (lay_X12 C.hA) rfl (by decide) g1 (fl_X12_192 C.hA) dX12_wrong_1 ?_
  refine lv_if_eq (tgt := 8) hx hb dX12_wrong_4 (by decide) (fun c4 => ?_) (fun c4 => ?_)
  · have h := h.1 c4
    refine lv_aload_n hx hb dX12_wrong_8 rfl (lv_at hl 0 rfl) ?_
    refine lv_iload_n hx hb dX12_wrong_9 rfl (lv_at hl 1 rfl) ?_
    refine q_putI C hP (k := 19) tyX12_ok nmX12 (lay_X12 C.hA) rfl (by decide) rfl rfl rfl rfl g1 (fl_X12_192 C.hA) dX12_wrong_10 (fun H locs hP => ?_)
    obtain ⟨u_10, eu_10, hP⟩ := Hp.nm hP
    have h := h u_10 eu_10
    refine lv_aload_n hx hb dX12_wrong_13 rfl (lv_at hl 0 rfl) ?_
    refine lv_aload_n hx hb dX12_wrong_14 rfl (lv_at hl 0 rfl) ?_
    refine q_getI C hP (k := 17) (lay_X12 C.hA) rfl (by decide) g1 (fl_X12_167 C.hA) dX12_wrong_15 ?_
    refine q_putI C hP (k := 20) tyX12_ok nmX12 (lay_X12 C.hA) rfl (by decide) rfl rfl rfl rfl g1 (fl_X12_195 C.hA) dX12_wrong_18 (fun H locs hP => ?_)
    obtain ⟨u_18, eu_18, hP⟩ := Hp.nm hP
    have h := h u_18 eu_18
    exact q_vret C hr hlk hP h (by decide) (by decide) dX12_wrong_21
  · have h := h.2 c4
    exact q_vret C hr hlk hP h (by decide) (by decide) dX12_wrong_7
-- X12_is
abbrev rm_X12_is : Room := { frames := 4, cells := 0, slots := 0, locals := 85 }
theorem hd_X12_is : yX12_is.cls ≠ "java/lang/invoke/MethodHandle" ∧ yX12_is.cls ≠ "java/lang/invoke/VarHandle" ∧ (parseMethodDescriptor yX12_is.desc).map (fun d => d.parameters.length) = some 1 := by decide +kernel
def V_X12_is_75 (G : Gx) (Q : Int32 → Mm → Prop) (k_39 : Nat → Nat → Int32 → Int32 → Mm → Prop) (x0 : Nat) (x1 : Nat) (x3 : Int32) (t0 : Int32) (u : Mm) : Prop :=
  ∀ x3_76 : Int32, x3_76 = x3 + (1 : Int32) → k_39 x0 x1 t0 x3_76 u
def V_X12_is_39_B (G : Gx) (Q : Int32 → Mm → Prop) (k_39 : Nat → Nat → Int32 → Int32 → Mm → Prop) (x0 : Nat) (x1 : Nat) (x2 : Int32) (x3 : Int32) (u : Mm) : Prop :=
  ((x2 = 0 → (x2 = 0 ∨ x2 = 1) ∧ Q x2 u) ∧ (¬ x2 = 0 → V_J0_length G x1 u (fun (v_45 : Int32) (u_45 : Mm) => ((v_45 ≤ x3 → (x2 = 0 ∨ x2 = 1) ∧ Q x2 u_45) ∧ (¬ v_45 ≤ x3 → V_J0_charAt G x1 x3 u_45 (fun (v_53 : Int32) (u_53 : Mm) => kd G x0 = 12 ∧ (gR u_53 x0 11) ≠ 0 ∧ kd G (gR u_53 x0 11) = 13 ∧ vp_in ((gI u_53 x0 17) + x3) (ln G (gR u_53 x0 11)) ∧ ((v_53 = (gI u_53 (gR u_53 x0 11) ((gI u_53 x0 17) + x3).toNatClampNeg) → V_X12_is_75 G Q k_39 x0 x1 x3 (1 : Int32) u_53) ∧ (¬ v_53 = (gI u_53 (gR u_53 x0 11) ((gI u_53 x0 17) + x3).toNatClampNeg) → V_X12_is_75 G Q k_39 x0 x1 x3 (0 : Int32) u_53))))))))
def V_X12_is_39 (G : Gx) (Q : Int32 → Mm → Prop) : Nat → (Nat → Nat → Int32 → Int32 → Mm → Prop)
  | 0 => fun _ _ _ _ _ => False
  | n + 1 => fun x0 x1 x2 x3 u => V_X12_is_39_B G Q (V_X12_is_39 G Q n) x0 x1 x2 x3 u
def V_X12_is_36 (G : Gx) (Q : Int32 → Mm → Prop) (x0 : Nat) (x1 : Nat) (t0 : Int32) (u : Mm) : Prop :=
  ∃ n : Nat, V_X12_is_39 G Q n x0 x1 t0 (0 : Int32) u
def V_X12_is_35 (G : Gx) (Q : Int32 → Mm → Prop) (x0 : Nat) (x1 : Nat) (u : Mm) : Prop :=
  V_X12_is_36 G Q x0 x1 (0 : Int32) u
def V_X12_is (G : Gx) (p0 : Nat) (p1 : Nat) (u : Mm) (Q : Int32 → Mm → Prop) : Prop :=
  kd G p0 = 12 ∧ (((gI u p0 19) = 0 → (((gI u p0 15) = (1 : Int32) → V_J0_length G p1 u (fun (v_16 : Int32) (u_16 : Mm) => ((v_16 = ((gI u_16 p0 18) - (gI u_16 p0 17)) → V_X12_is_36 G Q p0 p1 (1 : Int32) u_16) ∧ (¬ v_16 = ((gI u_16 p0 18) - (gI u_16 p0 17)) → V_X12_is_35 G Q p0 p1 u_16)))) ∧ (¬ (gI u p0 15) = (1 : Int32) → V_X12_is_35 G Q p0 p1 u))) ∧ (¬ (gI u p0 19) = 0 → V_X12_is_35 G Q p0 p1 u))
set_option maxHeartbeats 4000000 in
set_option maxRecDepth 100000 in
theorem b_X12_is_75 {G : Gx} {Q : Int32 → Mm → Prop} {p : Program} {l : Launch} {e : Env} {s : State} {m : MethodId} {args : Array Value} {below : List Frame} {meth : Method} {c : Code} (C : Cx G p s m c cX12_is RX12 4) (hr : meth.sig.returnType = (some .boolean)) (hlk : meth.locks = false) {k_39 : Nat → Nat → Int32 → Int32 → Mm → Prop} (hk_39 : ∀ (x0 : Nat) (x1 : Nat) (x2 : Int32) (x3 : Int32) (u : Mm) (H : Heap) (locs : List Loc) (ls : Array Slot), k_39 x0 x1 x2 x3 u → lv_has ls 4 [(0, .ref x0), (1, .ref x1), (2, .int x2), (3, .int x3)] → Hp G u s H locs → W p l e rm_X12_is s m args below meth c H locs 0 0 (MQ below (Ei G Q) args s 0 0 (ag G)) (F0 m 39 ls [])) {x0 : Nat} {x1 : Nat} {x3 : Int32} {t0 : Int32} {u : Mm} {H : Heap} {locs : List Loc} {ls : Array Slot} (h : V_X12_is_75 G Q k_39 x0 x1 x3 t0 u) (hl : lv_has ls 4 [(0, .ref x0), (1, .ref x1), (3, .int x3)]) (hP : Hp G u s H locs) : W p l e rm_X12_is s m args below meth c H locs 0 0 (MQ below (Ei G Q) args s 0 0 (ag G)) (F0 m 75 ls [.int t0]) := by
  have hx := C.1
  have hb := C.2.1
  unfold V_X12_is_75 at h
  refine lv_istore_n (lv' := [(2, .int t0), (0, .ref x0), (1, .ref x1), (3, .int x3)]) hx hb dX12_is_75 rfl hl (by decide) rfl (fun ls hl => ?_)
  obtain ⟨x3_76, ex3_76⟩ : ∃ y : Int32, y = x3 + (1 : Int32) := ⟨_, rfl⟩
  have h := h x3_76 ex3_76
  refine lv_iinc (v := x3_76) (lv' := [(3, .int x3_76), (2, .int t0), (0, .ref x0), (1, .ref x1)]) hx hb dX12_is_76 hl (k := 3) rfl (by rw [ex3_76]; rfl) (by decide) rfl (fun ls hl => ?_)
  refine lv_goto (tgt := 39) hx hb dX12_is_79 (by decide) ?_
  exact hk_39 x0 x1 t0 x3_76 u _ _ _ h (lv_sub hl [2, 3, 1, 0] rfl) hP
set_option maxHeartbeats 4000000 in
set_option maxRecDepth 100000 in
theorem b_X12_is_39 {G : Gx} {Q : Int32 → Mm → Prop} {p : Program} {l : Launch} {e : Env} {s : State} {m : MethodId} {args : Array Value} {below : List Frame} {meth : Method} {c : Code} (C : Cx G p s m c cX12_is RX12 4) (hr : meth.sig.returnType = (some .boolean)) (hlk : meth.locks = false) {k_39 : Nat → Nat → Int32 → Int32 → Mm → Prop} (hk_39 : ∀ (x0 : Nat) (x1 : Nat) (x2 : Int32) (x3 : Int32) (u : Mm) (H : Heap) (locs : List Loc) (ls : Array Slot), k_39 x0 x1 x2 x3 u → lv_has ls 4 [(0, .ref x0), (1, .ref x1), (2, .int x2), (3, .int x3)] → Hp G u s H locs → W p l e rm_X12_is s m args below meth c H locs 0 0 (MQ below (Ei G Q) args s 0 0 (ag G)) (F0 m 39 ls [])) {x0 : Nat} {x1 : Nat} {x2 : Int32} {x3 : Int32} {u : Mm} {H : Heap} {locs : List Loc} {ls : Array Slot} (h : V_X12_is_39_B G Q k_39 x0 x1 x2 x3 u) (hl : lv_has ls 4 [(0, .ref x0), (1, .ref x1), (2, .int x2), (3, .int x3)]) (hP : Hp G u s H locs) : W p l e rm_X12_is s m args below meth c H locs 0 0 (MQ below (Ei G Q) args s 0 0 (ag G)) (F0 m 39 ls []) := by
  have hx := C.1
  have hb := C.2.1
  unfold V_X12_is_39_B at h
  refine lv_iload_n hx hb dX12_is_39 rfl (lv_at hl 2 rfl) ?_
  refine lv_if_eq (tgt := 82) hx hb dX12_is_40 (by decide) (fun c40 => ?_) (fun c40 => ?_)
  · have h := h.1 c40
    refine lv_iload_n hx hb dX12_is_82 rfl (lv_at hl 2 rfl) ?_
    obtain ⟨g1, h⟩ := h
    exact q_zret C hr hlk hP g1 h (by decide) (by decide) dX12_is_83
  · have h := h.2 c40
    refine lv_iload_n hx hb dX12_is_43 rfl (lv_at hl 3 rfl) ?_
    refine lv_aload_n hx hb dX12_is_44 rfl (lv_at hl 1 rfl) ?_
    obtain ⟨i45, hi45, ei45, hM45⟩ := cs_J0_length (l := l) h
    refine W.eq (g2 := F0 m 45 ls [.ref (gS G i45), .int x3]) (by rw [← ei45]) ?_
    refine q_cali (q_runVs C hP hi45 hM45 (cd_J0_length_8abf5 C.hA) (ini_J0 C.hA) (ml_X12_198 C.hA) (im_J0_length_8abf5 C.hA) (sl_J0_length_8abf5 C.hA) hd_J0_length ⟨rfl, rfl⟩ ⟨Nat.le_of_ble_eq_true rfl, Nat.le_of_ble_eq_true rfl⟩ ⟨Nat.le_of_ble_eq_true rfl, Nat.le_of_ble_eq_true rfl⟩ hl.1 rfl (Nat.le_of_ble_eq_true rfl) dX12_is_45) hP (fun v_45 u_45 H locs h hP => ?_)
    refine lv_icmp_ge (tgt := 82) hx hb dX12_is_48 (by decide) (fun c48 => ?_) (fun c48 => ?_)
    · have h := h.1 c48
      refine lv_iload_n hx hb dX12_is_82 rfl (lv_at hl 2 rfl) ?_
      obtain ⟨g2, h⟩ := h
      exact q_zret C hr hlk hP g2 h (by decide) (by decide) dX12_is_83
    · have h := h.2 c48
      refine lv_aload_n hx hb dX12_is_51 rfl (lv_at hl 1 rfl) ?_
      refine lv_iload_n hx hb dX12_is_52 rfl (lv_at hl 3 rfl) ?_
      obtain ⟨i53, hi53, ei53, hM53⟩ := cs_J0_charAt (l := l) h
      refine W.eq (g2 := F0 m 53 ls [.int x3, .ref (gS G i53)]) (by rw [← ei53]) ?_
      refine q_cali (q_runVs C hP hi53 hM53 (cd_J0_charAt_5068e C.hA) (ini_J0 C.hA) (ml_X12_202 C.hA) (im_J0_charAt_5068e C.hA) (sl_J0_charAt_5068e C.hA) hd_J0_charAt ⟨rfl, rfl⟩ ⟨Nat.le_of_ble_eq_true rfl, Nat.le_of_ble_eq_true rfl⟩ ⟨Nat.le_of_ble_eq_true rfl, Nat.le_of_ble_eq_true rfl⟩ hl.1 rfl (Nat.le_of_ble_eq_true rfl) dX12_is_53) hP (fun v_53 u_53 H locs h hP => ?_)
      refine lv_aload_n hx hb dX12_is_56 rfl (lv_at hl 0 rfl) ?_
      obtain ⟨g3, h⟩ := h
      obtain ⟨g4, h⟩ := h
      refine q_getR C hP (k := 11) (lay_X12 C.hA) rfl (by decide) g3 g4 (fl_X12_51 C.hA) dX12_is_57 ?_
      refine lv_aload_n hx hb dX12_is_60 rfl (lv_at hl 0 rfl) ?_
      refine q_getI C hP (k := 17) (lay_X12 C.hA) rfl (by decide) g3 (fl_X12_167 C.hA) dX12_is_61 ?_
      refine lv_iload_n hx hb dX12_is_64 rfl (lv_at hl 3 rfl) ?_
      refine lv_iadd hx hb dX12_is_65 ?_
      obtain ⟨g5, h⟩ := h
      obtain ⟨g6, h⟩ := h
      refine q_iald C hP g5 g6 dX12_is_66 ?_
      refine lv_icmp_ne (tgt := 74) hx hb dX12_is_67 (by decide) (fun c67 => ?_) (fun c67 => ?_)
      · have h := h.2 c67
        refine lv_iconst (v := (0 : Int32)) hx hb dX12_is_74 (by decide) ?_
        exact b_X12_is_75 C hr hlk hk_39 h (lv_sub hl [0, 1, 3] rfl) hP
      · have h := h.1 c67
        refine lv_iconst (v := (1 : Int32)) hx hb dX12_is_70 (by decide) ?_
        refine lv_goto (tgt := 75) hx hb dX12_is_71 (by decide) ?_
        exact b_X12_is_75 C hr hlk hk_39 h (lv_sub hl [0, 1, 3] rfl) hP
theorem l_X12_is_39 {G : Gx} {Q : Int32 → Mm → Prop} {p : Program} {l : Launch} {e : Env} {s : State} {m : MethodId} {args : Array Value} {below : List Frame} {meth : Method} {c : Code} (C : Cx G p s m c cX12_is RX12 4) (hr : meth.sig.returnType = (some .boolean)) (hlk : meth.locks = false) : ∀ (n : Nat) (x0 : Nat) (x1 : Nat) (x2 : Int32) (x3 : Int32) (u : Mm) (H : Heap) (locs : List Loc) (ls : Array Slot), V_X12_is_39 G Q n x0 x1 x2 x3 u → lv_has ls 4 [(0, .ref x0), (1, .ref x1), (2, .int x2), (3, .int x3)] → Hp G u s H locs → W p l e rm_X12_is s m args below meth c H locs 0 0 (MQ below (Ei G Q) args s 0 0 (ag G)) (F0 m 39 ls []) := by
  intro n
  induction n with
  | zero => intro x0 x1 x2 x3 u H locs ls h; exact h.elim
  | succ n ih => intro x0 x1 x2 x3 u H locs ls h hl hP; exact b_X12_is_39 C hr hlk ih h hl hP
set_option maxHeartbeats 4000000 in
set_option maxRecDepth 100000 in
theorem b_X12_is_36 {G : Gx} {Q : Int32 → Mm → Prop} {p : Program} {l : Launch} {e : Env} {s : State} {m : MethodId} {args : Array Value} {below : List Frame} {meth : Method} {c : Code} (C : Cx G p s m c cX12_is RX12 4) (hr : meth.sig.returnType = (some .boolean)) (hlk : meth.locks = false) {x0 : Nat} {x1 : Nat} {t0 : Int32} {u : Mm} {H : Heap} {locs : List Loc} {ls : Array Slot} (h : V_X12_is_36 G Q x0 x1 t0 u) (hl : lv_has ls 4 [(0, .ref x0), (1, .ref x1)]) (hP : Hp G u s H locs) : W p l e rm_X12_is s m args below meth c H locs 0 0 (MQ below (Ei G Q) args s 0 0 (ag G)) (F0 m 36 ls [.int t0]) := by
  have hx := C.1
  have hb := C.2.1
  unfold V_X12_is_36 at h
  refine lv_istore_n (lv' := [(2, .int t0), (0, .ref x0), (1, .ref x1)]) hx hb dX12_is_36 rfl hl (by decide) rfl (fun ls hl => ?_)
  refine lv_iconst (v := (0 : Int32)) hx hb dX12_is_37 (by decide) ?_
  refine lv_istore_n (lv' := [(3, .int (0 : Int32)), (2, .int t0), (0, .ref x0), (1, .ref x1)]) hx hb dX12_is_38 rfl hl (by decide) rfl (fun ls hl => ?_)
  obtain ⟨n, h⟩ := h
  exact l_X12_is_39 C hr hlk n x0 x1 t0 (0 : Int32) u _ _ _ h (lv_sub hl [2, 3, 1, 0] rfl) hP
set_option maxHeartbeats 4000000 in
set_option maxRecDepth 100000 in
theorem b_X12_is_35 {G : Gx} {Q : Int32 → Mm → Prop} {p : Program} {l : Launch} {e : Env} {s : State} {m : MethodId} {args : Array Value} {below : List Frame} {meth : Method} {c : Code} (C : Cx G p s m c cX12_is RX12 4) (hr : meth.sig.returnType = (some .boolean)) (hlk : meth.locks = false) {x0 : Nat} {x1 : Nat} {u : Mm} {H : Heap} {locs : List Loc} {ls : Array Slot} (h : V_X12_is_35 G Q x0 x1 u) (hl : lv_has ls 4 [(0, .ref x0), (1, .ref x1)]) (hP : Hp G u s H locs) : W p l e rm_X12_is s m args below meth c H locs 0 0 (MQ below (Ei G Q) args s 0 0 (ag G)) (F0 m 35 ls []) := by
  have hx := C.1
  have hb := C.2.1
  unfold V_X12_is_35 at h
  refine lv_iconst (v := (0 : Int32)) hx hb dX12_is_35 (by decide) ?_
  exact b_X12_is_36 C hr hlk h (lv_sub hl [0, 1] rfl) hP
set_option maxHeartbeats 4000000 in
set_option maxRecDepth 100000 in
theorem c_X12_is {l : Launch} {G : Gx} {p0 : Nat} {p1 : Nat} {u : Mm} {Q : Int32 → Mm → Prop} (h : V_X12_is G p0 p1 u Q) : Met l yX12_is [.code yX12_is cX12_is 4 (some .boolean)] rm_X12_is (va_Pc [.ref p0, .ref p1] (Wd G u)) (Ei G Q) 0 0 (ag G) := by
  refine q_met (by decide) (Nat.le_of_ble_eq_true rfl) ?_
  intro p e s m below meth c ls C hr hlk hnm hl hP
  have hl : lv_has ls 4 [(0, .ref p0), (1, .ref p1)] := hl
  generalize ([.ref p0, .ref p1] : List Value).toArray = args
  have hx := C.1
  have hb := C.2.1
  unfold V_X12_is at h
  refine lv_aload_n hx hb dX12_is_0 rfl (lv_at hl 0 rfl) ?_
  obtain ⟨g1, h⟩ := h
  refine q_getI C hP (k := 19) (lay_X12 C.hA) rfl (by decide) g1 (fl_X12_192 C.hA) dX12_is_1 ?_
  refine lv_if_ne (tgt := 35) hx hb dX12_is_4 (by decide) (fun c4 => ?_) (fun c4 => ?_)
  · have h := h.2 c4
    exact b_X12_is_35 C hr hlk h (lv_sub hl [0, 1] rfl) hP
  · have h := h.1 c4
    refine lv_aload_n hx hb dX12_is_7 rfl (lv_at hl 0 rfl) ?_
    refine q_getI C hP (k := 15) (lay_X12 C.hA) rfl (by decide) g1 (fl_X12_170 C.hA) dX12_is_8 ?_
    refine lv_iconst (v := (1 : Int32)) hx hb dX12_is_11 (by decide) ?_
    refine lv_icmp_ne (tgt := 35) hx hb dX12_is_12 (by decide) (fun c12 => ?_) (fun c12 => ?_)
    · have h := h.2 c12
      exact b_X12_is_35 C hr hlk h (lv_sub hl [0, 1] rfl) hP
    · have h := h.1 c12
      refine lv_aload_n hx hb dX12_is_15 rfl (lv_at hl 1 rfl) ?_
      obtain ⟨i16, hi16, ei16, hM16⟩ := cs_J0_length (l := l) h
      refine W.eq (g2 := F0 m 16 ls [.ref (gS G i16)]) (by rw [← ei16]) ?_
      refine q_cali (q_runVs C hP hi16 hM16 (cd_J0_length_8abf5 C.hA) (ini_J0 C.hA) (ml_X12_198 C.hA) (im_J0_length_8abf5 C.hA) (sl_J0_length_8abf5 C.hA) hd_J0_length ⟨rfl, rfl⟩ ⟨Nat.le_of_ble_eq_true rfl, Nat.le_of_ble_eq_true rfl⟩ ⟨Nat.le_of_ble_eq_true rfl, Nat.le_of_ble_eq_true rfl⟩ hl.1 rfl (Nat.le_of_ble_eq_true rfl) dX12_is_16) hP (fun v_16 u_16 H locs h hP => ?_)
      refine lv_aload_n hx hb dX12_is_19 rfl (lv_at hl 0 rfl) ?_
      refine q_getI C hP (k := 18) (lay_X12 C.hA) rfl (by decide) g1 (fl_X12_189 C.hA) dX12_is_20 ?_
      refine lv_aload_n hx hb dX12_is_23 rfl (lv_at hl 0 rfl) ?_
      refine q_getI C hP (k := 17) (lay_X12 C.hA) rfl (by decide) g1 (fl_X12_167 C.hA) dX12_is_24 ?_
      refine lv_isub hx hb dX12_is_27 ?_
      refine lv_icmp_ne (tgt := 35) hx hb dX12_is_28 (by decide) (fun c28 => ?_) (fun c28 => ?_)
      · have h := h.2 c28
        exact b_X12_is_35 C hr hlk h (lv_sub hl [0, 1] rfl) hP
      · have h := h.1 c28
        refine lv_iconst (v := (1 : Int32)) hx hb dX12_is_31 (by decide) ?_
        refine lv_goto (tgt := 36) hx hb dX12_is_32 (by decide) ?_
        exact b_X12_is_36 C hr hlk h (lv_sub hl [0, 1] rfl) hP
-- X12_which
abbrev rm_X12_which : Room := { frames := 5, cells := 0, slots := 0, locals := 108 }
theorem hd_X12_which : yX12_which.cls ≠ "java/lang/invoke/MethodHandle" ∧ yX12_which.cls ≠ "java/lang/invoke/VarHandle" ∧ (parseMethodDescriptor yX12_which.desc).map (fun d => d.parameters.length) = some 0 := by decide +kernel
def V_X12_which_2_B (G : Gx) (Q : Int32 → Mm → Prop) (k_2 : Nat → Int32 → Mm → Prop) (x0 : Nat) (x1 : Int32) (u : Mm) : Prop :=
  kd G x0 = 12 ∧ (gR u x0 0) ≠ 0 ∧ kd G (gR u x0 0) = 23 ∧ (((nI (ln G (gR u x0 0))) ≤ x1 → Q (-1 : Int32) u) ∧ (¬ (nI (ln G (gR u x0 0))) ≤ x1 → vp_in x1 (ln G (gR u x0 0)) ∧ (gR u (gR u x0 0) x1.toNatClampNeg) ≠ 0 ∧ V_X12_is G x0 (gS G ((gR u (gR u x0 0) x1.toNatClampNeg) - 1)) u (fun (v_18 : Int32) (u_18 : Mm) => ((v_18 = 0 → ∀ x1_26 : Int32, x1_26 = x1 + (1 : Int32) → k_2 x0 x1_26 u_18) ∧ (¬ v_18 = 0 → Q x1 u_18)))))
def V_X12_which_2 (G : Gx) (Q : Int32 → Mm → Prop) : Nat → (Nat → Int32 → Mm → Prop)
  | 0 => fun _ _ _ => False
  | n + 1 => fun x0 x1 u => V_X12_which_2_B G Q (V_X12_which_2 G Q n) x0 x1 u
def V_X12_which (G : Gx) (p0 : Nat) (u : Mm) (Q : Int32 → Mm → Prop) : Prop :=
  ∃ n : Nat, V_X12_which_2 G Q n p0 (0 : Int32) u
set_option maxHeartbeats 4000000 in
set_option maxRecDepth 100000 in
theorem b_X12_which_2 {G : Gx} {Q : Int32 → Mm → Prop} {p : Program} {l : Launch} {e : Env} {s : State} {m : MethodId} {args : Array Value} {below : List Frame} {meth : Method} {c : Code} (C : Cx G p s m c cX12_which RX12 2) (hr : meth.sig.returnType = (some .int)) (hlk : meth.locks = false) {k_2 : Nat → Int32 → Mm → Prop} (hk_2 : ∀ (x0 : Nat) (x1 : Int32) (u : Mm) (H : Heap) (locs : List Loc) (ls : Array Slot), k_2 x0 x1 u → lv_has ls 2 [(0, .ref x0), (1, .int x1)] → Hp G u s H locs → W p l e rm_X12_which s m args below meth c H locs 0 0 (MQ below (Ei G Q) args s 0 0 (ag G)) (F0 m 2 ls [])) {x0 : Nat} {x1 : Int32} {u : Mm} {H : Heap} {locs : List Loc} {ls : Array Slot} (h : V_X12_which_2_B G Q k_2 x0 x1 u) (hl : lv_has ls 2 [(0, .ref x0), (1, .int x1)]) (hP : Hp G u s H locs) : W p l e rm_X12_which s m args below meth c H locs 0 0 (MQ below (Ei G Q) args s 0 0 (ag G)) (F0 m 2 ls []) := by
  have hx := C.1
  have hb := C.2.1
  unfold V_X12_which_2_B at h
  refine lv_iload_n hx hb dX12_which_2 rfl (lv_at hl 1 rfl) ?_
  refine lv_aload_n hx hb dX12_which_3 rfl (lv_at hl 0 rfl) ?_
  obtain ⟨g1, h⟩ := h
  obtain ⟨g2, h⟩ := h
  refine q_getR C hP (k := 0) (lay_X12 C.hA) rfl (by decide) g1 g2 (fl_X12_21 C.hA) dX12_which_4 ?_
  obtain ⟨g3, h⟩ := h
  refine q_alen C hP g3 (by decide) dX12_which_7 ?_
  refine lv_icmp_ge (tgt := 32) hx hb dX12_which_8 (by decide) (fun c8 => ?_) (fun c8 => ?_)
  · have h := h.1 c8
    refine lv_iconst (v := (-1 : Int32)) hx hb dX12_which_32 (by decide) ?_
    exact q_iret C hr hlk hP h (by decide) (by decide) dX12_which_33
  · have h := h.2 c8
    refine lv_aload_n hx hb dX12_which_11 rfl (lv_at hl 0 rfl) ?_
    refine lv_aload_n hx hb dX12_which_12 rfl (lv_at hl 0 rfl) ?_
    refine q_getR C hP (k := 0) (lay_X12 C.hA) rfl (by decide) g1 g2 (fl_X12_21 C.hA) dX12_which_13 ?_
    refine lv_iload_n hx hb dX12_which_16 rfl (lv_at hl 1 rfl) ?_
    obtain ⟨g4, h⟩ := h
    obtain ⟨g5, h⟩ := h
    refine q_aaldS C hP g3 g4 g5 dX12_which_17 ?_
    refine q_cali (q_runV C hP (c_X12_is h) (cd_X12_is C.hA) (ini_X12 C.hA) (ml_X12_206 C.hA) (im_X12_is C.hA) (sl_X12_is C.hA) g1 (by decide) rfl hd_X12_is ⟨rfl, rfl⟩ ⟨Nat.le_of_ble_eq_true rfl, Nat.le_of_ble_eq_true rfl⟩ ⟨Nat.le_of_ble_eq_true rfl, Nat.le_of_ble_eq_true rfl⟩ hl.1 rfl (Nat.le_of_ble_eq_true rfl) dX12_which_18) hP (fun v_18 u_18 H locs h hP => ?_)
    refine lv_if_eq (tgt := 26) hx hb dX12_which_21 (by decide) (fun c21 => ?_) (fun c21 => ?_)
    · have h := h.1 c21
      obtain ⟨x1_26, ex1_26⟩ : ∃ y : Int32, y = x1 + (1 : Int32) := ⟨_, rfl⟩
      have h := h x1_26 ex1_26
      refine lv_iinc (v := x1_26) (lv' := [(1, .int x1_26), (0, .ref x0)]) hx hb dX12_which_26 hl (k := 1) rfl (by rw [ex1_26]; rfl) (by decide) rfl (fun ls hl => ?_)
      refine lv_goto (tgt := 2) hx hb dX12_which_29 (by decide) ?_
      exact hk_2 x0 x1_26 u_18 _ _ _ h (lv_sub hl [1, 0] rfl) hP
    · have h := h.2 c21
      refine lv_iload_n hx hb dX12_which_24 rfl (lv_at hl 1 rfl) ?_
      exact q_iret C hr hlk hP h (by decide) (by decide) dX12_which_25
theorem l_X12_which_2 {G : Gx} {Q : Int32 → Mm → Prop} {p : Program} {l : Launch} {e : Env} {s : State} {m : MethodId} {args : Array Value} {below : List Frame} {meth : Method} {c : Code} (C : Cx G p s m c cX12_which RX12 2) (hr : meth.sig.returnType = (some .int)) (hlk : meth.locks = false) : ∀ (n : Nat) (x0 : Nat) (x1 : Int32) (u : Mm) (H : Heap) (locs : List Loc) (ls : Array Slot), V_X12_which_2 G Q n x0 x1 u → lv_has ls 2 [(0, .ref x0), (1, .int x1)] → Hp G u s H locs → W p l e rm_X12_which s m args below meth c H locs 0 0 (MQ below (Ei G Q) args s 0 0 (ag G)) (F0 m 2 ls []) := by
  intro n
  induction n with
  | zero => intro x0 x1 u H locs ls h; exact h.elim
  | succ n ih => intro x0 x1 u H locs ls h hl hP; exact b_X12_which_2 C hr hlk ih h hl hP
set_option maxHeartbeats 4000000 in
set_option maxRecDepth 100000 in
theorem c_X12_which {l : Launch} {G : Gx} {p0 : Nat} {u : Mm} {Q : Int32 → Mm → Prop} (h : V_X12_which G p0 u Q) : Met l yX12_which [.code yX12_which cX12_which 2 (some .int)] rm_X12_which (va_Pc [.ref p0] (Wd G u)) (Ei G Q) 0 0 (ag G) := by
  refine q_met (by decide) (Nat.le_of_ble_eq_true rfl) ?_
  intro p e s m below meth c ls C hr hlk hnm hl hP
  have hl : lv_has ls 2 [(0, .ref p0)] := hl
  generalize ([.ref p0] : List Value).toArray = args
  have hx := C.1
  have hb := C.2.1
  unfold V_X12_which at h
  refine lv_iconst (v := (0 : Int32)) hx hb dX12_which_0 (by decide) ?_
  refine lv_istore_n (lv' := [(1, .int (0 : Int32)), (0, .ref p0)]) hx hb dX12_which_1 rfl hl (by decide) rfl (fun ls hl => ?_)
  obtain ⟨n, h⟩ := h
  exact l_X12_which_2 C hr hlk n p0 (0 : Int32) u _ _ _ h (lv_sub hl [1, 0] rfl) hP
-- X12_passes
abbrev rm_X12_passes : Room := { frames := 5, cells := 0, slots := 0, locals := 108 }
theorem hd_X12_passes : yX12_passes.cls ≠ "java/lang/invoke/MethodHandle" ∧ yX12_passes.cls ≠ "java/lang/invoke/VarHandle" ∧ (parseMethodDescriptor yX12_passes.desc).map (fun d => d.parameters.length) = some 1 := by decide +kernel
def V_X12_passes (G : Gx) (p0 : Nat) (p1 : Nat) (u : Mm) (Q : Int32 → Mm → Prop) : Prop :=
  kd G p0 = 12 ∧ V_X12_is G p0 p1 u (fun (v_2 : Int32) (u_2 : Mm) => ((v_2 = 0 → (v_2 = 0 ∨ v_2 = 1) ∧ Q v_2 u_2) ∧ (¬ v_2 = 0 → V_X12_stepOn G p0 u_2 (fun (u_11 : Mm) => (v_2 = 0 ∨ v_2 = 1) ∧ Q v_2 u_11))))
set_option maxHeartbeats 4000000 in
set_option maxRecDepth 100000 in
theorem c_X12_passes {l : Launch} {G : Gx} {p0 : Nat} {p1 : Nat} {u : Mm} {Q : Int32 → Mm → Prop} (h : V_X12_passes G p0 p1 u Q) : Met l yX12_passes [.code yX12_passes cX12_passes 3 (some .boolean)] rm_X12_passes (va_Pc [.ref p0, .ref p1] (Wd G u)) (Ei G Q) 0 0 (ag G) := by
  refine q_met (by decide) (Nat.le_of_ble_eq_true rfl) ?_
  intro p e s m below meth c ls C hr hlk hnm hl hP
  have hl : lv_has ls 3 [(0, .ref p0), (1, .ref p1)] := hl
  generalize ([.ref p0, .ref p1] : List Value).toArray = args
  have hx := C.1
  have hb := C.2.1
  unfold V_X12_passes at h
  refine lv_aload_n hx hb dX12_passes_0 rfl (lv_at hl 0 rfl) ?_
  refine lv_aload_n hx hb dX12_passes_1 rfl (lv_at hl 1 rfl) ?_
  obtain ⟨g1, h⟩ := h
  refine q_cali (q_runV C hP (c_X12_is h) (cd_X12_is C.hA) (ini_X12 C.hA) (ml_X12_206 C.hA) (im_X12_is C.hA) (sl_X12_is C.hA) g1 (by decide) rfl hd_X12_is ⟨rfl, rfl⟩ ⟨Nat.le_of_ble_eq_true rfl, Nat.le_of_ble_eq_true rfl⟩ ⟨Nat.le_of_ble_eq_true rfl, Nat.le_of_ble_eq_true rfl⟩ hl.1 rfl (Nat.le_of_ble_eq_true rfl) dX12_passes_2) hP (fun v_2 u_2 H locs h hP => ?_)
  refine lv_istore_n (lv' := [(2, .int v_2), (0, .ref p0), (1, .ref p1)]) hx hb dX12_passes_5 rfl hl (by decide) rfl (fun ls hl => ?_)
  refine lv_iload_n hx hb dX12_passes_6 rfl (lv_at hl 0 rfl) ?_
  refine lv_if_eq (tgt := 14) hx hb dX12_passes_7 (by decide) (fun c7 => ?_) (fun c7 => ?_)
  · have h := h.1 c7
    refine lv_iload_n hx hb dX12_passes_14 rfl (lv_at hl 0 rfl) ?_
    obtain ⟨g2, h⟩ := h
    exact q_zret C hr hlk hP g2 h (by decide) (by decide) dX12_passes_15
  · have h := h.2 c7
    refine lv_aload_n hx hb dX12_passes_10 rfl (lv_at hl 1 rfl) ?_
    refine q_calv (q_runV C hP (c_X12_stepOn h) (cd_X12_stepOn C.hA) (ini_X12 C.hA) (ml_X12_210 C.hA) (im_X12_stepOn C.hA) (sl_X12_stepOn C.hA) g1 (by decide) rfl hd_X12_stepOn ⟨rfl, rfl⟩ ⟨Nat.le_of_ble_eq_true rfl, Nat.le_of_ble_eq_true rfl⟩ ⟨Nat.le_of_ble_eq_true rfl, Nat.le_of_ble_eq_true rfl⟩ hl.1 rfl (Nat.le_of_ble_eq_true rfl) dX12_passes_11) hP (fun u_11 H locs h hP => ?_)
    refine lv_iload_n hx hb dX12_passes_14 rfl (lv_at hl 0 rfl) ?_
    obtain ⟨g3, h⟩ := h
    exact q_zret C hr hlk hP g3 h (by decide) (by decide) dX12_passes_15
-- X12_readNumber
abbrev rm_X12_readNumber : Room := { frames := 2, cells := 0, slots := 0, locals := 42 }
theorem hd_X12_readNumber : yX12_readNumber.cls ≠ "java/lang/invoke/MethodHandle" ∧ yX12_readNumber.cls ≠ "java/lang/invoke/VarHandle" ∧ (parseMethodDescriptor yX12_readNumber.desc).map (fun d => d.parameters.length) = some 3 := by decide +kernel
def V_X12_readNumber_75 (G : Gx) (Q : Int32 → Mm → Prop) (x0 : Nat) (u : Mm) : Prop :=
  kd G x0 = 12 ∧ ∀ x4_79 : Int32, x4_79 = (gI u x0 16) → (((gI u x0 19) = 0 → V_X12_stepOn G x0 u (fun (u_89 : Mm) => Q x4_79 u_89)) ∧ (¬ (gI u x0 19) = 0 → Q x4_79 u))
def V_X12_readNumber_54 (G : Gx) (Q : Int32 → Mm → Prop) (x0 : Nat) (u : Mm) : Prop :=
  kd G x0 = 12 ∧ V_X12_wrong G x0 (2 : Int32) u (fun (u_56 : Mm) => V_X12_readNumber_75 G Q x0 u_56)
def V_X12_readNumber (G : Gx) (p0 : Nat) (p1 : Int32) (p2 : Int32) (p3 : Int32) (u : Mm) (Q : Int32 → Mm → Prop) : Prop :=
  kd G p0 = 12 ∧ (((gI u p0 19) = 0 → (((gI u p0 15) = (2 : Int32) → (((4 : Int32) < ((gI u p0 18) - (gI u p0 17)) → V_X12_readNumber_54 G Q p0 u) ∧ (¬ (4 : Int32) < ((gI u p0 18) - (gI u p0 17)) → (((gI u p0 16) < p1 → V_X12_readNumber_54 G Q p0 u) ∧ (¬ (gI u p0 16) < p1 → (((gI u p0 16) ≤ p2 → ((p3 ≤ (gI u p0 16) → V_X12_readNumber_75 G Q p0 u) ∧ (¬ p3 ≤ (gI u p0 16) → V_X12_wrong G p0 (3 : Int32) u (fun (u_72 : Mm) => V_X12_readNumber_75 G Q p0 u_72)))) ∧ (¬ (gI u p0 16) ≤ p2 → V_X12_readNumber_54 G Q p0 u))))))) ∧ (¬ (gI u p0 15) = (2 : Int32) → V_X12_wrong G p0 (1 : Int32) u (fun (u_19 : Mm) => V_X12_readNumber_75 G Q p0 u_19)))) ∧ (¬ (gI u p0 19) = 0 → Q (0 : Int32) u))
set_option maxHeartbeats 4000000 in
set_option maxRecDepth 100000 in
theorem b_X12_readNumber_75 {G : Gx} {Q : Int32 → Mm → Prop} {p : Program} {l : Launch} {e : Env} {s : State} {m : MethodId} {args : Array Value} {below : List Frame} {meth : Method} {c : Code} (C : Cx G p s m c cX12_readNumber RX12 5) (hr : meth.sig.returnType = (some .int)) (hlk : meth.locks = false) {x0 : Nat} {u : Mm} {H : Heap} {locs : List Loc} {ls : Array Slot} (h : V_X12_readNumber_75 G Q x0 u) (hl : lv_has ls 5 [(0, .ref x0)]) (hP : Hp G u s H locs) : W p l e rm_X12_readNumber s m args below meth c H locs 0 0 (MQ below (Ei G Q) args s 0 0 (ag G)) (F0 m 75 ls []) := by
  have hx := C.1
  have hb := C.2.1
  unfold V_X12_readNumber_75 at h
  refine lv_aload_n hx hb dX12_readNumber_75 rfl (lv_at hl 0 rfl) ?_
  obtain ⟨g1, h⟩ := h
  refine q_getI C hP (k := 16) (lay_X12 C.hA) rfl (by decide) g1 (fl_X12_180 C.hA) dX12_readNumber_76 ?_
  refine lv_topi (fun x4_79 ex4_79 => ?_)
  have h := h x4_79 ex4_79
  refine lv_istore (lv' := [(4, .int x4_79), (0, .ref x0)]) hx hb dX12_readNumber_79 hl (by decide) rfl (fun ls hl => ?_)
  refine lv_aload_n hx hb dX12_readNumber_81 rfl (lv_at hl 1 rfl) ?_
  refine q_getI C hP (k := 19) (lay_X12 C.hA) rfl (by decide) g1 (fl_X12_192 C.hA) dX12_readNumber_82 ?_
  refine lv_if_ne (tgt := 92) hx hb dX12_readNumber_85 (by decide) (fun c85 => ?_) (fun c85 => ?_)
  · have h := h.2 c85
    refine lv_iload hx hb dX12_readNumber_92 (lv_at hl 0 rfl) ?_
    exact q_iret C hr hlk hP h (by decide) (by decide) dX12_readNumber_94
  · have h := h.1 c85
    refine lv_aload_n hx hb dX12_readNumber_88 rfl (lv_at hl 1 rfl) ?_
    refine q_calv (q_runV C hP (c_X12_stepOn h) (cd_X12_stepOn C.hA) (ini_X12 C.hA) (ml_X12_210 C.hA) (im_X12_stepOn C.hA) (sl_X12_stepOn C.hA) g1 (by decide) rfl hd_X12_stepOn ⟨rfl, rfl⟩ ⟨Nat.le_of_ble_eq_true rfl, Nat.le_of_ble_eq_true rfl⟩ ⟨Nat.le_of_ble_eq_true rfl, Nat.le_of_ble_eq_true rfl⟩ hl.1 rfl (Nat.le_of_ble_eq_true rfl) dX12_readNumber_89) hP (fun u_89 H locs h hP => ?_)
    refine lv_iload hx hb dX12_readNumber_92 (lv_at hl 0 rfl) ?_
    exact q_iret C hr hlk hP h (by decide) (by decide) dX12_readNumber_94
set_option maxHeartbeats 4000000 in
set_option maxRecDepth 100000 in
theorem b_X12_readNumber_54 {G : Gx} {Q : Int32 → Mm → Prop} {p : Program} {l : Launch} {e : Env} {s : State} {m : MethodId} {args : Array Value} {below : List Frame} {meth : Method} {c : Code} (C : Cx G p s m c cX12_readNumber RX12 5) (hr : meth.sig.returnType = (some .int)) (hlk : meth.locks = false) {x0 : Nat} {u : Mm} {H : Heap} {locs : List Loc} {ls : Array Slot} (h : V_X12_readNumber_54 G Q x0 u) (hl : lv_has ls 5 [(0, .ref x0)]) (hP : Hp G u s H locs) : W p l e rm_X12_readNumber s m args below meth c H locs 0 0 (MQ below (Ei G Q) args s 0 0 (ag G)) (F0 m 54 ls []) := by
  have hx := C.1
  have hb := C.2.1
  unfold V_X12_readNumber_54 at h
  refine lv_aload_n hx hb dX12_readNumber_54 rfl (lv_at hl 0 rfl) ?_
  refine lv_iconst (v := (2 : Int32)) hx hb dX12_readNumber_55 (by decide) ?_
  obtain ⟨g1, h⟩ := h
  refine q_calv (q_runV C hP (c_X12_wrong h) (cd_X12_wrong C.hA) (ini_X12 C.hA) (ml_X12_213 C.hA) (im_X12_wrong C.hA) (sl_X12_wrong C.hA) g1 (by decide) rfl hd_X12_wrong ⟨rfl, rfl⟩ ⟨Nat.le_of_ble_eq_true rfl, Nat.le_of_ble_eq_true rfl⟩ ⟨Nat.le_of_ble_eq_true rfl, Nat.le_of_ble_eq_true rfl⟩ hl.1 rfl (Nat.le_of_ble_eq_true rfl) dX12_readNumber_56) hP (fun u_56 H locs h hP => ?_)
  refine lv_goto (tgt := 75) hx hb dX12_readNumber_59 (by decide) ?_
  exact b_X12_readNumber_75 C hr hlk h (lv_sub hl [0] rfl) hP
set_option maxHeartbeats 4000000 in
set_option maxRecDepth 100000 in
theorem c_X12_readNumber {l : Launch} {G : Gx} {p0 : Nat} {p1 : Int32} {p2 : Int32} {p3 : Int32} {u : Mm} {Q : Int32 → Mm → Prop} (h : V_X12_readNumber G p0 p1 p2 p3 u Q) : Met l yX12_readNumber [.code yX12_readNumber cX12_readNumber 5 (some .int)] rm_X12_readNumber (va_Pc [.ref p0, .int p1, .int p2, .int p3] (Wd G u)) (Ei G Q) 0 0 (ag G) := by
  refine q_met (by decide) (Nat.le_of_ble_eq_true rfl) ?_
  intro p e s m below meth c ls C hr hlk hnm hl hP
  have hl : lv_has ls 5 [(0, .ref p0), (1, .int p1), (2, .int p2), (3, .int p3)] := hl
  generalize ([.ref p0, .int p1, .int p2, .int p3] : List Value).toArray = args
  have hx := C.1
  have hb := C.2.1
  unfold V_X12_readNumber at h
  refine lv_aload_n hx hb dX12_readNumber_0 rfl (lv_at hl 0 rfl) ?_
  obtain ⟨g1, h⟩ := h
  refine q_getI C hP (k := 19) (lay_X12 C.hA) rfl (by decide) g1 (fl_X12_192 C.hA) dX12_readNumber_1 ?_
  refine lv_if_eq (tgt := 9) hx hb dX12_readNumber_4 (by decide) (fun c4 => ?_) (fun c4 => ?_)
  · have h := h.1 c4
    refine lv_aload_n hx hb dX12_readNumber_9 rfl (lv_at hl 0 rfl) ?_
    refine q_getI C hP (k := 15) (lay_X12 C.hA) rfl (by decide) g1 (fl_X12_170 C.hA) dX12_readNumber_10 ?_
    refine lv_iconst (v := (2 : Int32)) hx hb dX12_readNumber_13 (by decide) ?_
    refine lv_icmp_eq (tgt := 25) hx hb dX12_readNumber_14 (by decide) (fun c14 => ?_) (fun c14 => ?_)
    · have h := h.1 c14
      refine lv_aload_n hx hb dX12_readNumber_25 rfl (lv_at hl 0 rfl) ?_
      refine q_getI C hP (k := 18) (lay_X12 C.hA) rfl (by decide) g1 (fl_X12_189 C.hA) dX12_readNumber_26 ?_
      refine lv_aload_n hx hb dX12_readNumber_29 rfl (lv_at hl 0 rfl) ?_
      refine q_getI C hP (k := 17) (lay_X12 C.hA) rfl (by decide) g1 (fl_X12_167 C.hA) dX12_readNumber_30 ?_
      refine lv_isub hx hb dX12_readNumber_33 ?_
      refine lv_iconst (v := (4 : Int32)) hx hb dX12_readNumber_34 (by decide) ?_
      refine lv_icmp_gt (tgt := 54) hx hb dX12_readNumber_35 (by decide) (fun c35 => ?_) (fun c35 => ?_)
      · have h := h.1 c35
        exact b_X12_readNumber_54 C hr hlk h (lv_sub hl [0] rfl) hP
      · have h := h.2 c35
        refine lv_aload_n hx hb dX12_readNumber_38 rfl (lv_at hl 0 rfl) ?_
        refine q_getI C hP (k := 16) (lay_X12 C.hA) rfl (by decide) g1 (fl_X12_180 C.hA) dX12_readNumber_39 ?_
        refine lv_iload_n hx hb dX12_readNumber_42 rfl (lv_at hl 1 rfl) ?_
        refine lv_icmp_lt (tgt := 54) hx hb dX12_readNumber_43 (by decide) (fun c43 => ?_) (fun c43 => ?_)
        · have h := h.1 c43
          exact b_X12_readNumber_54 C hr hlk h (lv_sub hl [0] rfl) hP
        · have h := h.2 c43
          refine lv_aload_n hx hb dX12_readNumber_46 rfl (lv_at hl 0 rfl) ?_
          refine q_getI C hP (k := 16) (lay_X12 C.hA) rfl (by decide) g1 (fl_X12_180 C.hA) dX12_readNumber_47 ?_
          refine lv_iload_n hx hb dX12_readNumber_50 rfl (lv_at hl 2 rfl) ?_
          refine lv_icmp_le (tgt := 62) hx hb dX12_readNumber_51 (by decide) (fun c51 => ?_) (fun c51 => ?_)
          · have h := h.1 c51
            refine lv_aload_n hx hb dX12_readNumber_62 rfl (lv_at hl 0 rfl) ?_
            refine q_getI C hP (k := 16) (lay_X12 C.hA) rfl (by decide) g1 (fl_X12_180 C.hA) dX12_readNumber_63 ?_
            refine lv_iload_n hx hb dX12_readNumber_66 rfl (lv_at hl 3 rfl) ?_
            refine lv_icmp_ge (tgt := 75) hx hb dX12_readNumber_67 (by decide) (fun c67 => ?_) (fun c67 => ?_)
            · have h := h.1 c67
              exact b_X12_readNumber_75 C hr hlk h (lv_sub hl [0] rfl) hP
            · have h := h.2 c67
              refine lv_aload_n hx hb dX12_readNumber_70 rfl (lv_at hl 0 rfl) ?_
              refine lv_iconst (v := (3 : Int32)) hx hb dX12_readNumber_71 (by decide) ?_
              refine q_calv (q_runV C hP (c_X12_wrong h) (cd_X12_wrong C.hA) (ini_X12 C.hA) (ml_X12_213 C.hA) (im_X12_wrong C.hA) (sl_X12_wrong C.hA) g1 (by decide) rfl hd_X12_wrong ⟨rfl, rfl⟩ ⟨Nat.le_of_ble_eq_true rfl, Nat.le_of_ble_eq_true rfl⟩ ⟨Nat.le_of_ble_eq_true rfl, Nat.le_of_ble_eq_true rfl⟩ hl.1 rfl (Nat.le_of_ble_eq_true rfl) dX12_readNumber_72) hP (fun u_72 H locs h hP => ?_)
              exact b_X12_readNumber_75 C hr hlk h (lv_sub hl [0] rfl) hP
          · have h := h.2 c51
            exact b_X12_readNumber_54 C hr hlk h (lv_sub hl [0] rfl) hP
    · have h := h.2 c14
      refine lv_aload_n hx hb dX12_readNumber_17 rfl (lv_at hl 0 rfl) ?_
      refine lv_iconst (v := (1 : Int32)) hx hb dX12_readNumber_18 (by decide) ?_
      refine q_calv (q_runV C hP (c_X12_wrong h) (cd_X12_wrong C.hA) (ini_X12 C.hA) (ml_X12_213 C.hA) (im_X12_wrong C.hA) (sl_X12_wrong C.hA) g1 (by decide) rfl hd_X12_wrong ⟨rfl, rfl⟩ ⟨Nat.le_of_ble_eq_true rfl, Nat.le_of_ble_eq_true rfl⟩ ⟨Nat.le_of_ble_eq_true rfl, Nat.le_of_ble_eq_true rfl⟩ hl.1 rfl (Nat.le_of_ble_eq_true rfl) dX12_readNumber_19) hP (fun u_19 H locs h hP => ?_)
      refine lv_goto (tgt := 75) hx hb dX12_readNumber_22 (by decide) ?_
      exact b_X12_readNumber_75 C hr hlk h (lv_sub hl [0] rfl) hP
  · have h := h.2 c4
    refine lv_iconst (v := (0 : Int32)) hx hb dX12_readNumber_7 (by decide) ?_
    exact q_iret C hr hlk hP h (by decide) (by decide) dX12_readNumber_8
-- X12_perhaps
abbrev rm_X12_perhaps : Room := { frames := 6, cells := 0, slots := 0, locals := 130 }
theorem hd_X12_perhaps : yX12_perhaps.cls ≠ "java/lang/invoke/MethodHandle" ∧ yX12_perhaps.cls ≠ "java/lang/invoke/VarHandle" ∧ (parseMethodDescriptor yX12_perhaps.desc).map (fun d => d.parameters.length) = some 2 := by decide +kernel
def V_X12_perhaps (G : Gx) (p0 : Nat) (p1 : Nat) (p2 : Int32) (u : Mm) (Q : Int32 → Mm → Prop) : Prop :=
  kd G p0 = 12 ∧ V_X12_passes G p0 p1 u (fun (v_2 : Int32) (u_2 : Mm) => ((v_2 = 0 → Q (0 : Int32) u_2) ∧ (¬ v_2 = 0 → V_X12_readNumber G p0 (0 : Int32) p2 (-1 : Int32) u_2 (fun (v_12 : Int32) (u_12 : Mm) => Q v_12 u_12))))
set_option maxHeartbeats 4000000 in
set_option maxRecDepth 100000 in
theorem c_X12_perhaps {l : Launch} {G : Gx} {p0 : Nat} {p1 : Nat} {p2 : Int32} {u : Mm} {Q : Int32 → Mm → Prop} (h : V_X12_perhaps G p0 p1 p2 u Q) : Met l yX12_perhaps [.code yX12_perhaps cX12_perhaps 3 (some .int)] rm_X12_perhaps (va_Pc [.ref p0, .ref p1, .int p2] (Wd G u)) (Ei G Q) 0 0 (ag G) := by
  refine q_met (by decide) (Nat.le_of_ble_eq_true rfl) ?_
  intro p e s m below meth c ls C hr hlk hnm hl hP
  have hl : lv_has ls 3 [(0, .ref p0), (1, .ref p1), (2, .int p2)] := hl
  generalize ([.ref p0, .ref p1, .int p2] : List Value).toArray = args
  have hx := C.1
  have hb := C.2.1
  unfold V_X12_perhaps at h
  refine lv_aload_n hx hb dX12_perhaps_0 rfl (lv_at hl 0 rfl) ?_
  refine lv_aload_n hx hb dX12_perhaps_1 rfl (lv_at hl 1 rfl) ?_
  obtain ⟨g1, h⟩ := h
  refine q_cali (q_runV C hP (c_X12_passes h) (cd_X12_passes C.hA) (ini_X12 C.hA) (ml_X12_216 C.hA) (im_X12_passes C.hA) (sl_X12_passes C.hA) g1 (by decide) rfl hd_X12_passes ⟨rfl, rfl⟩ ⟨Nat.le_of_ble_eq_true rfl, Nat.le_of_ble_eq_true rfl⟩ ⟨Nat.le_of_ble_eq_true rfl, Nat.le_of_ble_eq_true rfl⟩ hl.1 rfl (Nat.le_of_ble_eq_true rfl) dX12_perhaps_2) hP (fun v_2 u_2 H locs h hP => ?_)
  refine lv_if_eq (tgt := 18) hx hb dX12_perhaps_5 (by decide) (fun c5 => ?_) (fun c5 => ?_)
  · have h := h.1 c5
    refine lv_iconst (v := (0 : Int32)) hx hb dX12_perhaps_18 (by decide) ?_
    exact q_iret C hr hlk hP h (by decide) (by decide) dX12_perhaps_19
  · have h := h.2 c5
    refine lv_aload_n hx hb dX12_perhaps_8 rfl (lv_at hl 0 rfl) ?_
    refine lv_iconst (v := (0 : Int32)) hx hb dX12_perhaps_9 (by decide) ?_
    refine lv_iload_n hx hb dX12_perhaps_10 rfl (lv_at hl 2 rfl) ?_
    refine lv_iconst (v := (-1 : Int32)) hx hb dX12_perhaps_11 (by decide) ?_
    refine q_cali (q_runV C hP (c_X12_readNumber h) (cd_X12_readNumber C.hA) (ini_X12 C.hA) (ml_X12_219 C.hA) (im_X12_readNumber C.hA) (sl_X12_readNumber C.hA) g1 (by decide) rfl hd_X12_readNumber ⟨rfl, rfl⟩ ⟨Nat.le_of_ble_eq_true rfl, Nat.le_of_ble_eq_true rfl⟩ ⟨Nat.le_of_ble_eq_true rfl, Nat.le_of_ble_eq_true rfl⟩ hl.1 rfl (Nat.le_of_ble_eq_true rfl) dX12_perhaps_12) hP (fun v_12 u_12 H locs h hP => ?_)
    refine lv_goto (tgt := 19) hx hb dX12_perhaps_15 (by decide) ?_
    exact q_iret C hr hlk hP h (by decide) (by decide) dX12_perhaps_19
-- X12_semi
abbrev rm_X12_semi : Room := { frames := 2, cells := 0, slots := 0, locals := 42 }
theorem hd_X12_semi : yX12_semi.cls ≠ "java/lang/invoke/MethodHandle" ∧ yX12_semi.cls ≠ "java/lang/invoke/VarHandle" ∧ (parseMethodDescriptor yX12_semi.desc).map (fun d => d.parameters.length) = some 0 := by decide +kernel
def V_X12_semi_20 (G : Gx) (Q : Mm → Prop) (x0 : Nat) (u : Mm) : Prop :=
  kd G x0 = 12 ∧ (((gI u x0 19) = 0 → V_X12_stepOn G x0 u (fun (u_28 : Mm) => Q u_28)) ∧ (¬ (gI u x0 19) = 0 → Q u))
def V_X12_semi (G : Gx) (p0 : Nat) (u : Mm) (Q : Mm → Prop) : Prop :=
  kd G p0 = 12 ∧ (((gI u p0 19) = 0 → (((gI u p0 15) = (3 : Int32) → V_X12_semi_20 G Q p0 u) ∧ (¬ (gI u p0 15) = (3 : Int32) → V_X12_wrong G p0 (1 : Int32) u (fun (u_17 : Mm) => V_X12_semi_20 G Q p0 u_17)))) ∧ (¬ (gI u p0 19) = 0 → V_X12_semi_20 G Q p0 u))
set_option maxHeartbeats 4000000 in
set_option maxRecDepth 100000 in
theorem b_X12_semi_20 {G : Gx} {Q : Mm → Prop} {p : Program} {l : Launch} {e : Env} {s : State} {m : MethodId} {args : Array Value} {below : List Frame} {meth : Method} {c : Code} (C : Cx G p s m c cX12_semi RX12 1) (hr : meth.sig.returnType = none) (hlk : meth.locks = false) {x0 : Nat} {u : Mm} {H : Heap} {locs : List Loc} {ls : Array Slot} (h : V_X12_semi_20 G Q x0 u) (hl : lv_has ls 1 [(0, .ref x0)]) (hP : Hp G u s H locs) : W p l e rm_X12_semi s m args below meth c H locs 0 0 (MQ below (Ev G Q) args s 0 0 (ag G)) (F0 m 20 ls []) := by
  have hx := C.1
  have hb := C.2.1
  unfold V_X12_semi_20 at h
  refine lv_aload_n hx hb dX12_semi_20 rfl (lv_at hl 0 rfl) ?_
  obtain ⟨g1, h⟩ := h
  refine q_getI C hP (k := 19) (lay_X12 C.hA) rfl (by decide) g1 (fl_X12_192 C.hA) dX12_semi_21 ?_
  refine lv_if_ne (tgt := 31) hx hb dX12_semi_24 (by decide) (fun c24 => ?_) (fun c24 => ?_)
  · have h := h.2 c24
    exact q_vret C hr hlk hP h (by decide) (by decide) dX12_semi_31
  · have h := h.1 c24
    refine lv_aload_n hx hb dX12_semi_27 rfl (lv_at hl 0 rfl) ?_
    refine q_calv (q_runV C hP (c_X12_stepOn h) (cd_X12_stepOn C.hA) (ini_X12 C.hA) (ml_X12_210 C.hA) (im_X12_stepOn C.hA) (sl_X12_stepOn C.hA) g1 (by decide) rfl hd_X12_stepOn ⟨rfl, rfl⟩ ⟨Nat.le_of_ble_eq_true rfl, Nat.le_of_ble_eq_true rfl⟩ ⟨Nat.le_of_ble_eq_true rfl, Nat.le_of_ble_eq_true rfl⟩ hl.1 rfl (Nat.le_of_ble_eq_true rfl) dX12_semi_28) hP (fun u_28 H locs h hP => ?_)
    exact q_vret C hr hlk hP h (by decide) (by decide) dX12_semi_31
set_option maxHeartbeats 4000000 in
set_option maxRecDepth 100000 in
theorem c_X12_semi {l : Launch} {G : Gx} {p0 : Nat} {u : Mm} {Q : Mm → Prop} (h : V_X12_semi G p0 u Q) : Met l yX12_semi [.code yX12_semi cX12_semi 1 none] rm_X12_semi (va_Pc [.ref p0] (Wd G u)) (Ev G Q) 0 0 (ag G) := by
  refine q_met (by decide) (Nat.le_of_ble_eq_true rfl) ?_
  intro p e s m below meth c ls C hr hlk hnm hl hP
  have hl : lv_has ls 1 [(0, .ref p0)] := hl
  generalize ([.ref p0] : List Value).toArray = args
  have hx := C.1
  have hb := C.2.1
  unfold V_X12_semi at h
  refine lv_aload_n hx hb dX12_semi_0 rfl (lv_at hl 0 rfl) ?_
  obtain ⟨g1, h⟩ := h
  refine q_getI C hP (k := 19) (lay_X12 C.hA) rfl (by decide) g1 (fl_X12_192 C.hA) dX12_semi_1 ?_
  refine lv_if_ne (tgt := 20) hx hb dX12_semi_4 (by decide) (fun c4 => ?_) (fun c4 => ?_)
  · have h := h.2 c4
    exact b_X12_semi_20 C hr hlk h (lv_sub hl [0] rfl) hP
  · have h := h.1 c4
    refine lv_aload_n hx hb dX12_semi_7 rfl (lv_at hl 0 rfl) ?_
    refine q_getI C hP (k := 15) (lay_X12 C.hA) rfl (by decide) g1 (fl_X12_170 C.hA) dX12_semi_8 ?_
    refine lv_iconst (v := (3 : Int32)) hx hb dX12_semi_11 (by decide) ?_
    refine lv_icmp_eq (tgt := 20) hx hb dX12_semi_12 (by decide) (fun c12 => ?_) (fun c12 => ?_)
    · have h := h.1 c12
      exact b_X12_semi_20 C hr hlk h (lv_sub hl [0] rfl) hP
    · have h := h.2 c12
      refine lv_aload_n hx hb dX12_semi_15 rfl (lv_at hl 0 rfl) ?_
      refine lv_iconst (v := (1 : Int32)) hx hb dX12_semi_16 (by decide) ?_
      refine q_calv (q_runV C hP (c_X12_wrong h) (cd_X12_wrong C.hA) (ini_X12 C.hA) (ml_X12_213 C.hA) (im_X12_wrong C.hA) (sl_X12_wrong C.hA) g1 (by decide) rfl hd_X12_wrong ⟨rfl, rfl⟩ ⟨Nat.le_of_ble_eq_true rfl, Nat.le_of_ble_eq_true rfl⟩ ⟨Nat.le_of_ble_eq_true rfl, Nat.le_of_ble_eq_true rfl⟩ hl.1 rfl (Nat.le_of_ble_eq_true rfl) dX12_semi_17) hP (fun u_17 H locs h hP => ?_)
      exact b_X12_semi_20 C hr hlk h (lv_sub hl [0] rfl) hP
-- X12_readWall
abbrev rm_X12_readWall : Room := { frames := 7, cells := 0, slots := 0, locals := 152 }
theorem hd_X12_readWall : yX12_readWall.cls ≠ "java/lang/invoke/MethodHandle" ∧ yX12_readWall.cls ≠ "java/lang/invoke/VarHandle" ∧ (parseMethodDescriptor yX12_readWall.desc).map (fun d => d.parameters.length) = some 1 := by decide +kernel
def V_X12_readWall (G : Gx) (p0 : Nat) (p1 : Int32) (u : Mm) (Q : Mm → Prop) : Prop :=
  kd G p0 = 12 ∧ (gR u p0 2) ≠ 0 ∧ kd G (gR u p0 2) = 13 ∧ vp_in (6 : Int32) (ln G (gR u p0 2)) ∧ ∀ x2_12 : Int32, x2_12 = (((48 : Int32) + (gI u (gR u p0 2) (6 : Int32).toNatClampNeg)) * (5 : Int32)) → (gR u p0 7) ≠ 0 ∧ kd G (gR u p0 7) = 13 ∧ vp_in x2_12 (ln G (gR u p0 7)) ∧ ∀ u_19 : Mm, u_19 = sI u (gR u p0 7) x2_12.toNatClampNeg p1 → (gR u_19 p0 7) ≠ 0 ∧ V_X12_readNumber G p0 (0 : Int32) (40 : Int32) (-1 : Int32) u_19 (fun (v_32 : Int32) (u_32 : Mm) => kd G (gR u_19 p0 7) = 13 ∧ vp_in (x2_12 + (1 : Int32)) (ln G (gR u_19 p0 7)) ∧ ∀ u_35 : Mm, u_35 = sI u_32 (gR u_19 p0 7) (x2_12 + (1 : Int32)).toNatClampNeg v_32 → (gR u_35 p0 7) ≠ 0 ∧ V_X12_readNumber G p0 (0 : Int32) (40 : Int32) (-1 : Int32) u_35 (fun (v_48 : Int32) (u_48 : Mm) => kd G (gR u_35 p0 7) = 13 ∧ vp_in (x2_12 + (2 : Int32)) (ln G (gR u_35 p0 7)) ∧ ∀ u_51 : Mm, u_51 = sI u_48 (gR u_35 p0 7) (x2_12 + (2 : Int32)).toNatClampNeg v_48 → (gR u_51 p0 7) ≠ 0 ∧ kd G (gR u_51 p0 7) = 13 ∧ vp_in (x2_12 + (2 : Int32)) (ln G (gR u_51 p0 7)) ∧ V_X12_readNumber G p0 (0 : Int32) (40 : Int32) ((gI u_51 (gR u_51 p0 7) (x2_12 + (2 : Int32)).toNatClampNeg) + (1 : Int32)) u_51 (fun (v_73 : Int32) (u_73 : Mm) => vp_in (x2_12 + (3 : Int32)) (ln G (gR u_51 p0 7)) ∧ ∀ u_76 : Mm, u_76 = sI u_73 (gR u_51 p0 7) (x2_12 + (3 : Int32)).toNatClampNeg v_73 → (gR u_76 p0 7) ≠ 0 ∧ V_X12_perhaps G p0 (gS G 34) (100 : Int32) u_76 (fun (v_89 : Int32) (u_89 : Mm) => kd G (gR u_76 p0 7) = 13 ∧ vp_in (x2_12 + (4 : Int32)) (ln G (gR u_76 p0 7)) ∧ ∀ u_92 : Mm, u_92 = sI u_89 (gR u_76 p0 7) (x2_12 + (4 : Int32)).toNatClampNeg v_89 → (gR u_92 p0 2) ≠ 0 ∧ kd G (gR u_92 p0 2) = 13 ∧ vp_in (6 : Int32) (ln G (gR u_92 p0 2)) ∧ ∀ u_103 : Mm, u_103 = sI u_92 (gR u_92 p0 2) (6 : Int32).toNatClampNeg ((gI u_92 (gR u_92 p0 2) (6 : Int32).toNatClampNeg) + (1 : Int32)) → Q u_103))))
set_option maxHeartbeats 4000000 in
set_option maxRecDepth 100000 in
theorem c_X12_readWall {l : Launch} {G : Gx} {p0 : Nat} {p1 : Int32} {u : Mm} {Q : Mm → Prop} (h : V_X12_readWall G p0 p1 u Q) : Met l yX12_readWall [.code yX12_readWall cX12_readWall 3 none] rm_X12_readWall (va_Pc [.ref p0, .int p1] (Wd G u)) (Ev G Q) 0 0 (ag G) := by
  refine q_met (by decide) (Nat.le_of_ble_eq_true rfl) ?_
  intro p e s m below meth c ls C hr hlk hnm hl hP
  have hl : lv_has ls 3 [(0, .ref p0), (1, .int p1)] := hl
  generalize ([.ref p0, .int p1] : List Value).toArray = args
  have hx := C.1
  have hb := C.2.1
  unfold V_X12_readWall at h
  refine lv_bipush (v := (48 : Int32)) hx hb dX12_readWall_0 (by decide) ?_
  refine lv_aload_n hx hb dX12_readWall_2 rfl (lv_at hl 0 rfl) ?_
  obtain ⟨g1, h⟩ := h
  obtain ⟨g2, h⟩ := h
  refine q_getR C hP (k := 2) (lay_X12 C.hA) rfl (by decide) g1 g2 (fl_X12_27 C.hA) dX12_readWall_3 ?_
  refine lv_bipush (v := (6 : Int32)) hx hb dX12_readWall_6 (by decide) ?_
  obtain ⟨g3, h⟩ := h
  obtain ⟨g4, h⟩ := h
  refine q_iald C hP g3 g4 dX12_readWall_8 ?_
  refine lv_iadd hx hb dX12_readWall_9 ?_
  refine lv_iconst (v := (5 : Int32)) hx hb dX12_readWall_10 (by decide) ?_
  refine lv_imul hx hb dX12_readWall_11 ?_
  refine lv_topi (fun x2_12 ex2_12 => ?_)
  have h := h x2_12 ex2_12
  refine lv_istore_n (lv' := [(2, .int x2_12), (0, .ref p0), (1, .int p1)]) hx hb dX12_readWall_12 rfl hl (by decide) rfl (fun ls hl => ?_)
  refine lv_aload_n hx hb dX12_readWall_13 rfl (lv_at hl 1 rfl) ?_
  obtain ⟨g5, h⟩ := h
  refine q_getR C hP (k := 7) (lay_X12 C.hA) rfl (by decide) g1 g5 (fl_X12_41 C.hA) dX12_readWall_14 ?_
  refine lv_iload_n hx hb dX12_readWall_17 rfl (lv_at hl 0 rfl) ?_
  refine lv_iload_n hx hb dX12_readWall_18 rfl (lv_at hl 2 rfl) ?_
  obtain ⟨g6, h⟩ := h
  obtain ⟨g7, h⟩ := h
  refine q_iast C hP g6 g7 dX12_readWall_19 (fun H locs hP => ?_)
  obtain ⟨u_19, eu_19, hP⟩ := Hp.nm hP
  have h := h u_19 eu_19
  refine lv_aload_n hx hb dX12_readWall_20 rfl (lv_at hl 1 rfl) ?_
  obtain ⟨g8, h⟩ := h
  refine q_getR C hP (k := 7) (lay_X12 C.hA) rfl (by decide) g1 g8 (fl_X12_41 C.hA) dX12_readWall_21 ?_
  refine lv_iload_n hx hb dX12_readWall_24 rfl (lv_at hl 0 rfl) ?_
  refine lv_iconst (v := (1 : Int32)) hx hb dX12_readWall_25 (by decide) ?_
  refine lv_iadd hx hb dX12_readWall_26 ?_
  refine lv_aload_n hx hb dX12_readWall_27 rfl (lv_at hl 1 rfl) ?_
  refine lv_iconst (v := (0 : Int32)) hx hb dX12_readWall_28 (by decide) ?_
  refine lv_bipush (v := (40 : Int32)) hx hb dX12_readWall_29 (by decide) ?_
  refine lv_iconst (v := (-1 : Int32)) hx hb dX12_readWall_31 (by decide) ?_
  refine q_cali (q_runV C hP (c_X12_readNumber h) (cd_X12_readNumber C.hA) (ini_X12 C.hA) (ml_X12_219 C.hA) (im_X12_readNumber C.hA) (sl_X12_readNumber C.hA) g1 (by decide) rfl hd_X12_readNumber ⟨rfl, rfl⟩ ⟨Nat.le_of_ble_eq_true rfl, Nat.le_of_ble_eq_true rfl⟩ ⟨Nat.le_of_ble_eq_true rfl, Nat.le_of_ble_eq_true rfl⟩ hl.1 rfl (Nat.le_of_ble_eq_true rfl) dX12_readWall_32) hP (fun v_32 u_32 H locs h hP => ?_)
  obtain ⟨g9, h⟩ := h
  obtain ⟨g10, h⟩ := h
  refine q_iast C hP g9 g10 dX12_readWall_35 (fun H locs hP => ?_)
  obtain ⟨u_35, eu_35, hP⟩ := Hp.nm hP
  have h := h u_35 eu_35
  refine lv_aload_n hx hb dX12_readWall_36 rfl (lv_at hl 1 rfl) ?_
  obtain ⟨g11, h⟩ := h
  refine q_getR C hP (k := 7) (lay_X12 C.hA) rfl (by decide) g1 g11 (fl_X12_41 C.hA) dX12_readWall_37 ?_
  refine lv_iload_n hx hb dX12_readWall_40 rfl (lv_at hl 0 rfl) ?_
  refine lv_iconst (v := (2 : Int32)) hx hb dX12_readWall_41 (by decide) ?_
  refine lv_iadd hx hb dX12_readWall_42 ?_
  refine lv_aload_n hx hb dX12_readWall_43 rfl (lv_at hl 1 rfl) ?_
  refine lv_iconst (v := (0 : Int32)) hx hb dX12_readWall_44 (by decide) ?_
  refine lv_bipush (v := (40 : Int32)) hx hb dX12_readWall_45 (by decide) ?_
  refine lv_iconst (v := (-1 : Int32)) hx hb dX12_readWall_47 (by decide) ?_
  refine q_cali (q_runV C hP (c_X12_readNumber h) (cd_X12_readNumber C.hA) (ini_X12 C.hA) (ml_X12_219 C.hA) (im_X12_readNumber C.hA) (sl_X12_readNumber C.hA) g1 (by decide) rfl hd_X12_readNumber ⟨rfl, rfl⟩ ⟨Nat.le_of_ble_eq_true rfl, Nat.le_of_ble_eq_true rfl⟩ ⟨Nat.le_of_ble_eq_true rfl, Nat.le_of_ble_eq_true rfl⟩ hl.1 rfl (Nat.le_of_ble_eq_true rfl) dX12_readWall_48) hP (fun v_48 u_48 H locs h hP => ?_)
  obtain ⟨g12, h⟩ := h
  obtain ⟨g13, h⟩ := h
  refine q_iast C hP g12 g13 dX12_readWall_51 (fun H locs hP => ?_)
  obtain ⟨u_51, eu_51, hP⟩ := Hp.nm hP
  have h := h u_51 eu_51
  refine lv_aload_n hx hb dX12_readWall_52 rfl (lv_at hl 1 rfl) ?_
  obtain ⟨g14, h⟩ := h
  refine q_getR C hP (k := 7) (lay_X12 C.hA) rfl (by decide) g1 g14 (fl_X12_41 C.hA) dX12_readWall_53 ?_
  refine lv_iload_n hx hb dX12_readWall_56 rfl (lv_at hl 0 rfl) ?_
  refine lv_iconst (v := (3 : Int32)) hx hb dX12_readWall_57 (by decide) ?_
  refine lv_iadd hx hb dX12_readWall_58 ?_
  refine lv_aload_n hx hb dX12_readWall_59 rfl (lv_at hl 1 rfl) ?_
  refine lv_iconst (v := (0 : Int32)) hx hb dX12_readWall_60 (by decide) ?_
  refine lv_bipush (v := (40 : Int32)) hx hb dX12_readWall_61 (by decide) ?_
  refine lv_aload_n hx hb dX12_readWall_63 rfl (lv_at hl 1 rfl) ?_
  refine q_getR C hP (k := 7) (lay_X12 C.hA) rfl (by decide) g1 g14 (fl_X12_41 C.hA) dX12_readWall_64 ?_
  refine lv_iload_n hx hb dX12_readWall_67 rfl (lv_at hl 0 rfl) ?_
  refine lv_iconst (v := (2 : Int32)) hx hb dX12_readWall_68 (by decide) ?_
  refine lv_iadd hx hb dX12_readWall_69 ?_
  obtain ⟨g15, h⟩ := h
  obtain ⟨g16, h⟩ := h
  refine q_iald C hP g15 g16 dX12_readWall_70 ?_
  refine lv_iconst (v := (1 : Int32)) hx hb dX12_readWall_71 (by decide) ?_
  refine lv_iadd hx hb dX12_readWall_72 ?_
  refine q_cali (q_runV C hP (c_X12_readNumber h) (cd_X12_readNumber C.hA) (ini_X12 C.hA) (ml_X12_219 C.hA) (im_X12_readNumber C.hA) (sl_X12_readNumber C.hA) g1 (by decide) rfl hd_X12_readNumber ⟨rfl, rfl⟩ ⟨Nat.le_of_ble_eq_true rfl, Nat.le_of_ble_eq_true rfl⟩ ⟨Nat.le_of_ble_eq_true rfl, Nat.le_of_ble_eq_true rfl⟩ hl.1 rfl (Nat.le_of_ble_eq_true rfl) dX12_readWall_73) hP (fun v_73 u_73 H locs h hP => ?_)
  obtain ⟨g17, h⟩ := h
  refine q_iast C hP g15 g17 dX12_readWall_76 (fun H locs hP => ?_)
  obtain ⟨u_76, eu_76, hP⟩ := Hp.nm hP
  have h := h u_76 eu_76
  refine lv_aload_n hx hb dX12_readWall_77 rfl (lv_at hl 1 rfl) ?_
  obtain ⟨g18, h⟩ := h
  refine q_getR C hP (k := 7) (lay_X12 C.hA) rfl (by decide) g1 g18 (fl_X12_41 C.hA) dX12_readWall_78 ?_
  refine lv_iload_n hx hb dX12_readWall_81 rfl (lv_at hl 0 rfl) ?_
  refine lv_iconst (v := (4 : Int32)) hx hb dX12_readWall_82 (by decide) ?_
  refine lv_iadd hx hb dX12_readWall_83 ?_
  refine lv_aload_n hx hb dX12_readWall_84 rfl (lv_at hl 1 rfl) ?_
  refine q_lds C 34 (by decide) rfl rfl dX12_readWall_85 ?_
  refine lv_bipush (v := (100 : Int32)) hx hb dX12_readWall_87 (by decide) ?_
  refine q_cali (q_runV C hP (c_X12_perhaps h) (cd_X12_perhaps C.hA) (ini_X12 C.hA) (ml_X12_225 C.hA) (im_X12_perhaps C.hA) (sl_X12_perhaps C.hA) g1 (by decide) rfl hd_X12_perhaps ⟨rfl, rfl⟩ ⟨Nat.le_of_ble_eq_true rfl, Nat.le_of_ble_eq_true rfl⟩ ⟨Nat.le_of_ble_eq_true rfl, Nat.le_of_ble_eq_true rfl⟩ hl.1 rfl (Nat.le_of_ble_eq_true rfl) dX12_readWall_89) hP (fun v_89 u_89 H locs h hP => ?_)
  obtain ⟨g19, h⟩ := h
  obtain ⟨g20, h⟩ := h
  refine q_iast C hP g19 g20 dX12_readWall_92 (fun H locs hP => ?_)
  obtain ⟨u_92, eu_92, hP⟩ := Hp.nm hP
  have h := h u_92 eu_92
  refine lv_aload_n hx hb dX12_readWall_93 rfl (lv_at hl 1 rfl) ?_
  obtain ⟨g21, h⟩ := h
  refine q_getR C hP (k := 2) (lay_X12 C.hA) rfl (by decide) g1 g21 (fl_X12_27 C.hA) dX12_readWall_94 ?_
  refine lv_bipush (v := (6 : Int32)) hx hb dX12_readWall_97 (by decide) ?_
  refine lv_dup2_11 hx hb dX12_readWall_99 rfl rfl ?_
  obtain ⟨g22, h⟩ := h
  obtain ⟨g23, h⟩ := h
  refine q_iald C hP g22 g23 dX12_readWall_100 ?_
  refine lv_iconst (v := (1 : Int32)) hx hb dX12_readWall_101 (by decide) ?_
  refine lv_iadd hx hb dX12_readWall_102 ?_
  refine q_iast C hP g22 g23 dX12_readWall_103 (fun H locs hP => ?_)
  obtain ⟨u_103, eu_103, hP⟩ := Hp.nm hP
  have h := h u_103 eu_103
  exact q_vret C hr hlk hP h (by decide) (by decide) dX12_readWall_104
-- X12_readBarn
abbrev rm_X12_readBarn : Room := { frames := 7, cells := 0, slots := 0, locals := 152 }
theorem hd_X12_readBarn : yX12_readBarn.cls ≠ "java/lang/invoke/MethodHandle" ∧ yX12_readBarn.cls ≠ "java/lang/invoke/VarHandle" ∧ (parseMethodDescriptor yX12_readBarn.desc).map (fun d => d.parameters.length) = some 0 := by decide +kernel
def V_X12_readBarn_126 (G : Gx) (Q : Mm → Prop) (x0 : Nat) (u : Mm) : Prop :=
  kd G x0 = 12 ∧ (gR u x0 3) ≠ 0 ∧ kd G (gR u x0 3) = 13 ∧ vp_in (6 : Int32) (ln G (gR u x0 3)) ∧ ∀ u_136 : Mm, u_136 = sI u (gR u x0 3) (6 : Int32).toNatClampNeg ((gI u (gR u x0 3) (6 : Int32).toNatClampNeg) + (1 : Int32)) → Q u_136
def V_X12_readBarn (G : Gx) (p0 : Nat) (u : Mm) (Q : Mm → Prop) : Prop :=
  kd G p0 = 12 ∧ (gR u p0 3) ≠ 0 ∧ kd G (gR u p0 3) = 13 ∧ vp_in (6 : Int32) (ln G (gR u p0 3)) ∧ ∀ x1_12 : Int32, x1_12 = (((48 : Int32) + (gI u (gR u p0 3) (6 : Int32).toNatClampNeg)) * (5 : Int32)) → (gR u p0 8) ≠ 0 ∧ V_X12_readNumber G p0 (0 : Int32) (40 : Int32) (-1 : Int32) u (fun (v_23 : Int32) (u_23 : Mm) => kd G (gR u p0 8) = 13 ∧ vp_in x1_12 (ln G (gR u p0 8)) ∧ ∀ u_26 : Mm, u_26 = sI u_23 (gR u p0 8) x1_12.toNatClampNeg v_23 → (gR u_26 p0 8) ≠ 0 ∧ V_X12_readNumber G p0 (0 : Int32) (40 : Int32) (-1 : Int32) u_26 (fun (v_39 : Int32) (u_39 : Mm) => kd G (gR u_26 p0 8) = 13 ∧ vp_in (x1_12 + (1 : Int32)) (ln G (gR u_26 p0 8)) ∧ ∀ u_42 : Mm, u_42 = sI u_39 (gR u_26 p0 8) (x1_12 + (1 : Int32)).toNatClampNeg v_39 → (gR u_42 p0 8) ≠ 0 ∧ V_X12_perhaps G p0 (gS G 34) (100 : Int32) u_42 (fun (v_55 : Int32) (u_55 : Mm) => kd G (gR u_42 p0 8) = 13 ∧ vp_in (x1_12 + (2 : Int32)) (ln G (gR u_42 p0 8)) ∧ ∀ u_58 : Mm, u_58 = sI u_55 (gR u_42 p0 8) (x1_12 + (2 : Int32)).toNatClampNeg v_55 → (gR u_58 p0 8) ≠ 0 ∧ kd G (gR u_58 p0 8) = 13 ∧ vp_in (x1_12 + (3 : Int32)) (ln G (gR u_58 p0 8)) ∧ ∀ u_67 : Mm, u_67 = sI u_58 (gR u_58 p0 8) (x1_12 + (3 : Int32)).toNatClampNeg (0 : Int32) → (gR u_67 p0 8) ≠ 0 ∧ kd G (gR u_67 p0 8) = 13 ∧ vp_in (x1_12 + (4 : Int32)) (ln G (gR u_67 p0 8)) ∧ ∀ u_77 : Mm, u_77 = sI u_67 (gR u_67 p0 8) (x1_12 + (4 : Int32)).toNatClampNeg (99 : Int32) → V_X12_passes G p0 (gS G 35) u_77 (fun (v_81 : Int32) (u_81 : Mm) => ((v_81 = 0 → V_X12_readBarn_126 G Q p0 u_81) ∧ (¬ v_81 = 0 → (gR u_81 p0 8) ≠ 0 ∧ V_X12_readNumber G p0 (0 : Int32) (99 : Int32) (-1 : Int32) u_81 (fun (v_99 : Int32) (u_99 : Mm) => kd G (gR u_81 p0 8) = 13 ∧ vp_in (x1_12 + (3 : Int32)) (ln G (gR u_81 p0 8)) ∧ ∀ u_102 : Mm, u_102 = sI u_99 (gR u_81 p0 8) (x1_12 + (3 : Int32)).toNatClampNeg v_99 → (gR u_102 p0 8) ≠ 0 ∧ kd G (gR u_102 p0 8) = 13 ∧ vp_in (x1_12 + (3 : Int32)) (ln G (gR u_102 p0 8)) ∧ V_X12_readNumber G p0 (0 : Int32) (99 : Int32) (gI u_102 (gR u_102 p0 8) (x1_12 + (3 : Int32)).toNatClampNeg) u_102 (fun (v_122 : Int32) (u_122 : Mm) => vp_in (x1_12 + (4 : Int32)) (ln G (gR u_102 p0 8)) ∧ ∀ u_125 : Mm, u_125 = sI u_122 (gR u_102 p0 8) (x1_12 + (4 : Int32)).toNatClampNeg v_122 → V_X12_readBarn_126 G Q p0 u_125))))))))
set_option maxHeartbeats 4000000 in
set_option maxRecDepth 100000 in
theorem b_X12_readBarn_126 {G : Gx} {Q : Mm → Prop} {p : Program} {l : Launch} {e : Env} {s : State} {m : MethodId} {args : Array Value} {below : List Frame} {meth : Method} {c : Code} (C : Cx G p s m c cX12_readBarn RX12 2) (hr : meth.sig.returnType = none) (hlk : meth.locks = false) {x0 : Nat} {u : Mm} {H : Heap} {locs : List Loc} {ls : Array Slot} (h : V_X12_readBarn_126 G Q x0 u) (hl : lv_has ls 2 [(0, .ref x0)]) (hP : Hp G u s H locs) : W p l e rm_X12_readBarn s m args below meth c H locs 0 0 (MQ below (Ev G Q) args s 0 0 (ag G)) (F0 m 126 ls []) := by
  have hx := C.1
  have hb := C.2.1
  unfold V_X12_readBarn_126 at h
  refine lv_aload_n hx hb dX12_readBarn_126 rfl (lv_at hl 0 rfl) ?_
  obtain ⟨g1, h⟩ := h
  obtain ⟨g2, h⟩ := h
  refine q_getR C hP (k := 3) (lay_X12 C.hA) rfl (by decide) g1 g2 (fl_X12_31 C.hA) dX12_readBarn_127 ?_
  refine lv_bipush (v := (6 : Int32)) hx hb dX12_readBarn_130 (by decide) ?_
  refine lv_dup2_11 hx hb dX12_readBarn_132 rfl rfl ?_
  obtain ⟨g3, h⟩ := h
  obtain ⟨g4, h⟩ := h
  refine q_iald C hP g3 g4 dX12_readBarn_133 ?_
  refine lv_iconst (v := (1 : Int32)) hx hb dX12_readBarn_134 (by decide) ?_
  refine lv_iadd hx hb dX12_readBarn_135 ?_
  refine q_iast C hP g3 g4 dX12_readBarn_136 (fun H locs hP => ?_)
  obtain ⟨u_136, eu_136, hP⟩ := Hp.nm hP
  have h := h u_136 eu_136
  exact q_vret C hr hlk hP h (by decide) (by decide) dX12_readBarn_137
set_option maxHeartbeats 4000000 in
set_option maxRecDepth 100000 in
theorem c_X12_readBarn {l : Launch} {G : Gx} {p0 : Nat} {u : Mm} {Q : Mm → Prop} (h : V_X12_readBarn G p0 u Q) : Met l yX12_readBarn [.code yX12_readBarn cX12_readBarn 2 none] rm_X12_readBarn (va_Pc [.ref p0] (Wd G u)) (Ev G Q) 0 0 (ag G) := by
  refine q_met (by decide) (Nat.le_of_ble_eq_true rfl) ?_
  intro p e s m below meth c ls C hr hlk hnm hl hP
  have hl : lv_has ls 2 [(0, .ref p0)] := hl
  generalize ([.ref p0] : List Value).toArray = args
  have hx := C.1
  have hb := C.2.1
  unfold V_X12_readBarn at h
  refine lv_bipush (v := (48 : Int32)) hx hb dX12_readBarn_0 (by decide) ?_
  refine lv_aload_n hx hb dX12_readBarn_2 rfl (lv_at hl 0 rfl) ?_
  obtain ⟨g1, h⟩ := h
  obtain ⟨g2, h⟩ := h
  refine q_getR C hP (k := 3) (lay_X12 C.hA) rfl (by decide) g1 g2 (fl_X12_31 C.hA) dX12_readBarn_3 ?_
  refine lv_bipush (v := (6 : Int32)) hx hb dX12_readBarn_6 (by decide) ?_
  obtain ⟨g3, h⟩ := h
  obtain ⟨g4, h⟩ := h
  refine q_iald C hP g3 g4 dX12_readBarn_8 ?_
  refine lv_iadd hx hb dX12_readBarn_9 ?_
  refine lv_iconst (v := (5 : Int32)) hx hb dX12_readBarn_10 (by decide) ?_
  refine lv_imul hx hb dX12_readBarn_11 ?_
  refine lv_topi (fun x1_12 ex1_12 => ?_)
  have h := h x1_12 ex1_12
  refine lv_istore_n (lv' := [(1, .int x1_12), (0, .ref p0)]) hx hb dX12_readBarn_12 rfl hl (by decide) rfl (fun ls hl => ?_)
  refine lv_aload_n hx hb dX12_readBarn_13 rfl (lv_at hl 1 rfl) ?_
  obtain ⟨g5, h⟩ := h
  refine q_getR C hP (k := 8) (lay_X12 C.hA) rfl (by decide) g1 g5 (fl_X12_44 C.hA) dX12_readBarn_14 ?_
  refine lv_iload_n hx hb dX12_readBarn_17 rfl (lv_at hl 0 rfl) ?_
  refine lv_aload_n hx hb dX12_readBarn_18 rfl (lv_at hl 1 rfl) ?_
  refine lv_iconst (v := (0 : Int32)) hx hb dX12_readBarn_19 (by decide) ?_
  refine lv_bipush (v := (40 : Int32)) hx hb dX12_readBarn_20 (by decide) ?_
  refine lv_iconst (v := (-1 : Int32)) hx hb dX12_readBarn_22 (by decide) ?_
  refine q_cali (q_runV C hP (c_X12_readNumber h) (cd_X12_readNumber C.hA) (ini_X12 C.hA) (ml_X12_219 C.hA) (im_X12_readNumber C.hA) (sl_X12_readNumber C.hA) g1 (by decide) rfl hd_X12_readNumber ⟨rfl, rfl⟩ ⟨Nat.le_of_ble_eq_true rfl, Nat.le_of_ble_eq_true rfl⟩ ⟨Nat.le_of_ble_eq_true rfl, Nat.le_of_ble_eq_true rfl⟩ hl.1 rfl (Nat.le_of_ble_eq_true rfl) dX12_readBarn_23) hP (fun v_23 u_23 H locs h hP => ?_)
  obtain ⟨g6, h⟩ := h
  obtain ⟨g7, h⟩ := h
  refine q_iast C hP g6 g7 dX12_readBarn_26 (fun H locs hP => ?_)
  obtain ⟨u_26, eu_26, hP⟩ := Hp.nm hP
  have h := h u_26 eu_26
  refine lv_aload_n hx hb dX12_readBarn_27 rfl (lv_at hl 1 rfl) ?_
  obtain ⟨g8, h⟩ := h
  refine q_getR C hP (k := 8) (lay_X12 C.hA) rfl (by decide) g1 g8 (fl_X12_44 C.hA) dX12_readBarn_28 ?_
  refine lv_iload_n hx hb dX12_readBarn_31 rfl (lv_at hl 0 rfl) ?_
  refine lv_iconst (v := (1 : Int32)) hx hb dX12_readBarn_32 (by decide) ?_
  refine lv_iadd hx hb dX12_readBarn_33 ?_
  refine lv_aload_n hx hb dX12_readBarn_34 rfl (lv_at hl 1 rfl) ?_
  refine lv_iconst (v := (0 : Int32)) hx hb dX12_readBarn_35 (by decide) ?_
  refine lv_bipush (v := (40 : Int32)) hx hb dX12_readBarn_36 (by decide) ?_
  refine lv_iconst (v := (-1 : Int32)) hx hb dX12_readBarn_38 (by decide) ?_
  refine q_cali (q_runV C hP (c_X12_readNumber h) (cd_X12_readNumber C.hA) (ini_X12 C.hA) (ml_X12_219 C.hA) (im_X12_readNumber C.hA) (sl_X12_readNumber C.hA) g1 (by decide) rfl hd_X12_readNumber ⟨rfl, rfl⟩ ⟨Nat.le_of_ble_eq_true rfl, Nat.le_of_ble_eq_true rfl⟩ ⟨Nat.le_of_ble_eq_true rfl, Nat.le_of_ble_eq_true rfl⟩ hl.1 rfl (Nat.le_of_ble_eq_true rfl) dX12_readBarn_39) hP (fun v_39 u_39 H locs h hP => ?_)
  obtain ⟨g9, h⟩ := h
  obtain ⟨g10, h⟩ := h
  refine q_iast C hP g9 g10 dX12_readBarn_42 (fun H locs hP => ?_)
  obtain ⟨u_42, eu_42, hP⟩ := Hp.nm hP
  have h := h u_42 eu_42
  refine lv_aload_n hx hb dX12_readBarn_43 rfl (lv_at hl 1 rfl) ?_
  obtain ⟨g11, h⟩ := h
  refine q_getR C hP (k := 8) (lay_X12 C.hA) rfl (by decide) g1 g11 (fl_X12_44 C.hA) dX12_readBarn_44 ?_
  refine lv_iload_n hx hb dX12_readBarn_47 rfl (lv_at hl 0 rfl) ?_
  refine lv_iconst (v := (2 : Int32)) hx hb dX12_readBarn_48 (by decide) ?_
  refine lv_iadd hx hb dX12_readBarn_49 ?_
  refine lv_aload_n hx hb dX12_readBarn_50 rfl (lv_at hl 1 rfl) ?_
  refine q_lds C 34 (by decide) rfl rfl dX12_readBarn_51 ?_
  refine lv_bipush (v := (100 : Int32)) hx hb dX12_readBarn_53 (by decide) ?_
  refine q_cali (q_runV C hP (c_X12_perhaps h) (cd_X12_perhaps C.hA) (ini_X12 C.hA) (ml_X12_225 C.hA) (im_X12_perhaps C.hA) (sl_X12_perhaps C.hA) g1 (by decide) rfl hd_X12_perhaps ⟨rfl, rfl⟩ ⟨Nat.le_of_ble_eq_true rfl, Nat.le_of_ble_eq_true rfl⟩ ⟨Nat.le_of_ble_eq_true rfl, Nat.le_of_ble_eq_true rfl⟩ hl.1 rfl (Nat.le_of_ble_eq_true rfl) dX12_readBarn_55) hP (fun v_55 u_55 H locs h hP => ?_)
  obtain ⟨g12, h⟩ := h
  obtain ⟨g13, h⟩ := h
  refine q_iast C hP g12 g13 dX12_readBarn_58 (fun H locs hP => ?_)
  obtain ⟨u_58, eu_58, hP⟩ := Hp.nm hP
  have h := h u_58 eu_58
  refine lv_aload_n hx hb dX12_readBarn_59 rfl (lv_at hl 1 rfl) ?_
  obtain ⟨g14, h⟩ := h
  refine q_getR C hP (k := 8) (lay_X12 C.hA) rfl (by decide) g1 g14 (fl_X12_44 C.hA) dX12_readBarn_60 ?_
  refine lv_iload_n hx hb dX12_readBarn_63 rfl (lv_at hl 0 rfl) ?_
  refine lv_iconst (v := (3 : Int32)) hx hb dX12_readBarn_64 (by decide) ?_
  refine lv_iadd hx hb dX12_readBarn_65 ?_
  refine lv_iconst (v := (0 : Int32)) hx hb dX12_readBarn_66 (by decide) ?_
  obtain ⟨g15, h⟩ := h
  obtain ⟨g16, h⟩ := h
  refine q_iast C hP g15 g16 dX12_readBarn_67 (fun H locs hP => ?_)
  obtain ⟨u_67, eu_67, hP⟩ := Hp.nm hP
  have h := h u_67 eu_67
  refine lv_aload_n hx hb dX12_readBarn_68 rfl (lv_at hl 1 rfl) ?_
  obtain ⟨g17, h⟩ := h
  refine q_getR C hP (k := 8) (lay_X12 C.hA) rfl (by decide) g1 g17 (fl_X12_44 C.hA) dX12_readBarn_69 ?_
  refine lv_iload_n hx hb dX12_readBarn_72 rfl (lv_at hl 0 rfl) ?_
  refine lv_iconst (v := (4 : Int32)) hx hb dX12_readBarn_73 (by decide) ?_
  refine lv_iadd hx hb dX12_readBarn_74 ?_
  refine lv_bipush (v := (99 : Int32)) hx hb dX12_readBarn_75 (by decide) ?_
  obtain ⟨g18, h⟩ := h
  obtain ⟨g19, h⟩ := h
  refine q_iast C hP g18 g19 dX12_readBarn_77 (fun H locs hP => ?_)
  obtain ⟨u_77, eu_77, hP⟩ := Hp.nm hP
  have h := h u_77 eu_77
  refine lv_aload_n hx hb dX12_readBarn_78 rfl (lv_at hl 1 rfl) ?_
  refine q_lds C 35 (by decide) rfl rfl dX12_readBarn_79 ?_
  refine q_cali (q_runV C hP (c_X12_passes h) (cd_X12_passes C.hA) (ini_X12 C.hA) (ml_X12_216 C.hA) (im_X12_passes C.hA) (sl_X12_passes C.hA) g1 (by decide) rfl hd_X12_passes ⟨rfl, rfl⟩ ⟨Nat.le_of_ble_eq_true rfl, Nat.le_of_ble_eq_true rfl⟩ ⟨Nat.le_of_ble_eq_true rfl, Nat.le_of_ble_eq_true rfl⟩ hl.1 rfl (Nat.le_of_ble_eq_true rfl) dX12_readBarn_81) hP (fun v_81 u_81 H locs h hP => ?_)
  refine lv_if_eq (tgt := 126) hx hb dX12_readBarn_84 (by decide) (fun c84 => ?_) (fun c84 => ?_)
  · have h := h.1 c84
    exact b_X12_readBarn_126 C hr hlk h (lv_sub hl [1] rfl) hP
  · have h := h.2 c84
    refine lv_aload_n hx hb dX12_readBarn_87 rfl (lv_at hl 1 rfl) ?_
    obtain ⟨g20, h⟩ := h
    refine q_getR C hP (k := 8) (lay_X12 C.hA) rfl (by decide) g1 g20 (fl_X12_44 C.hA) dX12_readBarn_88 ?_
    refine lv_iload_n hx hb dX12_readBarn_91 rfl (lv_at hl 0 rfl) ?_
    refine lv_iconst (v := (3 : Int32)) hx hb dX12_readBarn_92 (by decide) ?_
    refine lv_iadd hx hb dX12_readBarn_93 ?_
    refine lv_aload_n hx hb dX12_readBarn_94 rfl (lv_at hl 1 rfl) ?_
    refine lv_iconst (v := (0 : Int32)) hx hb dX12_readBarn_95 (by decide) ?_
    refine lv_bipush (v := (99 : Int32)) hx hb dX12_readBarn_96 (by decide) ?_
    refine lv_iconst (v := (-1 : Int32)) hx hb dX12_readBarn_98 (by decide) ?_
    refine q_cali (q_runV C hP (c_X12_readNumber h) (cd_X12_readNumber C.hA) (ini_X12 C.hA) (ml_X12_219 C.hA) (im_X12_readNumber C.hA) (sl_X12_readNumber C.hA) g1 (by decide) rfl hd_X12_readNumber ⟨rfl, rfl⟩ ⟨Nat.le_of_ble_eq_true rfl, Nat.le_of_ble_eq_true rfl⟩ ⟨Nat.le_of_ble_eq_true rfl, Nat.le_of_ble_eq_true rfl⟩ hl.1 rfl (Nat.le_of_ble_eq_true rfl) dX12_readBarn_99) hP (fun v_99 u_99 H locs h hP => ?_)
    obtain ⟨g21, h⟩ := h
    obtain ⟨g22, h⟩ := h
    refine q_iast C hP g21 g22 dX12_readBarn_102 (fun H locs hP => ?_)
    obtain ⟨u_102, eu_102, hP⟩ := Hp.nm hP
    have h := h u_102 eu_102
    refine lv_aload_n hx hb dX12_readBarn_103 rfl (lv_at hl 1 rfl) ?_
    obtain ⟨g23, h⟩ := h
    refine q_getR C hP (k := 8) (lay_X12 C.hA) rfl (by decide) g1 g23 (fl_X12_44 C.hA) dX12_readBarn_104 ?_
    refine lv_iload_n hx hb dX12_readBarn_107 rfl (lv_at hl 0 rfl) ?_
    refine lv_iconst (v := (4 : Int32)) hx hb dX12_readBarn_108 (by decide) ?_
    refine lv_iadd hx hb dX12_readBarn_109 ?_
    refine lv_aload_n hx hb dX12_readBarn_110 rfl (lv_at hl 1 rfl) ?_
    refine lv_iconst (v := (0 : Int32)) hx hb dX12_readBarn_111 (by decide) ?_
    refine lv_bipush (v := (99 : Int32)) hx hb dX12_readBarn_112 (by decide) ?_
    refine lv_aload_n hx hb dX12_readBarn_114 rfl (lv_at hl 1 rfl) ?_
    refine q_getR C hP (k := 8) (lay_X12 C.hA) rfl (by decide) g1 g23 (fl_X12_44 C.hA) dX12_readBarn_115 ?_
    refine lv_iload_n hx hb dX12_readBarn_118 rfl (lv_at hl 0 rfl) ?_
    refine lv_iconst (v := (3 : Int32)) hx hb dX12_readBarn_119 (by decide) ?_
    refine lv_iadd hx hb dX12_readBarn_120 ?_
    obtain ⟨g24, h⟩ := h
    obtain ⟨g25, h⟩ := h
    refine q_iald C hP g24 g25 dX12_readBarn_121 ?_
    refine q_cali (q_runV C hP (c_X12_readNumber h) (cd_X12_readNumber C.hA) (ini_X12 C.hA) (ml_X12_219 C.hA) (im_X12_readNumber C.hA) (sl_X12_readNumber C.hA) g1 (by decide) rfl hd_X12_readNumber ⟨rfl, rfl⟩ ⟨Nat.le_of_ble_eq_true rfl, Nat.le_of_ble_eq_true rfl⟩ ⟨Nat.le_of_ble_eq_true rfl, Nat.le_of_ble_eq_true rfl⟩ hl.1 rfl (Nat.le_of_ble_eq_true rfl) dX12_readBarn_122) hP (fun v_122 u_122 H locs h hP => ?_)
    obtain ⟨g26, h⟩ := h
    refine q_iast C hP g24 g26 dX12_readBarn_125 (fun H locs hP => ?_)
    obtain ⟨u_125, eu_125, hP⟩ := Hp.nm hP
    have h := h u_125 eu_125
    exact b_X12_readBarn_126 C hr hlk h (lv_sub hl [1] rfl) hP
-- X12_readWood
abbrev rm_X12_readWood : Room := { frames := 3, cells := 0, slots := 0, locals := 66 }
theorem hd_X12_readWood : yX12_readWood.cls ≠ "java/lang/invoke/MethodHandle" ∧ yX12_readWood.cls ≠ "java/lang/invoke/VarHandle" ∧ (parseMethodDescriptor yX12_readWood.desc).map (fun d => d.parameters.length) = some 0 := by decide +kernel
def V_X12_readWood_90_B (G : Gx) (Q : Mm → Prop) (k_90 : Nat → Int32 → Int32 → Mm → Prop) (x0 : Nat) (x1 : Int32) (x2 : Int32) (u : Mm) : Prop :=
  (((7 : Int32) ≤ x2 → kd G x0 = 12 ∧ (gR u x0 4) ≠ 0 ∧ kd G (gR u x0 4) = 13 ∧ vp_in (6 : Int32) (ln G (gR u x0 4)) ∧ ∀ u_128 : Mm, u_128 = sI u (gR u x0 4) (6 : Int32).toNatClampNeg ((gI u (gR u x0 4) (6 : Int32).toNatClampNeg) + (1 : Int32)) → Q u_128) ∧ (¬ (7 : Int32) ≤ x2 → kd G x0 = 12 ∧ (gR u x0 9) ≠ 0 ∧ V_X12_readNumber G x0 (0 : Int32) (100 : Int32) (-1 : Int32) u (fun (v_108 : Int32) (u_108 : Mm) => kd G (gR u x0 9) = 13 ∧ vp_in (x1 + x2) (ln G (gR u x0 9)) ∧ ∀ u_111 : Mm, u_111 = sI u_108 (gR u x0 9) (x1 + x2).toNatClampNeg v_108 → ∀ x2_112 : Int32, x2_112 = x2 + (1 : Int32) → k_90 x0 x1 x2_112 u_111)))
def V_X12_readWood_90 (G : Gx) (Q : Mm → Prop) : Nat → (Nat → Int32 → Int32 → Mm → Prop)
  | 0 => fun _ _ _ _ => False
  | n + 1 => fun x0 x1 x2 u => V_X12_readWood_90_B G Q (V_X12_readWood_90 G Q n) x0 x1 x2 u
def V_X12_readWood (G : Gx) (p0 : Nat) (u : Mm) (Q : Mm → Prop) : Prop :=
  kd G p0 = 12 ∧ (gR u p0 4) ≠ 0 ∧ kd G (gR u p0 4) = 13 ∧ vp_in (6 : Int32) (ln G (gR u p0 4)) ∧ ∀ x1_13 : Int32, x1_13 = (((24 : Int32) + (gI u (gR u p0 4) (6 : Int32).toNatClampNeg)) * (7 : Int32)) → (gR u p0 9) ≠ 0 ∧ V_X12_readNumber G p0 (0 : Int32) (40 : Int32) (-1 : Int32) u (fun (v_24 : Int32) (u_24 : Mm) => kd G (gR u p0 9) = 13 ∧ vp_in x1_13 (ln G (gR u p0 9)) ∧ ∀ u_27 : Mm, u_27 = sI u_24 (gR u p0 9) x1_13.toNatClampNeg v_24 → (gR u_27 p0 9) ≠ 0 ∧ V_X12_readNumber G p0 (0 : Int32) (40 : Int32) (-1 : Int32) u_27 (fun (v_40 : Int32) (u_40 : Mm) => kd G (gR u_27 p0 9) = 13 ∧ vp_in (x1_13 + (1 : Int32)) (ln G (gR u_27 p0 9)) ∧ ∀ u_43 : Mm, u_43 = sI u_40 (gR u_27 p0 9) (x1_13 + (1 : Int32)).toNatClampNeg v_40 → (gR u_43 p0 9) ≠ 0 ∧ kd G (gR u_43 p0 9) = 13 ∧ vp_in x1_13 (ln G (gR u_43 p0 9)) ∧ V_X12_readNumber G p0 (0 : Int32) (40 : Int32) (gI u_43 (gR u_43 p0 9) x1_13.toNatClampNeg) u_43 (fun (v_61 : Int32) (u_61 : Mm) => vp_in (x1_13 + (2 : Int32)) (ln G (gR u_43 p0 9)) ∧ ∀ u_64 : Mm, u_64 = sI u_61 (gR u_43 p0 9) (x1_13 + (2 : Int32)).toNatClampNeg v_61 → (gR u_64 p0 9) ≠ 0 ∧ kd G (gR u_64 p0 9) = 13 ∧ vp_in (x1_13 + (1 : Int32)) (ln G (gR u_64 p0 9)) ∧ V_X12_readNumber G p0 (0 : Int32) (40 : Int32) (gI u_64 (gR u_64 p0 9) (x1_13 + (1 : Int32)).toNatClampNeg) u_64 (fun (v_84 : Int32) (u_84 : Mm) => vp_in (x1_13 + (3 : Int32)) (ln G (gR u_64 p0 9)) ∧ ∀ u_87 : Mm, u_87 = sI u_84 (gR u_64 p0 9) (x1_13 + (3 : Int32)).toNatClampNeg v_84 → ∃ n : Nat, V_X12_readWood_90 G Q n p0 x1_13 (4 : Int32) u_87))))
set_option maxHeartbeats 4000000 in
set_option maxRecDepth 100000 in
theorem b_X12_readWood_90 {G : Gx} {Q : Mm → Prop} {p : Program} {l : Launch} {e : Env} {s : State} {m : MethodId} {args : Array Value} {below : List Frame} {meth : Method} {c : Code} (C : Cx G p s m c cX12_readWood RX12 3) (hr : meth.sig.returnType = none) (hlk : meth.locks = false) {k_90 : Nat → Int32 → Int32 → Mm → Prop} (hk_90 : ∀ (x0 : Nat) (x1 : Int32) (x2 : Int32) (u : Mm) (H : Heap) (locs : List Loc) (ls : Array Slot), k_90 x0 x1 x2 u → lv_has ls 3 [(0, .ref x0), (1, .int x1), (2, .int x2)] → Hp G u s H locs → W p l e rm_X12_readWood s m args below meth c H locs 0 0 (MQ below (Ev G Q) args s 0 0 (ag G)) (F0 m 90 ls [])) {x0 : Nat} {x1 : Int32} {x2 : Int32} {u : Mm} {H : Heap} {locs : List Loc} {ls : Array Slot} (h : V_X12_readWood_90_B G Q k_90 x0 x1 x2 u) (hl : lv_has ls 3 [(0, .ref x0), (1, .int x1), (2, .int x2)]) (hP : Hp G u s H locs) : W p l e rm_X12_readWood s m args below meth c H locs 0 0 (MQ below (Ev G Q) args s 0 0 (ag G)) (F0 m 90 ls []) := by
  have hx := C.1
  have hb := C.2.1
  unfold V_X12_readWood_90_B at h
  refine lv_iload_n hx hb dX12_readWood_90 rfl (lv_at hl 2 rfl) ?_
  refine lv_bipush (v := (7 : Int32)) hx hb dX12_readWood_91 (by decide) ?_
  refine lv_icmp_ge (tgt := 118) hx hb dX12_readWood_93 (by decide) (fun c93 => ?_) (fun c93 => ?_)
  · have h := h.1 c93
    refine lv_aload_n hx hb dX12_readWood_118 rfl (lv_at hl 0 rfl) ?_
    obtain ⟨g1, h⟩ := h
    obtain ⟨g2, h⟩ := h
    refine q_getR C hP (k := 4) (lay_X12 C.hA) rfl (by decide) g1 g2 (fl_X12_34 C.hA) dX12_readWood_119 ?_
    refine lv_bipush (v := (6 : Int32)) hx hb dX12_readWood_122 (by decide) ?_
    refine lv_dup2_11 hx hb dX12_readWood_124 rfl rfl ?_
    obtain ⟨g3, h⟩ := h
    obtain ⟨g4, h⟩ := h
    refine q_iald C hP g3 g4 dX12_readWood_125 ?_
    refine lv_iconst (v := (1 : Int32)) hx hb dX12_readWood_126 (by decide) ?_
    refine lv_iadd hx hb dX12_readWood_127 ?_
    refine q_iast C hP g3 g4 dX12_readWood_128 (fun H locs hP => ?_)
    obtain ⟨u_128, eu_128, hP⟩ := Hp.nm hP
    have h := h u_128 eu_128
    exact q_vret C hr hlk hP h (by decide) (by decide) dX12_readWood_129
  · have h := h.2 c93
    refine lv_aload_n hx hb dX12_readWood_96 rfl (lv_at hl 0 rfl) ?_
    obtain ⟨g5, h⟩ := h
    obtain ⟨g6, h⟩ := h
    refine q_getR C hP (k := 9) (lay_X12 C.hA) rfl (by decide) g5 g6 (fl_X12_46 C.hA) dX12_readWood_97 ?_
    refine lv_iload_n hx hb dX12_readWood_100 rfl (lv_at hl 1 rfl) ?_
    refine lv_iload_n hx hb dX12_readWood_101 rfl (lv_at hl 2 rfl) ?_
    refine lv_iadd hx hb dX12_readWood_102 ?_
    refine lv_aload_n hx hb dX12_readWood_103 rfl (lv_at hl 0 rfl) ?_
    refine lv_iconst (v := (0 : Int32)) hx hb dX12_readWood_104 (by decide) ?_
    refine lv_bipush (v := (100 : Int32)) hx hb dX12_readWood_105 (by decide) ?_
    refine lv_iconst (v := (-1 : Int32)) hx hb dX12_readWood_107 (by decide) ?_
    refine q_cali (q_runV C hP (c_X12_readNumber h) (cd_X12_readNumber C.hA) (ini_X12 C.hA) (ml_X12_219 C.hA) (im_X12_readNumber C.hA) (sl_X12_readNumber C.hA) g5 (by decide) rfl hd_X12_readNumber ⟨rfl, rfl⟩ ⟨Nat.le_of_ble_eq_true rfl, Nat.le_of_ble_eq_true rfl⟩ ⟨Nat.le_of_ble_eq_true rfl, Nat.le_of_ble_eq_true rfl⟩ hl.1 rfl (Nat.le_of_ble_eq_true rfl) dX12_readWood_108) hP (fun v_108 u_108 H locs h hP => ?_)
    obtain ⟨g7, h⟩ := h
    obtain ⟨g8, h⟩ := h
    refine q_iast C hP g7 g8 dX12_readWood_111 (fun H locs hP => ?_)
    obtain ⟨u_111, eu_111, hP⟩ := Hp.nm hP
    have h := h u_111 eu_111
    obtain ⟨x2_112, ex2_112⟩ : ∃ y : Int32, y = x2 + (1 : Int32) := ⟨_, rfl⟩
    have h := h x2_112 ex2_112
    refine lv_iinc (v := x2_112) (lv' := [(2, .int x2_112), (0, .ref x0), (1, .int x1)]) hx hb dX12_readWood_112 hl (k := 2) rfl (by rw [ex2_112]; rfl) (by decide) rfl (fun ls hl => ?_)
    refine lv_goto (tgt := 90) hx hb dX12_readWood_115 (by decide) ?_
    exact hk_90 x0 x1 x2_112 u_111 _ _ _ h (lv_sub hl [1, 2, 0] rfl) hP
theorem l_X12_readWood_90 {G : Gx} {Q : Mm → Prop} {p : Program} {l : Launch} {e : Env} {s : State} {m : MethodId} {args : Array Value} {below : List Frame} {meth : Method} {c : Code} (C : Cx G p s m c cX12_readWood RX12 3) (hr : meth.sig.returnType = none) (hlk : meth.locks = false) : ∀ (n : Nat) (x0 : Nat) (x1 : Int32) (x2 : Int32) (u : Mm) (H : Heap) (locs : List Loc) (ls : Array Slot), V_X12_readWood_90 G Q n x0 x1 x2 u → lv_has ls 3 [(0, .ref x0), (1, .int x1), (2, .int x2)] → Hp G u s H locs → W p l e rm_X12_readWood s m args below meth c H locs 0 0 (MQ below (Ev G Q) args s 0 0 (ag G)) (F0 m 90 ls []) := by
  intro n
  induction n with
  | zero => intro x0 x1 x2 u H locs ls h; exact h.elim
  | succ n ih => intro x0 x1 x2 u H locs ls h hl hP; exact b_X12_readWood_90 C hr hlk ih h hl hP
set_option maxHeartbeats 4000000 in
set_option maxRecDepth 100000 in
theorem c_X12_readWood {l : Launch} {G : Gx} {p0 : Nat} {u : Mm} {Q : Mm → Prop} (h : V_X12_readWood G p0 u Q) : Met l yX12_readWood [.code yX12_readWood cX12_readWood 3 none] rm_X12_readWood (va_Pc [.ref p0] (Wd G u)) (Ev G Q) 0 0 (ag G) := by
  refine q_met (by decide) (Nat.le_of_ble_eq_true rfl) ?_
  intro p e s m below meth c ls C hr hlk hnm hl hP
  have hl : lv_has ls 3 [(0, .ref p0)] := hl
  generalize ([.ref p0] : List Value).toArray = args
  have hx := C.1
  have hb := C.2.1
  unfold V_X12_readWood at h
  refine lv_bipush (v := (24 : Int32)) hx hb dX12_readWood_0 (by decide) ?_
  refine lv_aload_n hx hb dX12_readWood_2 rfl (lv_at hl 0 rfl) ?_
  obtain ⟨g1, h⟩ := h
  obtain ⟨g2, h⟩ := h
  refine q_getR C hP (k := 4) (lay_X12 C.hA) rfl (by decide) g1 g2 (fl_X12_34 C.hA) dX12_readWood_3 ?_
  refine lv_bipush (v := (6 : Int32)) hx hb dX12_readWood_6 (by decide) ?_
  obtain ⟨g3, h⟩ := h
  obtain ⟨g4, h⟩ := h
  refine q_iald C hP g3 g4 dX12_readWood_8 ?_
  refine lv_iadd hx hb dX12_readWood_9 ?_
  refine lv_bipush (v := (7 : Int32)) hx hb dX12_readWood_10 (by decide) ?_
  refine lv_imul hx hb dX12_readWood_12 ?_
  refine lv_topi (fun x1_13 ex1_13 => ?_)
  have h := h x1_13 ex1_13
  refine lv_istore_n (lv' := [(1, .int x1_13), (0, .ref p0)]) hx hb dX12_readWood_13 rfl hl (by decide) rfl (fun ls hl => ?_)
  refine lv_aload_n hx hb dX12_readWood_14 rfl (lv_at hl 1 rfl) ?_
  obtain ⟨g5, h⟩ := h
  refine q_getR C hP (k := 9) (lay_X12 C.hA) rfl (by decide) g1 g5 (fl_X12_46 C.hA) dX12_readWood_15 ?_
  refine lv_iload_n hx hb dX12_readWood_18 rfl (lv_at hl 0 rfl) ?_
  refine lv_aload_n hx hb dX12_readWood_19 rfl (lv_at hl 1 rfl) ?_
  refine lv_iconst (v := (0 : Int32)) hx hb dX12_readWood_20 (by decide) ?_
  refine lv_bipush (v := (40 : Int32)) hx hb dX12_readWood_21 (by decide) ?_
  refine lv_iconst (v := (-1 : Int32)) hx hb dX12_readWood_23 (by decide) ?_
  refine q_cali (q_runV C hP (c_X12_readNumber h) (cd_X12_readNumber C.hA) (ini_X12 C.hA) (ml_X12_219 C.hA) (im_X12_readNumber C.hA) (sl_X12_readNumber C.hA) g1 (by decide) rfl hd_X12_readNumber ⟨rfl, rfl⟩ ⟨Nat.le_of_ble_eq_true rfl, Nat.le_of_ble_eq_true rfl⟩ ⟨Nat.le_of_ble_eq_true rfl, Nat.le_of_ble_eq_true rfl⟩ hl.1 rfl (Nat.le_of_ble_eq_true rfl) dX12_readWood_24) hP (fun v_24 u_24 H locs h hP => ?_)
  obtain ⟨g6, h⟩ := h
  obtain ⟨g7, h⟩ := h
  refine q_iast C hP g6 g7 dX12_readWood_27 (fun H locs hP => ?_)
  obtain ⟨u_27, eu_27, hP⟩ := Hp.nm hP
  have h := h u_27 eu_27
  refine lv_aload_n hx hb dX12_readWood_28 rfl (lv_at hl 1 rfl) ?_
  obtain ⟨g8, h⟩ := h
  refine q_getR C hP (k := 9) (lay_X12 C.hA) rfl (by decide) g1 g8 (fl_X12_46 C.hA) dX12_readWood_29 ?_
  refine lv_iload_n hx hb dX12_readWood_32 rfl (lv_at hl 0 rfl) ?_
  refine lv_iconst (v := (1 : Int32)) hx hb dX12_readWood_33 (by decide) ?_
  refine lv_iadd hx hb dX12_readWood_34 ?_
  refine lv_aload_n hx hb dX12_readWood_35 rfl (lv_at hl 1 rfl) ?_
  refine lv_iconst (v := (0 : Int32)) hx hb dX12_readWood_36 (by decide) ?_
  refine lv_bipush (v := (40 : Int32)) hx hb dX12_readWood_37 (by decide) ?_
  refine lv_iconst (v := (-1 : Int32)) hx hb dX12_readWood_39 (by decide) ?_
  refine q_cali (q_runV C hP (c_X12_readNumber h) (cd_X12_readNumber C.hA) (ini_X12 C.hA) (ml_X12_219 C.hA) (im_X12_readNumber C.hA) (sl_X12_readNumber C.hA) g1 (by decide) rfl hd_X12_readNumber ⟨rfl, rfl⟩ ⟨Nat.le_of_ble_eq_true rfl, Nat.le_of_ble_eq_true rfl⟩ ⟨Nat.le_of_ble_eq_true rfl, Nat.le_of_ble_eq_true rfl⟩ hl.1 rfl (Nat.le_of_ble_eq_true rfl) dX12_readWood_40) hP (fun v_40 u_40 H locs h hP => ?_)
  obtain ⟨g9, h⟩ := h
  obtain ⟨g10, h⟩ := h
  refine q_iast C hP g9 g10 dX12_readWood_43 (fun H locs hP => ?_)
  obtain ⟨u_43, eu_43, hP⟩ := Hp.nm hP
  have h := h u_43 eu_43
  refine lv_aload_n hx hb dX12_readWood_44 rfl (lv_at hl 1 rfl) ?_
  obtain ⟨g11, h⟩ := h
  refine q_getR C hP (k := 9) (lay_X12 C.hA) rfl (by decide) g1 g11 (fl_X12_46 C.hA) dX12_readWood_45 ?_
  refine lv_iload_n hx hb dX12_readWood_48 rfl (lv_at hl 0 rfl) ?_
  refine lv_iconst (v := (2 : Int32)) hx hb dX12_readWood_49 (by decide) ?_
  refine lv_iadd hx hb dX12_readWood_50 ?_
  refine lv_aload_n hx hb dX12_readWood_51 rfl (lv_at hl 1 rfl) ?_
  refine lv_iconst (v := (0 : Int32)) hx hb dX12_readWood_52 (by decide) ?_
  refine lv_bipush (v := (40 : Int32)) hx hb dX12_readWood_53 (by decide) ?_
  refine lv_aload_n hx hb dX12_readWood_55 rfl (lv_at hl 1 rfl) ?_
  refine q_getR C hP (k := 9) (lay_X12 C.hA) rfl (by decide) g1 g11 (fl_X12_46 C.hA) dX12_readWood_56 ?_
  refine lv_iload_n hx hb dX12_readWood_59 rfl (lv_at hl 0 rfl) ?_
  obtain ⟨g12, h⟩ := h
  obtain ⟨g13, h⟩ := h
  refine q_iald C hP g12 g13 dX12_readWood_60 ?_
  refine q_cali (q_runV C hP (c_X12_readNumber h) (cd_X12_readNumber C.hA) (ini_X12 C.hA) (ml_X12_219 C.hA) (im_X12_readNumber C.hA) (sl_X12_readNumber C.hA) g1 (by decide) rfl hd_X12_readNumber ⟨rfl, rfl⟩ ⟨Nat.le_of_ble_eq_true rfl, Nat.le_of_ble_eq_true rfl⟩ ⟨Nat.le_of_ble_eq_true rfl, Nat.le_of_ble_eq_true rfl⟩ hl.1 rfl (Nat.le_of_ble_eq_true rfl) dX12_readWood_61) hP (fun v_61 u_61 H locs h hP => ?_)
  obtain ⟨g14, h⟩ := h
  refine q_iast C hP g12 g14 dX12_readWood_64 (fun H locs hP => ?_)
  obtain ⟨u_64, eu_64, hP⟩ := Hp.nm hP
  have h := h u_64 eu_64
  refine lv_aload_n hx hb dX12_readWood_65 rfl (lv_at hl 1 rfl) ?_
  obtain ⟨g15, h⟩ := h
  refine q_getR C hP (k := 9) (lay_X12 C.hA) rfl (by decide) g1 g15 (fl_X12_46 C.hA) dX12_readWood_66 ?_
  refine lv_iload_n hx hb dX12_readWood_69 rfl (lv_at hl 0 rfl) ?_
  refine lv_iconst (v := (3 : Int32)) hx hb dX12_readWood_70 (by decide) ?_
  refine lv_iadd hx hb dX12_readWood_71 ?_
  refine lv_aload_n hx hb dX12_readWood_72 rfl (lv_at hl 1 rfl) ?_
  refine lv_iconst (v := (0 : Int32)) hx hb dX12_readWood_73 (by decide) ?_
  refine lv_bipush (v := (40 : Int32)) hx hb dX12_readWood_74 (by decide) ?_
  refine lv_aload_n hx hb dX12_readWood_76 rfl (lv_at hl 1 rfl) ?_
  refine q_getR C hP (k := 9) (lay_X12 C.hA) rfl (by decide) g1 g15 (fl_X12_46 C.hA) dX12_readWood_77 ?_
  refine lv_iload_n hx hb dX12_readWood_80 rfl (lv_at hl 0 rfl) ?_
  refine lv_iconst (v := (1 : Int32)) hx hb dX12_readWood_81 (by decide) ?_
  refine lv_iadd hx hb dX12_readWood_82 ?_
  obtain ⟨g16, h⟩ := h
  obtain ⟨g17, h⟩ := h
  refine q_iald C hP g16 g17 dX12_readWood_83 ?_
  refine q_cali (q_runV C hP (c_X12_readNumber h) (cd_X12_readNumber C.hA) (ini_X12 C.hA) (ml_X12_219 C.hA) (im_X12_readNumber C.hA) (sl_X12_readNumber C.hA) g1 (by decide) rfl hd_X12_readNumber ⟨rfl, rfl⟩ ⟨Nat.le_of_ble_eq_true rfl, Nat.le_of_ble_eq_true rfl⟩ ⟨Nat.le_of_ble_eq_true rfl, Nat.le_of_ble_eq_true rfl⟩ hl.1 rfl (Nat.le_of_ble_eq_true rfl) dX12_readWood_84) hP (fun v_84 u_84 H locs h hP => ?_)
  obtain ⟨g18, h⟩ := h
  refine q_iast C hP g16 g18 dX12_readWood_87 (fun H locs hP => ?_)
  obtain ⟨u_87, eu_87, hP⟩ := Hp.nm hP
  have h := h u_87 eu_87
  refine lv_iconst (v := (4 : Int32)) hx hb dX12_readWood_88 (by decide) ?_
  refine lv_istore_n (lv' := [(2, .int (4 : Int32)), (1, .int x1_13), (0, .ref p0)]) hx hb dX12_readWood_89 rfl hl (by decide) rfl (fun ls hl => ?_)
  obtain ⟨n, h⟩ := h
  exact l_X12_readWood_90 C hr hlk n p0 x1_13 (4 : Int32) u_87 _ _ _ h (lv_sub hl [2, 1, 0] rfl) hP
-- X12_readLine
abbrev rm_X12_readLine : Room := { frames := 8, cells := 0, slots := 0, locals := 174 }
theorem hd_X12_readLine : yX12_readLine.cls ≠ "java/lang/invoke/MethodHandle" ∧ yX12_readLine.cls ≠ "java/lang/invoke/VarHandle" ∧ (parseMethodDescriptor yX12_readLine.desc).map (fun d => d.parameters.length) = some 1 := by decide +kernel
def V_X12_readLine_186 (G : Gx) (Q : Int32 → Mm → Prop) (x0 : Nat) (x1 : Int32) (x2 : Int32) (u : Mm) : Prop :=
  kd G x0 = 12 ∧ V_X12_semi G x0 u (fun (u_187 : Mm) => Q (x1 ||| (shl (1 : Int32) x2)) u_187)
def V_X12_readLine_95 (G : Gx) (Q : Int32 → Mm → Prop) (x0 : Nat) (x1 : Int32) (x2 : Int32) (u : Mm) : Prop :=
  kd G x0 = 12 ∧ (((gI u x0 19) = 0 → V_X12_stepOn G x0 u (fun (u_105 : Mm) => (((2 : Int32) ≤ x2 → ((x2 = (2 : Int32) → V_X12_readBarn G x0 u_105 (fun (u_127 : Mm) => V_X12_readLine_186 G Q x0 x1 x2 u_127)) ∧ (¬ x2 = (2 : Int32) → ((x2 = (3 : Int32) → V_X12_readWood G x0 u_105 (fun (u_139 : Mm) => V_X12_readLine_186 G Q x0 x1 x2 u_139)) ∧ (¬ x2 = (3 : Int32) → ((x2 = (4 : Int32) → (gR u_105 x0 5) ≠ 0 ∧ V_X12_readNumber G x0 (0 : Int32) (1000 : Int32) (-1 : Int32) u_105 (fun (v_162 : Int32) (u_162 : Mm) => kd G (gR u_105 x0 5) = 13 ∧ vp_in (6 : Int32) (ln G (gR u_105 x0 5)) ∧ ∀ u_165 : Mm, u_165 = sI u_162 (gR u_105 x0 5) (6 : Int32).toNatClampNeg v_162 → V_X12_readLine_186 G Q x0 x1 x2 u_165)) ∧ (¬ x2 = (4 : Int32) → (gR u_105 x0 6) ≠ 0 ∧ V_X12_readNumber G x0 (50 : Int32) (150 : Int32) (-1 : Int32) u_105 (fun (v_182 : Int32) (u_182 : Mm) => kd G (gR u_105 x0 6) = 13 ∧ vp_in (6 : Int32) (ln G (gR u_105 x0 6)) ∧ ∀ u_185 : Mm, u_185 = sI u_182 (gR u_105 x0 6) (6 : Int32).toNatClampNeg v_182 → V_X12_readLine_186 G Q x0 x1 x2 u_185)))))))) ∧ (¬ (2 : Int32) ≤ x2 → V_X12_readWall G x0 x2 u_105 (fun (u_115 : Mm) => V_X12_readLine_186 G Q x0 x1 x2 u_115))))) ∧ (¬ (gI u x0 19) = 0 → Q x1 u))
def V_X12_readLine_76 (G : Gx) (Q : Int32 → Mm → Prop) (x0 : Nat) (x1 : Int32) (x2 : Int32) (u : Mm) : Prop :=
  ((x2 ≤ (3 : Int32) → V_X12_readLine_95 G Q x0 x1 x2 u) ∧ (¬ x2 ≤ (3 : Int32) → ((((shr x1 x2) &&& (1 : Int32)) = (1 : Int32) → kd G x0 = 12 ∧ V_X12_wrong G x0 (4 : Int32) u (fun (u_92 : Mm) => V_X12_readLine_95 G Q x0 x1 x2 u_92)) ∧ (¬ ((shr x1 x2) &&& (1 : Int32)) = (1 : Int32) → V_X12_readLine_95 G Q x0 x1 x2 u))))
def V_X12_readLine_68 (G : Gx) (Q : Int32 → Mm → Prop) (x0 : Nat) (x1 : Int32) (x2 : Int32) (u : Mm) : Prop :=
  kd G x0 = 12 ∧ V_X12_wrong G x0 (2 : Int32) u (fun (u_70 : Mm) => V_X12_readLine_95 G Q x0 x1 x2 u_70)
def V_X12_readLine_52 (G : Gx) (Q : Int32 → Mm → Prop) (x0 : Nat) (x1 : Int32) (x2 : Int32) (u : Mm) : Prop :=
  ((x2 = (3 : Int32) → kd G x0 = 12 ∧ (gR u x0 4) ≠ 0 ∧ kd G (gR u x0 4) = 13 ∧ vp_in (6 : Int32) (ln G (gR u x0 4)) ∧ (((gI u (gR u x0 4) (6 : Int32).toNatClampNeg) = (4 : Int32) → V_X12_readLine_68 G Q x0 x1 x2 u) ∧ (¬ (gI u (gR u x0 4) (6 : Int32).toNatClampNeg) = (4 : Int32) → V_X12_readLine_76 G Q x0 x1 x2 u))) ∧ (¬ x2 = (3 : Int32) → V_X12_readLine_76 G Q x0 x1 x2 u))
def V_X12_readLine_35 (G : Gx) (Q : Int32 → Mm → Prop) (x0 : Nat) (x1 : Int32) (x2 : Int32) (u : Mm) : Prop :=
  ((x2 = (2 : Int32) → kd G x0 = 12 ∧ (gR u x0 3) ≠ 0 ∧ kd G (gR u x0 3) = 13 ∧ vp_in (6 : Int32) (ln G (gR u x0 3)) ∧ (((gI u (gR u x0 3) (6 : Int32).toNatClampNeg) = (6 : Int32) → V_X12_readLine_68 G Q x0 x1 x2 u) ∧ (¬ (gI u (gR u x0 3) (6 : Int32).toNatClampNeg) = (6 : Int32) → V_X12_readLine_52 G Q x0 x1 x2 u))) ∧ (¬ x2 = (2 : Int32) → V_X12_readLine_52 G Q x0 x1 x2 u))
def V_X12_readLine (G : Gx) (p0 : Nat) (p1 : Int32) (u : Mm) (Q : Int32 → Mm → Prop) : Prop :=
  kd G p0 = 12 ∧ V_X12_which G p0 u (fun (v_1 : Int32) (u_1 : Mm) => ((v_1 = (-1 : Int32) → V_X12_wrong G p0 (1 : Int32) u_1 (fun (u_12 : Mm) => V_X12_readLine_95 G Q p0 p1 v_1 u_12)) ∧ (¬ v_1 = (-1 : Int32) → (((2 : Int32) ≤ v_1 → V_X12_readLine_35 G Q p0 p1 v_1 u_1) ∧ (¬ (2 : Int32) ≤ v_1 → (gR u_1 p0 2) ≠ 0 ∧ kd G (gR u_1 p0 2) = 13 ∧ vp_in (6 : Int32) (ln G (gR u_1 p0 2)) ∧ (((gI u_1 (gR u_1 p0 2) (6 : Int32).toNatClampNeg) = (6 : Int32) → V_X12_readLine_68 G Q p0 p1 v_1 u_1) ∧ (¬ (gI u_1 (gR u_1 p0 2) (6 : Int32).toNatClampNeg) = (6 : Int32) → V_X12_readLine_35 G Q p0 p1 v_1 u_1)))))))
set_option maxHeartbeats 4000000 in
set_option maxRecDepth 100000 in
theorem b_X12_readLine_186 {G : Gx} {Q : Int32 → Mm → Prop} {p : Program} {l : Launch} {e : Env} {s : State} {m : MethodId} {args : Array Value} {below : List Frame} {meth : Method} {c : Code} (C : Cx G p s m c cX12_readLine RX12 3) (hr : meth.sig.returnType = (some .int)) (hlk : meth.locks = false) {x0 : Nat} {x1 : Int32} {x2 : Int32} {u : Mm} {H : Heap} {locs : List Loc} {ls : Array Slot} (h : V_X12_readLine_186 G Q x0 x1 x2 u) (hl : lv_has ls 3 [(0, .ref x0), (1, .int x1), (2, .int x2)]) (hP : Hp G u s H locs) : W p l e rm_X12_readLine s m args below meth c H locs 0 0 (MQ below (Ei G Q) args s 0 0 (ag G)) (F0 m 186 ls []) := by
  have hx := C.1
  have hb := C.2.1
  unfold V_X12_readLine_186 at h
  refine lv_aload_n hx hb dX12_readLine_186 rfl (lv_at hl 0 rfl) ?_
  obtain ⟨g1, h⟩ := h
  refine q_calv (q_runV C hP (c_X12_semi h) (cd_X12_semi C.hA) (ini_X12 C.hA) (ml_X12_243 C.hA) (im_X12_semi C.hA) (sl_X12_semi C.hA) g1 (by decide) rfl hd_X12_semi ⟨rfl, rfl⟩ ⟨Nat.le_of_ble_eq_true rfl, Nat.le_of_ble_eq_true rfl⟩ ⟨Nat.le_of_ble_eq_true rfl, Nat.le_of_ble_eq_true rfl⟩ hl.1 rfl (Nat.le_of_ble_eq_true rfl) dX12_readLine_187) hP (fun u_187 H locs h hP => ?_)
  refine lv_iload_n hx hb dX12_readLine_190 rfl (lv_at hl 1 rfl) ?_
  refine lv_iconst (v := (1 : Int32)) hx hb dX12_readLine_191 (by decide) ?_
  refine lv_iload_n hx hb dX12_readLine_192 rfl (lv_at hl 2 rfl) ?_
  refine lv_ishl hx hb dX12_readLine_193 ?_
  refine lv_ior hx hb dX12_readLine_194 ?_
  exact q_iret C hr hlk hP h (by decide) (by decide) dX12_readLine_195
set_option maxHeartbeats 4000000 in
set_option maxRecDepth 100000 in
theorem b_X12_readLine_95 {G : Gx} {Q : Int32 → Mm → Prop} {p : Program} {l : Launch} {e : Env} {s : State} {m : MethodId} {args : Array Value} {below : List Frame} {meth : Method} {c : Code} (C : Cx G p s m c cX12_readLine RX12 3) (hr : meth.sig.returnType = (some .int)) (hlk : meth.locks = false) {x0 : Nat} {x1 : Int32} {x2 : Int32} {u : Mm} {H : Heap} {locs : List Loc} {ls : Array Slot} (h : V_X12_readLine_95 G Q x0 x1 x2 u) (hl : lv_has ls 3 [(0, .ref x0), (1, .int x1), (2, .int x2)]) (hP : Hp G u s H locs) : W p l e rm_X12_readLine s m args below meth c H locs 0 0 (MQ below (Ei G Q) args s 0 0 (ag G)) (F0 m 95 ls []) := by
  have hx := C.1
  have hb := C.2.1
  unfold V_X12_readLine_95 at h
  refine lv_aload_n hx hb dX12_readLine_95 rfl (lv_at hl 0 rfl) ?_
  obtain ⟨g1, h⟩ := h
  refine q_getI C hP (k := 19) (lay_X12 C.hA) rfl (by decide) g1 (fl_X12_192 C.hA) dX12_readLine_96 ?_
  refine lv_if_eq (tgt := 104) hx hb dX12_readLine_99 (by decide) (fun c99 => ?_) (fun c99 => ?_)
  · have h := h.1 c99
    refine lv_aload_n hx hb dX12_readLine_104 rfl (lv_at hl 0 rfl) ?_
    refine q_calv (q_runV C hP (c_X12_stepOn h) (cd_X12_stepOn C.hA) (ini_X12 C.hA) (ml_X12_210 C.hA) (im_X12_stepOn C.hA) (sl_X12_stepOn C.hA) g1 (by decide) rfl hd_X12_stepOn ⟨rfl, rfl⟩ ⟨Nat.le_of_ble_eq_true rfl, Nat.le_of_ble_eq_true rfl⟩ ⟨Nat.le_of_ble_eq_true rfl, Nat.le_of_ble_eq_true rfl⟩ hl.1 rfl (Nat.le_of_ble_eq_true rfl) dX12_readLine_105) hP (fun u_105 H locs h hP => ?_)
    refine lv_iload_n hx hb dX12_readLine_108 rfl (lv_at hl 2 rfl) ?_
    refine lv_iconst (v := (2 : Int32)) hx hb dX12_readLine_109 (by decide) ?_
    refine lv_icmp_ge (tgt := 121) hx hb dX12_readLine_110 (by decide) (fun c110 => ?_) (fun c110 => ?_)
    · have h := h.1 c110
      refine lv_iload_n hx hb dX12_readLine_121 rfl (lv_at hl 2 rfl) ?_
      refine lv_iconst (v := (2 : Int32)) hx hb dX12_readLine_122 (by decide) ?_
      refine lv_icmp_ne (tgt := 133) hx hb dX12_readLine_123 (by decide) (fun c123 => ?_) (fun c123 => ?_)
      · have h := h.2 c123
        refine lv_iload_n hx hb dX12_readLine_133 rfl (lv_at hl 2 rfl) ?_
        refine lv_iconst (v := (3 : Int32)) hx hb dX12_readLine_134 (by decide) ?_
        refine lv_icmp_ne (tgt := 145) hx hb dX12_readLine_135 (by decide) (fun c135 => ?_) (fun c135 => ?_)
        · have h := h.2 c135
          refine lv_iload_n hx hb dX12_readLine_145 rfl (lv_at hl 2 rfl) ?_
          refine lv_iconst (v := (4 : Int32)) hx hb dX12_readLine_146 (by decide) ?_
          refine lv_icmp_ne (tgt := 169) hx hb dX12_readLine_147 (by decide) (fun c147 => ?_) (fun c147 => ?_)
          · have h := h.2 c147
            refine lv_aload_n hx hb dX12_readLine_169 rfl (lv_at hl 0 rfl) ?_
            obtain ⟨g2, h⟩ := h
            refine q_getR C hP (k := 6) (lay_X12 C.hA) rfl (by decide) g1 g2 (fl_X12_39 C.hA) dX12_readLine_170 ?_
            refine lv_bipush (v := (6 : Int32)) hx hb dX12_readLine_173 (by decide) ?_
            refine lv_aload_n hx hb dX12_readLine_175 rfl (lv_at hl 0 rfl) ?_
            refine lv_bipush (v := (50 : Int32)) hx hb dX12_readLine_176 (by decide) ?_
            refine lv_sipush (v := (150 : Int32)) hx hb dX12_readLine_178 (by decide) ?_
            refine lv_iconst (v := (-1 : Int32)) hx hb dX12_readLine_181 (by decide) ?_
            refine q_cali (q_runV C hP (c_X12_readNumber h) (cd_X12_readNumber C.hA) (ini_X12 C.hA) (ml_X12_219 C.hA) (im_X12_readNumber C.hA) (sl_X12_readNumber C.hA) g1 (by decide) rfl hd_X12_readNumber ⟨rfl, rfl⟩ ⟨Nat.le_of_ble_eq_true rfl, Nat.le_of_ble_eq_true rfl⟩ ⟨Nat.le_of_ble_eq_true rfl, Nat.le_of_ble_eq_true rfl⟩ hl.1 rfl (Nat.le_of_ble_eq_true rfl) dX12_readLine_182) hP (fun v_182 u_182 H locs h hP => ?_)
            obtain ⟨g3, h⟩ := h
            obtain ⟨g4, h⟩ := h
            refine q_iast C hP g3 g4 dX12_readLine_185 (fun H locs hP => ?_)
            obtain ⟨u_185, eu_185, hP⟩ := Hp.nm hP
            have h := h u_185 eu_185
            exact b_X12_readLine_186 C hr hlk h (lv_sub hl [0, 1, 2] rfl) hP
          · have h := h.1 c147
            refine lv_aload_n hx hb dX12_readLine_150 rfl (lv_at hl 0 rfl) ?_
            obtain ⟨g5, h⟩ := h
            refine q_getR C hP (k := 5) (lay_X12 C.hA) rfl (by decide) g1 g5 (fl_X12_37 C.hA) dX12_readLine_151 ?_
            refine lv_bipush (v := (6 : Int32)) hx hb dX12_readLine_154 (by decide) ?_
            refine lv_aload_n hx hb dX12_readLine_156 rfl (lv_at hl 0 rfl) ?_
            refine lv_iconst (v := (0 : Int32)) hx hb dX12_readLine_157 (by decide) ?_
            refine lv_sipush (v := (1000 : Int32)) hx hb dX12_readLine_158 (by decide) ?_
            refine lv_iconst (v := (-1 : Int32)) hx hb dX12_readLine_161 (by decide) ?_
            refine q_cali (q_runV C hP (c_X12_readNumber h) (cd_X12_readNumber C.hA) (ini_X12 C.hA) (ml_X12_219 C.hA) (im_X12_readNumber C.hA) (sl_X12_readNumber C.hA) g1 (by decide) rfl hd_X12_readNumber ⟨rfl, rfl⟩ ⟨Nat.le_of_ble_eq_true rfl, Nat.le_of_ble_eq_true rfl⟩ ⟨Nat.le_of_ble_eq_true rfl, Nat.le_of_ble_eq_true rfl⟩ hl.1 rfl (Nat.le_of_ble_eq_true rfl) dX12_readLine_162) hP (fun v_162 u_162 H locs h hP => ?_)
            obtain ⟨g6, h⟩ := h
            obtain ⟨g7, h⟩ := h
            refine q_iast C hP g6 g7 dX12_readLine_165 (fun H locs hP => ?_)
            obtain ⟨u_165, eu_165, hP⟩ := Hp.nm hP
            have h := h u_165 eu_165
            refine lv_goto (tgt := 186) hx hb dX12_readLine_166 (by decide) ?_
            exact b_X12_readLine_186 C hr hlk h (lv_sub hl [0, 1, 2] rfl) hP
        · have h := h.1 c135
          refine lv_aload_n hx hb dX12_readLine_138 rfl (lv_at hl 0 rfl) ?_
          refine q_calv (q_runV C hP (c_X12_readWood h) (cd_X12_readWood C.hA) (ini_X12 C.hA) (ml_X12_240 C.hA) (im_X12_readWood C.hA) (sl_X12_readWood C.hA) g1 (by decide) rfl hd_X12_readWood ⟨rfl, rfl⟩ ⟨Nat.le_of_ble_eq_true rfl, Nat.le_of_ble_eq_true rfl⟩ ⟨Nat.le_of_ble_eq_true rfl, Nat.le_of_ble_eq_true rfl⟩ hl.1 rfl (Nat.le_of_ble_eq_true rfl) dX12_readLine_139) hP (fun u_139 H locs h hP => ?_)
          refine lv_goto (tgt := 186) hx hb dX12_readLine_142 (by decide) ?_
          exact b_X12_readLine_186 C hr hlk h (lv_sub hl [0, 1, 2] rfl) hP
      · have h := h.1 c123
        refine lv_aload_n hx hb dX12_readLine_126 rfl (lv_at hl 0 rfl) ?_
        refine q_calv (q_runV C hP (c_X12_readBarn h) (cd_X12_readBarn C.hA) (ini_X12 C.hA) (ml_X12_237 C.hA) (im_X12_readBarn C.hA) (sl_X12_readBarn C.hA) g1 (by decide) rfl hd_X12_readBarn ⟨rfl, rfl⟩ ⟨Nat.le_of_ble_eq_true rfl, Nat.le_of_ble_eq_true rfl⟩ ⟨Nat.le_of_ble_eq_true rfl, Nat.le_of_ble_eq_true rfl⟩ hl.1 rfl (Nat.le_of_ble_eq_true rfl) dX12_readLine_127) hP (fun u_127 H locs h hP => ?_)
        refine lv_goto (tgt := 186) hx hb dX12_readLine_130 (by decide) ?_
        exact b_X12_readLine_186 C hr hlk h (lv_sub hl [0, 1, 2] rfl) hP
    · have h := h.2 c110
      refine lv_aload_n hx hb dX12_readLine_113 rfl (lv_at hl 0 rfl) ?_
      refine lv_iload_n hx hb dX12_readLine_114 rfl (lv_at hl 2 rfl) ?_
      refine q_calv (q_runV C hP (c_X12_readWall h) (cd_X12_readWall C.hA) (ini_X12 C.hA) (ml_X12_234 C.hA) (im_X12_readWall C.hA) (sl_X12_readWall C.hA) g1 (by decide) rfl hd_X12_readWall ⟨rfl, rfl⟩ ⟨Nat.le_of_ble_eq_true rfl, Nat.le_of_ble_eq_true rfl⟩ ⟨Nat.le_of_ble_eq_true rfl, Nat.le_of_ble_eq_true rfl⟩ hl.1 rfl (Nat.le_of_ble_eq_true rfl) dX12_readLine_115) hP (fun u_115 H locs h hP => ?_)
      refine lv_goto (tgt := 186) hx hb dX12_readLine_118 (by decide) ?_
      exact b_X12_readLine_186 C hr hlk h (lv_sub hl [0, 1, 2] rfl) hP
  · have h := h.2 c99
    refine lv_iload_n hx hb dX12_readLine_102 rfl (lv_at hl 1 rfl) ?_
    exact q_iret C hr hlk hP h (by decide) (by decide) dX12_readLine_103
set_option maxHeartbeats 4000000 in
set_option maxRecDepth 100000 in
theorem b_X12_readLine_76 {G : Gx} {Q : Int32 → Mm → Prop} {p : Program} {l : Launch} {e : Env} {s : State} {m : MethodId} {args : Array Value} {below : List Frame} {meth : Method} {c : Code} (C : Cx G p s m c cX12_readLine RX12 3) (hr : meth.sig.returnType = (some .int)) (hlk : meth.locks = false) {x0 : Nat} {x1 : Int32} {x2 : Int32} {u : Mm} {H : Heap} {locs : List Loc} {ls : Array Slot} (h : V_X12_readLine_76 G Q x0 x1 x2 u) (hl : lv_has ls 3 [(0, .ref x0), (1, .int x1), (2, .int x2)]) (hP : Hp G u s H locs) : W p l e rm_X12_readLine s m args below meth c H locs 0 0 (MQ below (Ei G Q) args s 0 0 (ag G)) (F0 m 76 ls []) := by
  have hx := C.1
  have hb := C.2.1
  unfold V_X12_readLine_76 at h
  refine lv_iload_n hx hb dX12_readLine_76 rfl (lv_at hl 2 rfl) ?_
  refine lv_iconst (v := (3 : Int32)) hx hb dX12_readLine_77 (by decide) ?_
  refine lv_icmp_le (tgt := 95) hx hb dX12_readLine_78 (by decide) (fun c78 => ?_) (fun c78 => ?_)
  · have h := h.1 c78
    exact b_X12_readLine_95 C hr hlk h (lv_sub hl [0, 1, 2] rfl) hP
  · have h := h.2 c78
    refine lv_iload_n hx hb dX12_readLine_81 rfl (lv_at hl 1 rfl) ?_
    refine lv_iload_n hx hb dX12_readLine_82 rfl (lv_at hl 2 rfl) ?_
    refine lv_ishr hx hb dX12_readLine_83 ?_
    refine lv_iconst (v := (1 : Int32)) hx hb dX12_readLine_84 (by decide) ?_
    refine lv_iand hx hb dX12_readLine_85 ?_
    refine lv_iconst (v := (1 : Int32)) hx hb dX12_readLine_86 (by decide) ?_
    refine lv_icmp_ne (tgt := 95) hx hb dX12_readLine_87 (by decide) (fun c87 => ?_) (fun c87 => ?_)
    · have h := h.2 c87
      exact b_X12_readLine_95 C hr hlk h (lv_sub hl [0, 1, 2] rfl) hP
    · have h := h.1 c87
      refine lv_aload_n hx hb dX12_readLine_90 rfl (lv_at hl 0 rfl) ?_
      refine lv_iconst (v := (4 : Int32)) hx hb dX12_readLine_91 (by decide) ?_
      obtain ⟨g1, h⟩ := h
      refine q_calv (q_runV C hP (c_X12_wrong h) (cd_X12_wrong C.hA) (ini_X12 C.hA) (ml_X12_213 C.hA) (im_X12_wrong C.hA) (sl_X12_wrong C.hA) g1 (by decide) rfl hd_X12_wrong ⟨rfl, rfl⟩ ⟨Nat.le_of_ble_eq_true rfl, Nat.le_of_ble_eq_true rfl⟩ ⟨Nat.le_of_ble_eq_true rfl, Nat.le_of_ble_eq_true rfl⟩ hl.1 rfl (Nat.le_of_ble_eq_true rfl) dX12_readLine_92) hP (fun u_92 H locs h hP => ?_)
      exact b_X12_readLine_95 C hr hlk h (lv_sub hl [0, 1, 2] rfl) hP
set_option maxHeartbeats 4000000 in
set_option maxRecDepth 100000 in
theorem b_X12_readLine_68 {G : Gx} {Q : Int32 → Mm → Prop} {p : Program} {l : Launch} {e : Env} {s : State} {m : MethodId} {args : Array Value} {below : List Frame} {meth : Method} {c : Code} (C : Cx G p s m c cX12_readLine RX12 3) (hr : meth.sig.returnType = (some .int)) (hlk : meth.locks = false) {x0 : Nat} {x1 : Int32} {x2 : Int32} {u : Mm} {H : Heap} {locs : List Loc} {ls : Array Slot} (h : V_X12_readLine_68 G Q x0 x1 x2 u) (hl : lv_has ls 3 [(0, .ref x0), (1, .int x1), (2, .int x2)]) (hP : Hp G u s H locs) : W p l e rm_X12_readLine s m args below meth c H locs 0 0 (MQ below (Ei G Q) args s 0 0 (ag G)) (F0 m 68 ls []) := by
  have hx := C.1
  have hb := C.2.1
  unfold V_X12_readLine_68 at h
  refine lv_aload_n hx hb dX12_readLine_68 rfl (lv_at hl 0 rfl) ?_
  refine lv_iconst (v := (2 : Int32)) hx hb dX12_readLine_69 (by decide) ?_
  obtain ⟨g1, h⟩ := h
  refine q_calv (q_runV C hP (c_X12_wrong h) (cd_X12_wrong C.hA) (ini_X12 C.hA) (ml_X12_213 C.hA) (im_X12_wrong C.hA) (sl_X12_wrong C.hA) g1 (by decide) rfl hd_X12_wrong ⟨rfl, rfl⟩ ⟨Nat.le_of_ble_eq_true rfl, Nat.le_of_ble_eq_true rfl⟩ ⟨Nat.le_of_ble_eq_true rfl, Nat.le_of_ble_eq_true rfl⟩ hl.1 rfl (Nat.le_of_ble_eq_true rfl) dX12_readLine_70) hP (fun u_70 H locs h hP => ?_)
  refine lv_goto (tgt := 95) hx hb dX12_readLine_73 (by decide) ?_
  exact b_X12_readLine_95 C hr hlk h (lv_sub hl [0, 1, 2] rfl) hP
set_option maxHeartbeats 4000000 in
set_option maxRecDepth 100000 in
theorem b_X12_readLine_52 {G : Gx} {Q : Int32 → Mm → Prop} {p : Program} {l : Launch} {e : Env} {s : State} {m : MethodId} {args : Array Value} {below : List Frame} {meth : Method} {c : Code} (C : Cx G p s m c cX12_readLine RX12 3) (hr : meth.sig.returnType = (some .int)) (hlk : meth.locks = false) {x0 : Nat} {x1 : Int32} {x2 : Int32} {u : Mm} {H : Heap} {locs : List Loc} {ls : Array Slot} (h : V_X12_readLine_52 G Q x0 x1 x2 u) (hl : lv_has ls 3 [(0, .ref x0), (1, .int x1), (2, .int x2)]) (hP : Hp G u s H locs) : W p l e rm_X12_readLine s m args below meth c H locs 0 0 (MQ below (Ei G Q) args s 0 0 (ag G)) (F0 m 52 ls []) := by
  have hx := C.1
  have hb := C.2.1
  unfold V_X12_readLine_52 at h
  refine lv_iload_n hx hb dX12_readLine_52 rfl (lv_at hl 2 rfl) ?_
  refine lv_iconst (v := (3 : Int32)) hx hb dX12_readLine_53 (by decide) ?_
  refine lv_icmp_ne (tgt := 76) hx hb dX12_readLine_54 (by decide) (fun c54 => ?_) (fun c54 => ?_)
  · have h := h.2 c54
    exact b_X12_readLine_76 C hr hlk h (lv_sub hl [0, 1, 2] rfl) hP
  · have h := h.1 c54
    refine lv_aload_n hx hb dX12_readLine_57 rfl (lv_at hl 0 rfl) ?_
    obtain ⟨g1, h⟩ := h
    obtain ⟨g2, h⟩ := h
    refine q_getR C hP (k := 4) (lay_X12 C.hA) rfl (by decide) g1 g2 (fl_X12_34 C.hA) dX12_readLine_58 ?_
    refine lv_bipush (v := (6 : Int32)) hx hb dX12_readLine_61 (by decide) ?_
    obtain ⟨g3, h⟩ := h
    obtain ⟨g4, h⟩ := h
    refine q_iald C hP g3 g4 dX12_readLine_63 ?_
    refine lv_iconst (v := (4 : Int32)) hx hb dX12_readLine_64 (by decide) ?_
    refine lv_icmp_ne (tgt := 76) hx hb dX12_readLine_65 (by decide) (fun c65 => ?_) (fun c65 => ?_)
    · have h := h.2 c65
      exact b_X12_readLine_76 C hr hlk h (lv_sub hl [0, 1, 2] rfl) hP
    · have h := h.1 c65
      exact b_X12_readLine_68 C hr hlk h (lv_sub hl [0, 1, 2] rfl) hP
set_option maxHeartbeats 4000000 in
set_option maxRecDepth 100000 in
theorem b_X12_readLine_35 {G : Gx} {Q : Int32 → Mm → Prop} {p : Program} {l : Launch} {e : Env} {s : State} {m : MethodId} {args : Array Value} {below : List Frame} {meth : Method} {c : Code} (C : Cx G p s m c cX12_readLine RX12 3) (hr : meth.sig.returnType = (some .int)) (hlk : meth.locks = false) {x0 : Nat} {x1 : Int32} {x2 : Int32} {u : Mm} {H : Heap} {locs : List Loc} {ls : Array Slot} (h : V_X12_readLine_35 G Q x0 x1 x2 u) (hl : lv_has ls 3 [(0, .ref x0), (1, .int x1), (2, .int x2)]) (hP : Hp G u s H locs) : W p l e rm_X12_readLine s m args below meth c H locs 0 0 (MQ below (Ei G Q) args s 0 0 (ag G)) (F0 m 35 ls []) := by
  have hx := C.1
  have hb := C.2.1
  unfold V_X12_readLine_35 at h
  refine lv_iload_n hx hb dX12_readLine_35 rfl (lv_at hl 2 rfl) ?_
  refine lv_iconst (v := (2 : Int32)) hx hb dX12_readLine_36 (by decide) ?_
  refine lv_icmp_ne (tgt := 52) hx hb dX12_readLine_37 (by decide) (fun c37 => ?_) (fun c37 => ?_)
  · have h := h.2 c37
    exact b_X12_readLine_52 C hr hlk h (lv_sub hl [0, 1, 2] rfl) hP
  · have h := h.1 c37
    refine lv_aload_n hx hb dX12_readLine_40 rfl (lv_at hl 0 rfl) ?_
    obtain ⟨g1, h⟩ := h
    obtain ⟨g2, h⟩ := h
    refine q_getR C hP (k := 3) (lay_X12 C.hA) rfl (by decide) g1 g2 (fl_X12_31 C.hA) dX12_readLine_41 ?_
    refine lv_bipush (v := (6 : Int32)) hx hb dX12_readLine_44 (by decide) ?_
    obtain ⟨g3, h⟩ := h
    obtain ⟨g4, h⟩ := h
    refine q_iald C hP g3 g4 dX12_readLine_46 ?_
    refine lv_bipush (v := (6 : Int32)) hx hb dX12_readLine_47 (by decide) ?_
    refine lv_icmp_eq (tgt := 68) hx hb dX12_readLine_49 (by decide) (fun c49 => ?_) (fun c49 => ?_)
    · have h := h.1 c49
      exact b_X12_readLine_68 C hr hlk h (lv_sub hl [0, 1, 2] rfl) hP
    · have h := h.2 c49
      exact b_X12_readLine_52 C hr hlk h (lv_sub hl [0, 1, 2] rfl) hP
set_option maxHeartbeats 4000000 in
set_option maxRecDepth 100000 in
theorem c_X12_readLine {l : Launch} {G : Gx} {p0 : Nat} {p1 : Int32} {u : Mm} {Q : Int32 → Mm → Prop} (h : V_X12_readLine G p0 p1 u Q) : Met l yX12_readLine [.code yX12_readLine cX12_readLine 3 (some .int)] rm_X12_readLine (va_Pc [.ref p0, .int p1] (Wd G u)) (Ei G Q) 0 0 (ag G) := by
  refine q_met (by decide) (Nat.le_of_ble_eq_true rfl) ?_
  intro p e s m below meth c ls C hr hlk hnm hl hP
  have hl : lv_has ls 3 [(0, .ref p0), (1, .int p1)] := hl
  generalize ([.ref p0, .int p1] : List Value).toArray = args
  have hx := C.1
  have hb := C.2.1
  unfold V_X12_readLine at h
  refine lv_aload_n hx hb dX12_readLine_0 rfl (lv_at hl 0 rfl) ?_
  obtain ⟨g1, h⟩ := h
  refine q_cali (q_runV C hP (c_X12_which h) (cd_X12_which C.hA) (ini_X12 C.hA) (ml_X12_231 C.hA) (im_X12_which C.hA) (sl_X12_which C.hA) g1 (by decide) rfl hd_X12_which ⟨rfl, rfl⟩ ⟨Nat.le_of_ble_eq_true rfl, Nat.le_of_ble_eq_true rfl⟩ ⟨Nat.le_of_ble_eq_true rfl, Nat.le_of_ble_eq_true rfl⟩ hl.1 rfl (Nat.le_of_ble_eq_true rfl) dX12_readLine_1) hP (fun v_1 u_1 H locs h hP => ?_)
  refine lv_istore_n (lv' := [(2, .int v_1), (0, .ref p0), (1, .int p1)]) hx hb dX12_readLine_4 rfl hl (by decide) rfl (fun ls hl => ?_)
  refine lv_iload_n hx hb dX12_readLine_5 rfl (lv_at hl 0 rfl) ?_
  refine lv_iconst (v := (-1 : Int32)) hx hb dX12_readLine_6 (by decide) ?_
  refine lv_icmp_ne (tgt := 18) hx hb dX12_readLine_7 (by decide) (fun c7 => ?_) (fun c7 => ?_)
  · have h := h.2 c7
    refine lv_iload_n hx hb dX12_readLine_18 rfl (lv_at hl 0 rfl) ?_
    refine lv_iconst (v := (2 : Int32)) hx hb dX12_readLine_19 (by decide) ?_
    refine lv_icmp_ge (tgt := 35) hx hb dX12_readLine_20 (by decide) (fun c20 => ?_) (fun c20 => ?_)
    · have h := h.1 c20
      exact b_X12_readLine_35 C hr hlk h (lv_sub hl [1, 2, 0] rfl) hP
    · have h := h.2 c20
      refine lv_aload_n hx hb dX12_readLine_23 rfl (lv_at hl 1 rfl) ?_
      obtain ⟨g2, h⟩ := h
      refine q_getR C hP (k := 2) (lay_X12 C.hA) rfl (by decide) g1 g2 (fl_X12_27 C.hA) dX12_readLine_24 ?_
      refine lv_bipush (v := (6 : Int32)) hx hb dX12_readLine_27 (by decide) ?_
      obtain ⟨g3, h⟩ := h
      obtain ⟨g4, h⟩ := h
      refine q_iald C hP g3 g4 dX12_readLine_29 ?_
      refine lv_bipush (v := (6 : Int32)) hx hb dX12_readLine_30 (by decide) ?_
      refine lv_icmp_eq (tgt := 68) hx hb dX12_readLine_32 (by decide) (fun c32 => ?_) (fun c32 => ?_)
      · have h := h.1 c32
        exact b_X12_readLine_68 C hr hlk h (lv_sub hl [1, 2, 0] rfl) hP
      · have h := h.2 c32
        exact b_X12_readLine_35 C hr hlk h (lv_sub hl [1, 2, 0] rfl) hP
  · have h := h.1 c7
    refine lv_aload_n hx hb dX12_readLine_10 rfl (lv_at hl 1 rfl) ?_
    refine lv_iconst (v := (1 : Int32)) hx hb dX12_readLine_11 (by decide) ?_
    refine q_calv (q_runV C hP (c_X12_wrong h) (cd_X12_wrong C.hA) (ini_X12 C.hA) (ml_X12_213 C.hA) (im_X12_wrong C.hA) (sl_X12_wrong C.hA) g1 (by decide) rfl hd_X12_wrong ⟨rfl, rfl⟩ ⟨Nat.le_of_ble_eq_true rfl, Nat.le_of_ble_eq_true rfl⟩ ⟨Nat.le_of_ble_eq_true rfl, Nat.le_of_ble_eq_true rfl⟩ hl.1 rfl (Nat.le_of_ble_eq_true rfl) dX12_readLine_12) hP (fun u_12 H locs h hP => ?_)
    refine lv_goto (tgt := 95) hx hb dX12_readLine_15 (by decide) ?_
    exact b_X12_readLine_95 C hr hlk h (lv_sub hl [1, 2, 0] rfl) hP
-- X12_land
abbrev rm_X12_land : Room := { frames := 9, cells := 0, slots := 0, locals := 196 }
theorem hd_X12_land : yX12_land.cls ≠ "java/lang/invoke/MethodHandle" ∧ yX12_land.cls ≠ "java/lang/invoke/VarHandle" ∧ (parseMethodDescriptor yX12_land.desc).map (fun d => d.parameters.length) = some 2 := by decide +kernel
def V_X12_land_272_B (G : Gx) (Q : Int32 → Mm → Prop) (k_272 : Nat → Int32 → Int32 → Mm → Prop) (x0 : Nat) (x1 : Int32) (x4 : Int32) (u : Mm) : Prop :=
  (((28 : Int32) ≤ x4 → Q (0 : Int32) u) ∧ (¬ (28 : Int32) ≤ x4 → kd G x0 = 12 ∧ (gR u x0 9) ≠ 0 ∧ kd G (gR u x0 9) = 13 ∧ vp_in ((168 : Int32) + x4) (ln G (gR u x0 9)) ∧ vp_in (((28 : Int32) * x1) + x4) (ln G (gR u x0 9)) ∧ ∀ u_301 : Mm, u_301 = sI u (gR u x0 9) (((28 : Int32) * x1) + x4).toNatClampNeg (gI u (gR u x0 9) ((168 : Int32) + x4).toNatClampNeg) → ∀ x4_302 : Int32, x4_302 = x4 + (1 : Int32) → k_272 x0 x1 x4_302 u_301))
def V_X12_land_272 (G : Gx) (Q : Int32 → Mm → Prop) : Nat → (Nat → Int32 → Int32 → Mm → Prop)
  | 0 => fun _ _ _ _ => False
  | n + 1 => fun x0 x1 x4 u => V_X12_land_272_B G Q (V_X12_land_272 G Q n) x0 x1 x4 u
def V_X12_land_233_B (G : Gx) (Q : Int32 → Mm → Prop) (k_233 : Nat → Int32 → Int32 → Mm → Prop) (x0 : Nat) (x1 : Int32) (x4 : Int32) (u : Mm) : Prop :=
  (((40 : Int32) ≤ x4 → ∃ n : Nat, V_X12_land_272 G Q n x0 x1 (0 : Int32) u) ∧ (¬ (40 : Int32) ≤ x4 → kd G x0 = 12 ∧ (gR u x0 8) ≠ 0 ∧ kd G (gR u x0 8) = 13 ∧ vp_in ((240 : Int32) + x4) (ln G (gR u x0 8)) ∧ vp_in (((40 : Int32) * x1) + x4) (ln G (gR u x0 8)) ∧ ∀ u_262 : Mm, u_262 = sI u (gR u x0 8) (((40 : Int32) * x1) + x4).toNatClampNeg (gI u (gR u x0 8) ((240 : Int32) + x4).toNatClampNeg) → ∀ x4_263 : Int32, x4_263 = x4 + (1 : Int32) → k_233 x0 x1 x4_263 u_262))
def V_X12_land_233 (G : Gx) (Q : Int32 → Mm → Prop) : Nat → (Nat → Int32 → Int32 → Mm → Prop)
  | 0 => fun _ _ _ _ => False
  | n + 1 => fun x0 x1 x4 u => V_X12_land_233_B G Q (V_X12_land_233 G Q n) x0 x1 x4 u
def V_X12_land_194_B (G : Gx) (Q : Int32 → Mm → Prop) (k_194 : Nat → Int32 → Int32 → Mm → Prop) (x0 : Nat) (x1 : Int32) (x4 : Int32) (u : Mm) : Prop :=
  (((40 : Int32) ≤ x4 → ∃ n : Nat, V_X12_land_233 G Q n x0 x1 (0 : Int32) u) ∧ (¬ (40 : Int32) ≤ x4 → kd G x0 = 12 ∧ (gR u x0 7) ≠ 0 ∧ kd G (gR u x0 7) = 13 ∧ vp_in ((240 : Int32) + x4) (ln G (gR u x0 7)) ∧ vp_in (((40 : Int32) * x1) + x4) (ln G (gR u x0 7)) ∧ ∀ u_223 : Mm, u_223 = sI u (gR u x0 7) (((40 : Int32) * x1) + x4).toNatClampNeg (gI u (gR u x0 7) ((240 : Int32) + x4).toNatClampNeg) → ∀ x4_224 : Int32, x4_224 = x4 + (1 : Int32) → k_194 x0 x1 x4_224 u_223))
def V_X12_land_194 (G : Gx) (Q : Int32 → Mm → Prop) : Nat → (Nat → Int32 → Int32 → Mm → Prop)
  | 0 => fun _ _ _ _ => False
  | n + 1 => fun x0 x1 x4 u => V_X12_land_194_B G Q (V_X12_land_194 G Q n) x0 x1 x4 u
def V_X12_land_96 (G : Gx) (Q : Int32 → Mm → Prop) (x0 : Nat) (x1 : Int32) (u : Mm) : Prop :=
  kd G x0 = 12 ∧ (((gI u x0 19) = 0 → (gR u x0 2) ≠ 0 ∧ kd G (gR u x0 2) = 13 ∧ vp_in (6 : Int32) (ln G (gR u x0 2)) ∧ vp_in x1 (ln G (gR u x0 2)) ∧ ∀ u_138 : Mm, u_138 = sI u (gR u x0 2) x1.toNatClampNeg (gI u (gR u x0 2) (6 : Int32).toNatClampNeg) → (gR u_138 x0 3) ≠ 0 ∧ kd G (gR u_138 x0 3) = 13 ∧ vp_in (6 : Int32) (ln G (gR u_138 x0 3)) ∧ vp_in x1 (ln G (gR u_138 x0 3)) ∧ ∀ u_151 : Mm, u_151 = sI u_138 (gR u_138 x0 3) x1.toNatClampNeg (gI u_138 (gR u_138 x0 3) (6 : Int32).toNatClampNeg) → (gR u_151 x0 4) ≠ 0 ∧ kd G (gR u_151 x0 4) = 13 ∧ vp_in (6 : Int32) (ln G (gR u_151 x0 4)) ∧ vp_in x1 (ln G (gR u_151 x0 4)) ∧ ∀ u_164 : Mm, u_164 = sI u_151 (gR u_151 x0 4) x1.toNatClampNeg (gI u_151 (gR u_151 x0 4) (6 : Int32).toNatClampNeg) → (gR u_164 x0 5) ≠ 0 ∧ kd G (gR u_164 x0 5) = 13 ∧ vp_in (6 : Int32) (ln G (gR u_164 x0 5)) ∧ vp_in x1 (ln G (gR u_164 x0 5)) ∧ ∀ u_177 : Mm, u_177 = sI u_164 (gR u_164 x0 5) x1.toNatClampNeg (gI u_164 (gR u_164 x0 5) (6 : Int32).toNatClampNeg) → (gR u_177 x0 6) ≠ 0 ∧ kd G (gR u_177 x0 6) = 13 ∧ vp_in (6 : Int32) (ln G (gR u_177 x0 6)) ∧ vp_in x1 (ln G (gR u_177 x0 6)) ∧ ∀ u_190 : Mm, u_190 = sI u_177 (gR u_177 x0 6) x1.toNatClampNeg (gI u_177 (gR u_177 x0 6) (6 : Int32).toNatClampNeg) → ∃ n : Nat, V_X12_land_194 G Q n x0 x1 (0 : Int32) u_190) ∧ (¬ (gI u x0 19) = 0 → ∀ u_108 : Mm, u_108 = sI u x0 21 (gI u x0 20) → (gR u_108 x0 10) ≠ 0 ∧ kd G (gR u_108 x0 10) = 13 ∧ vp_in (0 : Int32) (ln G (gR u_108 x0 10)) ∧ ∀ u_120 : Mm, u_120 = sI u_108 (gR u_108 x0 10) (0 : Int32).toNatClampNeg ((gI u_108 (gR u_108 x0 10) (0 : Int32).toNatClampNeg) + (1 : Int32)) → Q (gI u_120 x0 19) u_120))
def V_X12_land_73_B (G : Gx) (Q : Int32 → Mm → Prop) (k_73 : Nat → Int32 → Int32 → Mm → Prop) (x0 : Nat) (x1 : Int32) (x3 : Int32) (u : Mm) : Prop :=
  kd G x0 = 12 ∧ (((gI u x0 19) = 0 → (((gI u x0 15) = 0 → V_X12_land_96 G Q x0 x1 u) ∧ (¬ (gI u x0 15) = 0 → V_X12_readLine G x0 x3 u (fun (v_89 : Int32) (u_89 : Mm) => k_73 x0 x1 v_89 u_89)))) ∧ (¬ (gI u x0 19) = 0 → V_X12_land_96 G Q x0 x1 u))
def V_X12_land_73 (G : Gx) (Q : Int32 → Mm → Prop) : Nat → (Nat → Int32 → Int32 → Mm → Prop)
  | 0 => fun _ _ _ _ => False
  | n + 1 => fun x0 x1 x3 u => V_X12_land_73_B G Q (V_X12_land_73 G Q n) x0 x1 x3 u
def V_X12_land_30 (G : Gx) (Q : Int32 → Mm → Prop) (x0 : Nat) (u : Mm) : Prop :=
  kd G x0 = 12 ∧ V_X12_fail G x0 (2 : Int32) u (fun (v_32 : Int32) (u_32 : Mm) => Q v_32 u_32)
def V_X12_land (G : Gx) (p0 : Nat) (p1 : Int32) (p2 : Int32) (u : Mm) (Q : Int32 → Mm → Prop) : Prop :=
  kd G p0 = 12 ∧ ∀ u_2 : Mm, u_2 = sI u p0 1 (0 : Int32) → V_X12_isLand G p1 u_2 (fun (v_6 : Int32) (u_6 : Mm) => ((v_6 = 0 → V_X12_fail G p0 (1 : Int32) u_6 (fun (v_14 : Int32) (u_14 : Mm) => Q v_14 u_14)) ∧ (¬ v_6 = 0 → ((p2 < 0 → V_X12_land_30 G Q p0 u_6) ∧ (¬ p2 < 0 → ((p2 ≤ (gI u_6 p0 12) → ∀ u_38 : Mm, u_38 = sI u_6 p0 12 (0 : Int32) → ∀ u_43 : Mm, u_43 = sI u_38 p0 14 p2 → ∀ u_48 : Mm, u_48 = sI u_43 p0 13 (0 : Int32) → ∀ u_53 : Mm, u_53 = sI u_48 p0 19 (0 : Int32) → ∀ u_58 : Mm, u_58 = sI u_53 p0 21 (-1 : Int32) → V_X12_atFirst G p0 (6 : Int32) u_58 (fun (u_64 : Mm) => V_X12_stepOn G p0 u_64 (fun (u_68 : Mm) => ∃ n : Nat, V_X12_land_73 G Q n p0 p1 (0 : Int32) u_68))) ∧ (¬ p2 ≤ (gI u_6 p0 12) → V_X12_land_30 G Q p0 u_6)))))))
set_option maxHeartbeats 4000000 in
set_option maxRecDepth 100000 in
theorem b_X12_land_272 {G : Gx} {Q : Int32 → Mm → Prop} {p : Program} {l : Launch} {e : Env} {s : State} {m : MethodId} {args : Array Value} {below : List Frame} {meth : Method} {c : Code} (C : Cx G p s m c cX12_land RX12 5) (hr : meth.sig.returnType = (some .int)) (hlk : meth.locks = false) {k_272 : Nat → Int32 → Int32 → Mm → Prop} (hk_272 : ∀ (x0 : Nat) (x1 : Int32) (x4 : Int32) (u : Mm) (H : Heap) (locs : List Loc) (ls : Array Slot), k_272 x0 x1 x4 u → lv_has ls 5 [(0, .ref x0), (1, .int x1), (4, .int x4)] → Hp G u s H locs → W p l e rm_X12_land s m args below meth c H locs 0 0 (MQ below (Ei G Q) args s 0 0 (ag G)) (F0 m 272 ls [])) {x0 : Nat} {x1 : Int32} {x4 : Int32} {u : Mm} {H : Heap} {locs : List Loc} {ls : Array Slot} (h : V_X12_land_272_B G Q k_272 x0 x1 x4 u) (hl : lv_has ls 5 [(0, .ref x0), (1, .int x1), (4, .int x4)]) (hP : Hp G u s H locs) : W p l e rm_X12_land s m args below meth c H locs 0 0 (MQ below (Ei G Q) args s 0 0 (ag G)) (F0 m 272 ls []) := by
  have hx := C.1
  have hb := C.2.1
  unfold V_X12_land_272_B at h
  refine lv_iload hx hb dX12_land_272 (lv_at hl 2 rfl) ?_
  refine lv_bipush (v := (28 : Int32)) hx hb dX12_land_274 (by decide) ?_
  refine lv_icmp_ge (tgt := 308) hx hb dX12_land_276 (by decide) (fun c276 => ?_) (fun c276 => ?_)
  · have h := h.1 c276
    refine lv_iconst (v := (0 : Int32)) hx hb dX12_land_308 (by decide) ?_
    exact q_iret C hr hlk hP h (by decide) (by decide) dX12_land_309
  · have h := h.2 c276
    refine lv_aload_n hx hb dX12_land_279 rfl (lv_at hl 0 rfl) ?_
    obtain ⟨g1, h⟩ := h
    obtain ⟨g2, h⟩ := h
    refine q_getR C hP (k := 9) (lay_X12 C.hA) rfl (by decide) g1 g2 (fl_X12_46 C.hA) dX12_land_280 ?_
    refine lv_bipush (v := (28 : Int32)) hx hb dX12_land_283 (by decide) ?_
    refine lv_iload_n hx hb dX12_land_285 rfl (lv_at hl 1 rfl) ?_
    refine lv_imul hx hb dX12_land_286 ?_
    refine lv_iload hx hb dX12_land_287 (lv_at hl 2 rfl) ?_
    refine lv_iadd hx hb dX12_land_289 ?_
    refine lv_aload_n hx hb dX12_land_290 rfl (lv_at hl 0 rfl) ?_
    refine q_getR C hP (k := 9) (lay_X12 C.hA) rfl (by decide) g1 g2 (fl_X12_46 C.hA) dX12_land_291 ?_
    refine lv_sipush (v := (168 : Int32)) hx hb dX12_land_294 (by decide) ?_
    refine lv_iload hx hb dX12_land_297 (lv_at hl 2 rfl) ?_
    refine lv_iadd hx hb dX12_land_299 ?_
    obtain ⟨g3, h⟩ := h
    obtain ⟨g4, h⟩ := h
    refine q_iald C hP g3 g4 dX12_land_300 ?_
    obtain ⟨g5, h⟩ := h
    refine q_iast C hP g3 g5 dX12_land_301 (fun H locs hP => ?_)
    obtain ⟨u_301, eu_301, hP⟩ := Hp.nm hP
    have h := h u_301 eu_301
    obtain ⟨x4_302, ex4_302⟩ : ∃ y : Int32, y = x4 + (1 : Int32) := ⟨_, rfl⟩
    have h := h x4_302 ex4_302
    refine lv_iinc (v := x4_302) (lv' := [(4, .int x4_302), (0, .ref x0), (1, .int x1)]) hx hb dX12_land_302 hl (k := 2) rfl (by rw [ex4_302]; rfl) (by decide) rfl (fun ls hl => ?_)
    refine lv_goto (tgt := 272) hx hb dX12_land_305 (by decide) ?_
    exact hk_272 x0 x1 x4_302 u_301 _ _ _ h (lv_sub hl [1, 2, 0] rfl) hP
theorem l_X12_land_272 {G : Gx} {Q : Int32 → Mm → Prop} {p : Program} {l : Launch} {e : Env} {s : State} {m : MethodId} {args : Array Value} {below : List Frame} {meth : Method} {c : Code} (C : Cx G p s m c cX12_land RX12 5) (hr : meth.sig.returnType = (some .int)) (hlk : meth.locks = false) : ∀ (n : Nat) (x0 : Nat) (x1 : Int32) (x4 : Int32) (u : Mm) (H : Heap) (locs : List Loc) (ls : Array Slot), V_X12_land_272 G Q n x0 x1 x4 u → lv_has ls 5 [(0, .ref x0), (1, .int x1), (4, .int x4)] → Hp G u s H locs → W p l e rm_X12_land s m args below meth c H locs 0 0 (MQ below (Ei G Q) args s 0 0 (ag G)) (F0 m 272 ls []) := by
  intro n
  induction n with
  | zero => intro x0 x1 x4 u H locs ls h; exact h.elim
  | succ n ih => intro x0 x1 x4 u H locs ls h hl hP; exact b_X12_land_272 C hr hlk ih h hl hP
set_option maxHeartbeats 4000000 in
set_option maxRecDepth 100000 in
theorem b_X12_land_233 {G : Gx} {Q : Int32 → Mm → Prop} {p : Program} {l : Launch} {e : Env} {s : State} {m : MethodId} {args : Array Value} {below : List Frame} {meth : Method} {c : Code} (C : Cx G p s m c cX12_land RX12 5) (hr : meth.sig.returnType = (some .int)) (hlk : meth.locks = false) {k_233 : Nat → Int32 → Int32 → Mm → Prop} (hk_233 : ∀ (x0 : Nat) (x1 : Int32) (x4 : Int32) (u : Mm) (H : Heap) (locs : List Loc) (ls : Array Slot), k_233 x0 x1 x4 u → lv_has ls 5 [(0, .ref x0), (1, .int x1), (4, .int x4)] → Hp G u s H locs → W p l e rm_X12_land s m args below meth c H locs 0 0 (MQ below (Ei G Q) args s 0 0 (ag G)) (F0 m 233 ls [])) {x0 : Nat} {x1 : Int32} {x4 : Int32} {u : Mm} {H : Heap} {locs : List Loc} {ls : Array Slot} (h : V_X12_land_233_B G Q k_233 x0 x1 x4 u) (hl : lv_has ls 5 [(0, .ref x0), (1, .int x1), (4, .int x4)]) (hP : Hp G u s H locs) : W p l e rm_X12_land s m args below meth c H locs 0 0 (MQ below (Ei G Q) args s 0 0 (ag G)) (F0 m 233 ls []) := by
  have hx := C.1
  have hb := C.2.1
  unfold V_X12_land_233_B at h
  refine lv_iload hx hb dX12_land_233 (lv_at hl 2 rfl) ?_
  refine lv_bipush (v := (40 : Int32)) hx hb dX12_land_235 (by decide) ?_
  refine lv_icmp_ge (tgt := 269) hx hb dX12_land_237 (by decide) (fun c237 => ?_) (fun c237 => ?_)
  · have h := h.1 c237
    refine lv_iconst (v := (0 : Int32)) hx hb dX12_land_269 (by decide) ?_
    refine lv_istore (lv' := [(4, .int (0 : Int32)), (0, .ref x0), (1, .int x1)]) hx hb dX12_land_270 hl (by decide) rfl (fun ls hl => ?_)
    obtain ⟨n, h⟩ := h
    exact l_X12_land_272 C hr hlk n x0 x1 (0 : Int32) u _ _ _ h (lv_sub hl [1, 2, 0] rfl) hP
  · have h := h.2 c237
    refine lv_aload_n hx hb dX12_land_240 rfl (lv_at hl 0 rfl) ?_
    obtain ⟨g1, h⟩ := h
    obtain ⟨g2, h⟩ := h
    refine q_getR C hP (k := 8) (lay_X12 C.hA) rfl (by decide) g1 g2 (fl_X12_44 C.hA) dX12_land_241 ?_
    refine lv_bipush (v := (40 : Int32)) hx hb dX12_land_244 (by decide) ?_
    refine lv_iload_n hx hb dX12_land_246 rfl (lv_at hl 1 rfl) ?_
    refine lv_imul hx hb dX12_land_247 ?_
    refine lv_iload hx hb dX12_land_248 (lv_at hl 2 rfl) ?_
    refine lv_iadd hx hb dX12_land_250 ?_
    refine lv_aload_n hx hb dX12_land_251 rfl (lv_at hl 0 rfl) ?_
    refine q_getR C hP (k := 8) (lay_X12 C.hA) rfl (by decide) g1 g2 (fl_X12_44 C.hA) dX12_land_252 ?_
    refine lv_sipush (v := (240 : Int32)) hx hb dX12_land_255 (by decide) ?_
    refine lv_iload hx hb dX12_land_258 (lv_at hl 2 rfl) ?_
    refine lv_iadd hx hb dX12_land_260 ?_
    obtain ⟨g3, h⟩ := h
    obtain ⟨g4, h⟩ := h
    refine q_iald C hP g3 g4 dX12_land_261 ?_
    obtain ⟨g5, h⟩ := h
    refine q_iast C hP g3 g5 dX12_land_262 (fun H locs hP => ?_)
    obtain ⟨u_262, eu_262, hP⟩ := Hp.nm hP
    have h := h u_262 eu_262
    obtain ⟨x4_263, ex4_263⟩ : ∃ y : Int32, y = x4 + (1 : Int32) := ⟨_, rfl⟩
    have h := h x4_263 ex4_263
    refine lv_iinc (v := x4_263) (lv' := [(4, .int x4_263), (0, .ref x0), (1, .int x1)]) hx hb dX12_land_263 hl (k := 2) rfl (by rw [ex4_263]; rfl) (by decide) rfl (fun ls hl => ?_)
    refine lv_goto (tgt := 233) hx hb dX12_land_266 (by decide) ?_
    exact hk_233 x0 x1 x4_263 u_262 _ _ _ h (lv_sub hl [1, 2, 0] rfl) hP
theorem l_X12_land_233 {G : Gx} {Q : Int32 → Mm → Prop} {p : Program} {l : Launch} {e : Env} {s : State} {m : MethodId} {args : Array Value} {below : List Frame} {meth : Method} {c : Code} (C : Cx G p s m c cX12_land RX12 5) (hr : meth.sig.returnType = (some .int)) (hlk : meth.locks = false) : ∀ (n : Nat) (x0 : Nat) (x1 : Int32) (x4 : Int32) (u : Mm) (H : Heap) (locs : List Loc) (ls : Array Slot), V_X12_land_233 G Q n x0 x1 x4 u → lv_has ls 5 [(0, .ref x0), (1, .int x1), (4, .int x4)] → Hp G u s H locs → W p l e rm_X12_land s m args below meth c H locs 0 0 (MQ below (Ei G Q) args s 0 0 (ag G)) (F0 m 233 ls []) := by
  intro n
  induction n with
  | zero => intro x0 x1 x4 u H locs ls h; exact h.elim
  | succ n ih => intro x0 x1 x4 u H locs ls h hl hP; exact b_X12_land_233 C hr hlk ih h hl hP
set_option maxHeartbeats 4000000 in
set_option maxRecDepth 100000 in
theorem b_X12_land_194 {G : Gx} {Q : Int32 → Mm → Prop} {p : Program} {l : Launch} {e : Env} {s : State} {m : MethodId} {args : Array Value} {below : List Frame} {meth : Method} {c : Code} (C : Cx G p s m c cX12_land RX12 5) (hr : meth.sig.returnType = (some .int)) (hlk : meth.locks = false) {k_194 : Nat → Int32 → Int32 → Mm → Prop} (hk_194 : ∀ (x0 : Nat) (x1 : Int32) (x4 : Int32) (u : Mm) (H : Heap) (locs : List Loc) (ls : Array Slot), k_194 x0 x1 x4 u → lv_has ls 5 [(0, .ref x0), (1, .int x1), (4, .int x4)] → Hp G u s H locs → W p l e rm_X12_land s m args below meth c H locs 0 0 (MQ below (Ei G Q) args s 0 0 (ag G)) (F0 m 194 ls [])) {x0 : Nat} {x1 : Int32} {x4 : Int32} {u : Mm} {H : Heap} {locs : List Loc} {ls : Array Slot} (h : V_X12_land_194_B G Q k_194 x0 x1 x4 u) (hl : lv_has ls 5 [(0, .ref x0), (1, .int x1), (4, .int x4)]) (hP : Hp G u s H locs) : W p l e rm_X12_land s m args below meth c H locs 0 0 (MQ below (Ei G Q) args s 0 0 (ag G)) (F0 m 194 ls []) := by
  have hx := C.1
  have hb := C.2.1
  unfold V_X12_land_194_B at h
  refine lv_iload hx hb dX12_land_194 (lv_at hl 2 rfl) ?_
  refine lv_bipush (v := (40 : Int32)) hx hb dX12_land_196 (by decide) ?_
  refine lv_icmp_ge (tgt := 230) hx hb dX12_land_198 (by decide) (fun c198 => ?_) (fun c198 => ?_)
  · have h := h.1 c198
    refine lv_iconst (v := (0 : Int32)) hx hb dX12_land_230 (by decide) ?_
    refine lv_istore (lv' := [(4, .int (0 : Int32)), (0, .ref x0), (1, .int x1)]) hx hb dX12_land_231 hl (by decide) rfl (fun ls hl => ?_)
    obtain ⟨n, h⟩ := h
    exact l_X12_land_233 C hr hlk n x0 x1 (0 : Int32) u _ _ _ h (lv_sub hl [1, 2, 0] rfl) hP
  · have h := h.2 c198
    refine lv_aload_n hx hb dX12_land_201 rfl (lv_at hl 0 rfl) ?_
    obtain ⟨g1, h⟩ := h
    obtain ⟨g2, h⟩ := h
    refine q_getR C hP (k := 7) (lay_X12 C.hA) rfl (by decide) g1 g2 (fl_X12_41 C.hA) dX12_land_202 ?_
    refine lv_bipush (v := (40 : Int32)) hx hb dX12_land_205 (by decide) ?_
    refine lv_iload_n hx hb dX12_land_207 rfl (lv_at hl 1 rfl) ?_
    refine lv_imul hx hb dX12_land_208 ?_
    refine lv_iload hx hb dX12_land_209 (lv_at hl 2 rfl) ?_
    refine lv_iadd hx hb dX12_land_211 ?_
    refine lv_aload_n hx hb dX12_land_212 rfl (lv_at hl 0 rfl) ?_
    refine q_getR C hP (k := 7) (lay_X12 C.hA) rfl (by decide) g1 g2 (fl_X12_41 C.hA) dX12_land_213 ?_
    refine lv_sipush (v := (240 : Int32)) hx hb dX12_land_216 (by decide) ?_
    refine lv_iload hx hb dX12_land_219 (lv_at hl 2 rfl) ?_
    refine lv_iadd hx hb dX12_land_221 ?_
    obtain ⟨g3, h⟩ := h
    obtain ⟨g4, h⟩ := h
    refine q_iald C hP g3 g4 dX12_land_222 ?_
    obtain ⟨g5, h⟩ := h
    refine q_iast C hP g3 g5 dX12_land_223 (fun H locs hP => ?_)
    obtain ⟨u_223, eu_223, hP⟩ := Hp.nm hP
    have h := h u_223 eu_223
    obtain ⟨x4_224, ex4_224⟩ : ∃ y : Int32, y = x4 + (1 : Int32) := ⟨_, rfl⟩
    have h := h x4_224 ex4_224
    refine lv_iinc (v := x4_224) (lv' := [(4, .int x4_224), (0, .ref x0), (1, .int x1)]) hx hb dX12_land_224 hl (k := 2) rfl (by rw [ex4_224]; rfl) (by decide) rfl (fun ls hl => ?_)
    refine lv_goto (tgt := 194) hx hb dX12_land_227 (by decide) ?_
    exact hk_194 x0 x1 x4_224 u_223 _ _ _ h (lv_sub hl [1, 2, 0] rfl) hP
theorem l_X12_land_194 {G : Gx} {Q : Int32 → Mm → Prop} {p : Program} {l : Launch} {e : Env} {s : State} {m : MethodId} {args : Array Value} {below : List Frame} {meth : Method} {c : Code} (C : Cx G p s m c cX12_land RX12 5) (hr : meth.sig.returnType = (some .int)) (hlk : meth.locks = false) : ∀ (n : Nat) (x0 : Nat) (x1 : Int32) (x4 : Int32) (u : Mm) (H : Heap) (locs : List Loc) (ls : Array Slot), V_X12_land_194 G Q n x0 x1 x4 u → lv_has ls 5 [(0, .ref x0), (1, .int x1), (4, .int x4)] → Hp G u s H locs → W p l e rm_X12_land s m args below meth c H locs 0 0 (MQ below (Ei G Q) args s 0 0 (ag G)) (F0 m 194 ls []) := by
  intro n
  induction n with
  | zero => intro x0 x1 x4 u H locs ls h; exact h.elim
  | succ n ih => intro x0 x1 x4 u H locs ls h hl hP; exact b_X12_land_194 C hr hlk ih h hl hP
set_option maxHeartbeats 4000000 in
set_option maxRecDepth 100000 in
theorem b_X12_land_96 {G : Gx} {Q : Int32 → Mm → Prop} {p : Program} {l : Launch} {e : Env} {s : State} {m : MethodId} {args : Array Value} {below : List Frame} {meth : Method} {c : Code} (C : Cx G p s m c cX12_land RX12 5) (hr : meth.sig.returnType = (some .int)) (hlk : meth.locks = false) {x0 : Nat} {x1 : Int32} {u : Mm} {H : Heap} {locs : List Loc} {ls : Array Slot} (h : V_X12_land_96 G Q x0 x1 u) (hl : lv_has ls 5 [(0, .ref x0), (1, .int x1)]) (hP : Hp G u s H locs) : W p l e rm_X12_land s m args below meth c H locs 0 0 (MQ below (Ei G Q) args s 0 0 (ag G)) (F0 m 96 ls []) := by
  have hx := C.1
  have hb := C.2.1
  unfold V_X12_land_96 at h
  refine lv_aload_n hx hb dX12_land_96 rfl (lv_at hl 0 rfl) ?_
  obtain ⟨g1, h⟩ := h
  refine q_getI C hP (k := 19) (lay_X12 C.hA) rfl (by decide) g1 (fl_X12_192 C.hA) dX12_land_97 ?_
  refine lv_if_eq (tgt := 126) hx hb dX12_land_100 (by decide) (fun c100 => ?_) (fun c100 => ?_)
  · have h := h.1 c100
    refine lv_aload_n hx hb dX12_land_126 rfl (lv_at hl 0 rfl) ?_
    obtain ⟨g2, h⟩ := h
    refine q_getR C hP (k := 2) (lay_X12 C.hA) rfl (by decide) g1 g2 (fl_X12_27 C.hA) dX12_land_127 ?_
    refine lv_iload_n hx hb dX12_land_130 rfl (lv_at hl 1 rfl) ?_
    refine lv_aload_n hx hb dX12_land_131 rfl (lv_at hl 0 rfl) ?_
    refine q_getR C hP (k := 2) (lay_X12 C.hA) rfl (by decide) g1 g2 (fl_X12_27 C.hA) dX12_land_132 ?_
    refine lv_bipush (v := (6 : Int32)) hx hb dX12_land_135 (by decide) ?_
    obtain ⟨g3, h⟩ := h
    obtain ⟨g4, h⟩ := h
    refine q_iald C hP g3 g4 dX12_land_137 ?_
    obtain ⟨g5, h⟩ := h
    refine q_iast C hP g3 g5 dX12_land_138 (fun H locs hP => ?_)
    obtain ⟨u_138, eu_138, hP⟩ := Hp.nm hP
    have h := h u_138 eu_138
    refine lv_aload_n hx hb dX12_land_139 rfl (lv_at hl 0 rfl) ?_
    obtain ⟨g6, h⟩ := h
    refine q_getR C hP (k := 3) (lay_X12 C.hA) rfl (by decide) g1 g6 (fl_X12_31 C.hA) dX12_land_140 ?_
    refine lv_iload_n hx hb dX12_land_143 rfl (lv_at hl 1 rfl) ?_
    refine lv_aload_n hx hb dX12_land_144 rfl (lv_at hl 0 rfl) ?_
    refine q_getR C hP (k := 3) (lay_X12 C.hA) rfl (by decide) g1 g6 (fl_X12_31 C.hA) dX12_land_145 ?_
    refine lv_bipush (v := (6 : Int32)) hx hb dX12_land_148 (by decide) ?_
    obtain ⟨g7, h⟩ := h
    obtain ⟨g8, h⟩ := h
    refine q_iald C hP g7 g8 dX12_land_150 ?_
    obtain ⟨g9, h⟩ := h
    refine q_iast C hP g7 g9 dX12_land_151 (fun H locs hP => ?_)
    obtain ⟨u_151, eu_151, hP⟩ := Hp.nm hP
    have h := h u_151 eu_151
    refine lv_aload_n hx hb dX12_land_152 rfl (lv_at hl 0 rfl) ?_
    obtain ⟨g10, h⟩ := h
    refine q_getR C hP (k := 4) (lay_X12 C.hA) rfl (by decide) g1 g10 (fl_X12_34 C.hA) dX12_land_153 ?_
    refine lv_iload_n hx hb dX12_land_156 rfl (lv_at hl 1 rfl) ?_
    refine lv_aload_n hx hb dX12_land_157 rfl (lv_at hl 0 rfl) ?_
    refine q_getR C hP (k := 4) (lay_X12 C.hA) rfl (by decide) g1 g10 (fl_X12_34 C.hA) dX12_land_158 ?_
    refine lv_bipush (v := (6 : Int32)) hx hb dX12_land_161 (by decide) ?_
    obtain ⟨g11, h⟩ := h
    obtain ⟨g12, h⟩ := h
    refine q_iald C hP g11 g12 dX12_land_163 ?_
    obtain ⟨g13, h⟩ := h
    refine q_iast C hP g11 g13 dX12_land_164 (fun H locs hP => ?_)
    obtain ⟨u_164, eu_164, hP⟩ := Hp.nm hP
    have h := h u_164 eu_164
    refine lv_aload_n hx hb dX12_land_165 rfl (lv_at hl 0 rfl) ?_
    obtain ⟨g14, h⟩ := h
    refine q_getR C hP (k := 5) (lay_X12 C.hA) rfl (by decide) g1 g14 (fl_X12_37 C.hA) dX12_land_166 ?_
    refine lv_iload_n hx hb dX12_land_169 rfl (lv_at hl 1 rfl) ?_
    refine lv_aload_n hx hb dX12_land_170 rfl (lv_at hl 0 rfl) ?_
    refine q_getR C hP (k := 5) (lay_X12 C.hA) rfl (by decide) g1 g14 (fl_X12_37 C.hA) dX12_land_171 ?_
    refine lv_bipush (v := (6 : Int32)) hx hb dX12_land_174 (by decide) ?_
    obtain ⟨g15, h⟩ := h
    obtain ⟨g16, h⟩ := h
    refine q_iald C hP g15 g16 dX12_land_176 ?_
    obtain ⟨g17, h⟩ := h
    refine q_iast C hP g15 g17 dX12_land_177 (fun H locs hP => ?_)
    obtain ⟨u_177, eu_177, hP⟩ := Hp.nm hP
    have h := h u_177 eu_177
    refine lv_aload_n hx hb dX12_land_178 rfl (lv_at hl 0 rfl) ?_
    obtain ⟨g18, h⟩ := h
    refine q_getR C hP (k := 6) (lay_X12 C.hA) rfl (by decide) g1 g18 (fl_X12_39 C.hA) dX12_land_179 ?_
    refine lv_iload_n hx hb dX12_land_182 rfl (lv_at hl 1 rfl) ?_
    refine lv_aload_n hx hb dX12_land_183 rfl (lv_at hl 0 rfl) ?_
    refine q_getR C hP (k := 6) (lay_X12 C.hA) rfl (by decide) g1 g18 (fl_X12_39 C.hA) dX12_land_184 ?_
    refine lv_bipush (v := (6 : Int32)) hx hb dX12_land_187 (by decide) ?_
    obtain ⟨g19, h⟩ := h
    obtain ⟨g20, h⟩ := h
    refine q_iald C hP g19 g20 dX12_land_189 ?_
    obtain ⟨g21, h⟩ := h
    refine q_iast C hP g19 g21 dX12_land_190 (fun H locs hP => ?_)
    obtain ⟨u_190, eu_190, hP⟩ := Hp.nm hP
    have h := h u_190 eu_190
    refine lv_iconst (v := (0 : Int32)) hx hb dX12_land_191 (by decide) ?_
    refine lv_istore (lv' := [(4, .int (0 : Int32)), (0, .ref x0), (1, .int x1)]) hx hb dX12_land_192 hl (by decide) rfl (fun ls hl => ?_)
    obtain ⟨n, h⟩ := h
    exact l_X12_land_194 C hr hlk n x0 x1 (0 : Int32) u_190 _ _ _ h (lv_sub hl [1, 2, 0] rfl) hP
  · have h := h.2 c100
    refine lv_aload_n hx hb dX12_land_103 rfl (lv_at hl 0 rfl) ?_
    refine lv_aload_n hx hb dX12_land_104 rfl (lv_at hl 0 rfl) ?_
    refine q_getI C hP (k := 20) (lay_X12 C.hA) rfl (by decide) g1 (fl_X12_195 C.hA) dX12_land_105 ?_
    refine q_putI C hP (k := 21) tyX12_ok nmX12 (lay_X12 C.hA) rfl (by decide) rfl rfl rfl rfl g1 (fl_X12_54 C.hA) dX12_land_108 (fun H locs hP => ?_)
    obtain ⟨u_108, eu_108, hP⟩ := Hp.nm hP
    have h := h u_108 eu_108
    refine lv_aload_n hx hb dX12_land_111 rfl (lv_at hl 0 rfl) ?_
    obtain ⟨g22, h⟩ := h
    refine q_getR C hP (k := 10) (lay_X12 C.hA) rfl (by decide) g1 g22 (fl_X12_48 C.hA) dX12_land_112 ?_
    refine lv_iconst (v := (0 : Int32)) hx hb dX12_land_115 (by decide) ?_
    refine lv_dup2_11 hx hb dX12_land_116 rfl rfl ?_
    obtain ⟨g23, h⟩ := h
    obtain ⟨g24, h⟩ := h
    refine q_iald C hP g23 g24 dX12_land_117 ?_
    refine lv_iconst (v := (1 : Int32)) hx hb dX12_land_118 (by decide) ?_
    refine lv_iadd hx hb dX12_land_119 ?_
    refine q_iast C hP g23 g24 dX12_land_120 (fun H locs hP => ?_)
    obtain ⟨u_120, eu_120, hP⟩ := Hp.nm hP
    have h := h u_120 eu_120
    refine lv_aload_n hx hb dX12_land_121 rfl (lv_at hl 0 rfl) ?_
    refine q_getI C hP (k := 19) (lay_X12 C.hA) rfl (by decide) g1 (fl_X12_192 C.hA) dX12_land_122 ?_
    exact q_iret C hr hlk hP h (by decide) (by decide) dX12_land_125
set_option maxHeartbeats 4000000 in
set_option maxRecDepth 100000 in
theorem b_X12_land_73 {G : Gx} {Q : Int32 → Mm → Prop} {p : Program} {l : Launch} {e : Env} {s : State} {m : MethodId} {args : Array Value} {below : List Frame} {meth : Method} {c : Code} (C : Cx G p s m c cX12_land RX12 5) (hr : meth.sig.returnType = (some .int)) (hlk : meth.locks = false) {k_73 : Nat → Int32 → Int32 → Mm → Prop} (hk_73 : ∀ (x0 : Nat) (x1 : Int32) (x3 : Int32) (u : Mm) (H : Heap) (locs : List Loc) (ls : Array Slot), k_73 x0 x1 x3 u → lv_has ls 5 [(0, .ref x0), (1, .int x1), (3, .int x3)] → Hp G u s H locs → W p l e rm_X12_land s m args below meth c H locs 0 0 (MQ below (Ei G Q) args s 0 0 (ag G)) (F0 m 73 ls [])) {x0 : Nat} {x1 : Int32} {x3 : Int32} {u : Mm} {H : Heap} {locs : List Loc} {ls : Array Slot} (h : V_X12_land_73_B G Q k_73 x0 x1 x3 u) (hl : lv_has ls 5 [(0, .ref x0), (1, .int x1), (3, .int x3)]) (hP : Hp G u s H locs) : W p l e rm_X12_land s m args below meth c H locs 0 0 (MQ below (Ei G Q) args s 0 0 (ag G)) (F0 m 73 ls []) := by
  have hx := C.1
  have hb := C.2.1
  unfold V_X12_land_73_B at h
  refine lv_aload_n hx hb dX12_land_73 rfl (lv_at hl 0 rfl) ?_
  obtain ⟨g1, h⟩ := h
  refine q_getI C hP (k := 19) (lay_X12 C.hA) rfl (by decide) g1 (fl_X12_192 C.hA) dX12_land_74 ?_
  refine lv_if_ne (tgt := 96) hx hb dX12_land_77 (by decide) (fun c77 => ?_) (fun c77 => ?_)
  · have h := h.2 c77
    exact b_X12_land_96 C hr hlk h (lv_sub hl [0, 1] rfl) hP
  · have h := h.1 c77
    refine lv_aload_n hx hb dX12_land_80 rfl (lv_at hl 0 rfl) ?_
    refine q_getI C hP (k := 15) (lay_X12 C.hA) rfl (by decide) g1 (fl_X12_170 C.hA) dX12_land_81 ?_
    refine lv_if_eq (tgt := 96) hx hb dX12_land_84 (by decide) (fun c84 => ?_) (fun c84 => ?_)
    · have h := h.1 c84
      exact b_X12_land_96 C hr hlk h (lv_sub hl [0, 1] rfl) hP
    · have h := h.2 c84
      refine lv_aload_n hx hb dX12_land_87 rfl (lv_at hl 0 rfl) ?_
      refine lv_iload_n hx hb dX12_land_88 rfl (lv_at hl 2 rfl) ?_
      refine q_cali (q_runV C hP (c_X12_readLine h) (cd_X12_readLine C.hA) (ini_X12 C.hA) (ml_X12_252 C.hA) (im_X12_readLine C.hA) (sl_X12_readLine C.hA) g1 (by decide) rfl hd_X12_readLine ⟨rfl, rfl⟩ ⟨Nat.le_of_ble_eq_true rfl, Nat.le_of_ble_eq_true rfl⟩ ⟨Nat.le_of_ble_eq_true rfl, Nat.le_of_ble_eq_true rfl⟩ hl.1 rfl (Nat.le_of_ble_eq_true rfl) dX12_land_89) hP (fun v_89 u_89 H locs h hP => ?_)
      refine lv_istore_n (lv' := [(3, .int v_89), (0, .ref x0), (1, .int x1)]) hx hb dX12_land_92 rfl hl (by decide) rfl (fun ls hl => ?_)
      refine lv_goto (tgt := 73) hx hb dX12_land_93 (by decide) ?_
      exact hk_73 x0 x1 v_89 u_89 _ _ _ h (lv_sub hl [1, 2, 0] rfl) hP
theorem l_X12_land_73 {G : Gx} {Q : Int32 → Mm → Prop} {p : Program} {l : Launch} {e : Env} {s : State} {m : MethodId} {args : Array Value} {below : List Frame} {meth : Method} {c : Code} (C : Cx G p s m c cX12_land RX12 5) (hr : meth.sig.returnType = (some .int)) (hlk : meth.locks = false) : ∀ (n : Nat) (x0 : Nat) (x1 : Int32) (x3 : Int32) (u : Mm) (H : Heap) (locs : List Loc) (ls : Array Slot), V_X12_land_73 G Q n x0 x1 x3 u → lv_has ls 5 [(0, .ref x0), (1, .int x1), (3, .int x3)] → Hp G u s H locs → W p l e rm_X12_land s m args below meth c H locs 0 0 (MQ below (Ei G Q) args s 0 0 (ag G)) (F0 m 73 ls []) := by
  intro n
  induction n with
  | zero => intro x0 x1 x3 u H locs ls h; exact h.elim
  | succ n ih => intro x0 x1 x3 u H locs ls h hl hP; exact b_X12_land_73 C hr hlk ih h hl hP
set_option maxHeartbeats 4000000 in
set_option maxRecDepth 100000 in
theorem b_X12_land_30 {G : Gx} {Q : Int32 → Mm → Prop} {p : Program} {l : Launch} {e : Env} {s : State} {m : MethodId} {args : Array Value} {below : List Frame} {meth : Method} {c : Code} (C : Cx G p s m c cX12_land RX12 5) (hr : meth.sig.returnType = (some .int)) (hlk : meth.locks = false) {x0 : Nat} {u : Mm} {H : Heap} {locs : List Loc} {ls : Array Slot} (h : V_X12_land_30 G Q x0 u) (hl : lv_has ls 5 [(0, .ref x0)]) (hP : Hp G u s H locs) : W p l e rm_X12_land s m args below meth c H locs 0 0 (MQ below (Ei G Q) args s 0 0 (ag G)) (F0 m 30 ls []) := by
  have hx := C.1
  have hb := C.2.1
  unfold V_X12_land_30 at h
  refine lv_aload_n hx hb dX12_land_30 rfl (lv_at hl 0 rfl) ?_
  refine lv_iconst (v := (2 : Int32)) hx hb dX12_land_31 (by decide) ?_
  obtain ⟨g1, h⟩ := h
  refine q_cali (q_runV C hP (c_X12_fail h) (cd_X12_fail C.hA) (ini_X12 C.hA) (ml_X12_249 C.hA) (im_X12_fail C.hA) (sl_X12_fail C.hA) g1 (by decide) rfl hd_X12_fail ⟨rfl, rfl⟩ ⟨Nat.le_of_ble_eq_true rfl, Nat.le_of_ble_eq_true rfl⟩ ⟨Nat.le_of_ble_eq_true rfl, Nat.le_of_ble_eq_true rfl⟩ hl.1 rfl (Nat.le_of_ble_eq_true rfl) dX12_land_32) hP (fun v_32 u_32 H locs h hP => ?_)
  exact q_iret C hr hlk hP h (by decide) (by decide) dX12_land_35
set_option maxHeartbeats 4000000 in
set_option maxRecDepth 100000 in
theorem c_X12_land {l : Launch} {G : Gx} {p0 : Nat} {p1 : Int32} {p2 : Int32} {u : Mm} {Q : Int32 → Mm → Prop} (h : V_X12_land G p0 p1 p2 u Q) : Met l yX12_land [.code yX12_land cX12_land 5 (some .int)] rm_X12_land (va_Pc [.ref p0, .int p1, .int p2] (Wd G u)) (Ei G Q) 0 0 (ag G) := by
  refine q_met (by decide) (Nat.le_of_ble_eq_true rfl) ?_
  intro p e s m below meth c ls C hr hlk hnm hl hP
  have hl : lv_has ls 5 [(0, .ref p0), (1, .int p1), (2, .int p2)] := hl
  generalize ([.ref p0, .int p1, .int p2] : List Value).toArray = args
  have hx := C.1
  have hb := C.2.1
  unfold V_X12_land at h
  refine lv_aload_n hx hb dX12_land_0 rfl (lv_at hl 0 rfl) ?_
  refine lv_iconst (v := (0 : Int32)) hx hb dX12_land_1 (by decide) ?_
  obtain ⟨g1, h⟩ := h
  refine q_putI C hP (k := 1) tyX12_ok nmX12 (lay_X12 C.hA) rfl (by decide) rfl rfl rfl rfl g1 (fl_X12_147 C.hA) dX12_land_2 (fun H locs hP => ?_)
  obtain ⟨u_2, eu_2, hP⟩ := Hp.nm hP
  have h := h u_2 eu_2
  refine lv_iload_n hx hb dX12_land_5 rfl (lv_at hl 1 rfl) ?_
  refine q_cali (q_runS C hP (c_X12_isLand h) (cd_X12_isLand C.hA) (ini_X12 C.hA) (ml_X12_246 C.hA) (st_X12_isLand C.hA) hd_X12_isLand ⟨rfl, rfl⟩ ⟨Nat.le_of_ble_eq_true rfl, Nat.le_of_ble_eq_true rfl⟩ ⟨Nat.le_of_ble_eq_true rfl, Nat.le_of_ble_eq_true rfl⟩ hl.1 rfl (Nat.le_of_ble_eq_true rfl) dX12_land_6) hP (fun v_6 u_6 H locs h hP => ?_)
  refine lv_if_ne (tgt := 18) hx hb dX12_land_9 (by decide) (fun c9 => ?_) (fun c9 => ?_)
  · have h := h.2 c9
    refine lv_iload_n hx hb dX12_land_18 rfl (lv_at hl 2 rfl) ?_
    refine lv_if_lt (tgt := 30) hx hb dX12_land_19 (by decide) (fun c19 => ?_) (fun c19 => ?_)
    · have h := h.1 c19
      exact b_X12_land_30 C hr hlk h (lv_sub hl [0] rfl) hP
    · have h := h.2 c19
      refine lv_iload_n hx hb dX12_land_22 rfl (lv_at hl 2 rfl) ?_
      refine lv_aload_n hx hb dX12_land_23 rfl (lv_at hl 0 rfl) ?_
      refine q_getI C hP (k := 12) (lay_X12 C.hA) rfl (by decide) g1 (fl_X12_154 C.hA) dX12_land_24 ?_
      refine lv_icmp_le (tgt := 36) hx hb dX12_land_27 (by decide) (fun c27 => ?_) (fun c27 => ?_)
      · have h := h.1 c27
        refine lv_aload_n hx hb dX12_land_36 rfl (lv_at hl 0 rfl) ?_
        refine lv_iconst (v := (0 : Int32)) hx hb dX12_land_37 (by decide) ?_
        refine q_putI C hP (k := 12) tyX12_ok nmX12 (lay_X12 C.hA) rfl (by decide) rfl rfl rfl rfl g1 (fl_X12_154 C.hA) dX12_land_38 (fun H locs hP => ?_)
        obtain ⟨u_38, eu_38, hP⟩ := Hp.nm hP
        have h := h u_38 eu_38
        refine lv_aload_n hx hb dX12_land_41 rfl (lv_at hl 0 rfl) ?_
        refine lv_iload_n hx hb dX12_land_42 rfl (lv_at hl 2 rfl) ?_
        refine q_putI C hP (k := 14) tyX12_ok nmX12 (lay_X12 C.hA) rfl (by decide) rfl rfl rfl rfl g1 (fl_X12_157 C.hA) dX12_land_43 (fun H locs hP => ?_)
        obtain ⟨u_43, eu_43, hP⟩ := Hp.nm hP
        have h := h u_43 eu_43
        refine lv_aload_n hx hb dX12_land_46 rfl (lv_at hl 0 rfl) ?_
        refine lv_iconst (v := (0 : Int32)) hx hb dX12_land_47 (by decide) ?_
        refine q_putI C hP (k := 13) tyX12_ok nmX12 (lay_X12 C.hA) rfl (by decide) rfl rfl rfl rfl g1 (fl_X12_160 C.hA) dX12_land_48 (fun H locs hP => ?_)
        obtain ⟨u_48, eu_48, hP⟩ := Hp.nm hP
        have h := h u_48 eu_48
        refine lv_aload_n hx hb dX12_land_51 rfl (lv_at hl 0 rfl) ?_
        refine lv_iconst (v := (0 : Int32)) hx hb dX12_land_52 (by decide) ?_
        refine q_putI C hP (k := 19) tyX12_ok nmX12 (lay_X12 C.hA) rfl (by decide) rfl rfl rfl rfl g1 (fl_X12_192 C.hA) dX12_land_53 (fun H locs hP => ?_)
        obtain ⟨u_53, eu_53, hP⟩ := Hp.nm hP
        have h := h u_53 eu_53
        refine lv_aload_n hx hb dX12_land_56 rfl (lv_at hl 0 rfl) ?_
        refine lv_iconst (v := (-1 : Int32)) hx hb dX12_land_57 (by decide) ?_
        refine q_putI C hP (k := 21) tyX12_ok nmX12 (lay_X12 C.hA) rfl (by decide) rfl rfl rfl rfl g1 (fl_X12_54 C.hA) dX12_land_58 (fun H locs hP => ?_)
        obtain ⟨u_58, eu_58, hP⟩ := Hp.nm hP
        have h := h u_58 eu_58
        refine lv_aload_n hx hb dX12_land_61 rfl (lv_at hl 0 rfl) ?_
        refine lv_bipush (v := (6 : Int32)) hx hb dX12_land_62 (by decide) ?_
        refine q_calv (q_runV C hP (c_X12_atFirst h) (cd_X12_atFirst C.hA) (ini_X12 C.hA) (ml_X12_143 C.hA) (im_X12_atFirst C.hA) (sl_X12_atFirst C.hA) g1 (by decide) rfl hd_X12_atFirst ⟨rfl, rfl⟩ ⟨Nat.le_of_ble_eq_true rfl, Nat.le_of_ble_eq_true rfl⟩ ⟨Nat.le_of_ble_eq_true rfl, Nat.le_of_ble_eq_true rfl⟩ hl.1 rfl (Nat.le_of_ble_eq_true rfl) dX12_land_64) hP (fun u_64 H locs h hP => ?_)
        refine lv_aload_n hx hb dX12_land_67 rfl (lv_at hl 0 rfl) ?_
        refine q_calv (q_runV C hP (c_X12_stepOn h) (cd_X12_stepOn C.hA) (ini_X12 C.hA) (ml_X12_210 C.hA) (im_X12_stepOn C.hA) (sl_X12_stepOn C.hA) g1 (by decide) rfl hd_X12_stepOn ⟨rfl, rfl⟩ ⟨Nat.le_of_ble_eq_true rfl, Nat.le_of_ble_eq_true rfl⟩ ⟨Nat.le_of_ble_eq_true rfl, Nat.le_of_ble_eq_true rfl⟩ hl.1 rfl (Nat.le_of_ble_eq_true rfl) dX12_land_68) hP (fun u_68 H locs h hP => ?_)
        refine lv_iconst (v := (0 : Int32)) hx hb dX12_land_71 (by decide) ?_
        refine lv_istore_n (lv' := [(3, .int (0 : Int32)), (0, .ref p0), (1, .int p1), (2, .int p2)]) hx hb dX12_land_72 rfl hl (by decide) rfl (fun ls hl => ?_)
        obtain ⟨n, h⟩ := h
        exact l_X12_land_73 C hr hlk n p0 p1 (0 : Int32) u_68 _ _ _ h (lv_sub hl [1, 2, 0] rfl) hP
      · have h := h.2 c27
        exact b_X12_land_30 C hr hlk h (lv_sub hl [0] rfl) hP
  · have h := h.1 c9
    refine lv_aload_n hx hb dX12_land_12 rfl (lv_at hl 0 rfl) ?_
    refine lv_iconst (v := (1 : Int32)) hx hb dX12_land_13 (by decide) ?_
    refine q_cali (q_runV C hP (c_X12_fail h) (cd_X12_fail C.hA) (ini_X12 C.hA) (ml_X12_249 C.hA) (im_X12_fail C.hA) (sl_X12_fail C.hA) g1 (by decide) rfl hd_X12_fail ⟨rfl, rfl⟩ ⟨Nat.le_of_ble_eq_true rfl, Nat.le_of_ble_eq_true rfl⟩ ⟨Nat.le_of_ble_eq_true rfl, Nat.le_of_ble_eq_true rfl⟩ hl.1 rfl (Nat.le_of_ble_eq_true rfl) dX12_land_14) hP (fun v_14 u_14 H locs h hP => ?_)
    exact q_iret C hr hlk hP h (by decide) (by decide) dX12_land_17
