-- X12_fault
abbrev rm_X12_fault : Room := { frames := 0, cells := 0, slots := 0, locals := 0 }
theorem hd_X12_fault : yX12_fault.cls ≠ "java/lang/invoke/MethodHandle" ∧ yX12_fault.cls ≠ "java/lang/invoke/VarHandle" ∧ (parseMethodDescriptor yX12_fault.desc).map (fun d => d.parameters.length) = some 0 := by decide +kernel
def V_X12_fault (G : Gx) (p0 : Nat) (u : Mm) (Q : Int32 → Mm → Prop) : Prop :=
  kd G p0 = 12 ∧ ∀ u_2 : Mm, u_2 = sI u p0 1 (0 : Int32) → Q (gI u_2 p0 21) u_2
set_option maxHeartbeats 4000000 in
set_option maxRecDepth 100000 in
theorem c_X12_fault {l : Launch} {G : Gx} {p0 : Nat} {u : Mm} {Q : Int32 → Mm → Prop} (h : V_X12_fault G p0 u Q) : Met l yX12_fault [.code yX12_fault cX12_fault 1 (some .int)] rm_X12_fault (va_Pc [.ref p0] (Wd G u)) (Ei G Q) 0 0 (ag G) := by
  refine q_met (by decide) (Nat.le_of_ble_eq_true rfl) ?_
  intro p e s m below meth c ls C hr hlk hnm hl hP
  have hl : lv_has ls 1 [(0, .ref p0)] := hl
  generalize ([.ref p0] : List Value).toArray = args
  have hx := C.1
  have hb := C.2.1
  unfold V_X12_fault at h
  refine lv_aload_n hx hb dX12_fault_0 rfl (lv_at hl 0 rfl) ?_
  refine lv_iconst (v := (0 : Int32)) hx hb dX12_fault_1 (by decide) ?_
  obtain ⟨g1, h⟩ := h
  refine q_putI C hP (k := 1) tyX12_ok nmX12 (lay_X12 C.hA) rfl (by decide) rfl rfl rfl rfl g1 (fl_X12_147 C.hA) dX12_fault_2 (fun H locs hP => ?_)
  obtain ⟨u_2, eu_2, hP⟩ := Hp.nm hP
  have h := h u_2 eu_2
  refine lv_aload_n hx hb dX12_fault_5 rfl (lv_at hl 0 rfl) ?_
  refine q_getI C hP (k := 21) (lay_X12 C.hA) rfl (by decide) g1 (fl_X12_54 C.hA) dX12_fault_6 ?_
  exact q_iret C hr hlk hP h (by decide) (by decide) dX12_fault_9
-- X12_count
abbrev rm_X12_count : Room := { frames := 1, cells := 0, slots := 0, locals := 22 }
theorem hd_X12_count : yX12_count.cls ≠ "java/lang/invoke/MethodHandle" ∧ yX12_count.cls ≠ "java/lang/invoke/VarHandle" ∧ (parseMethodDescriptor yX12_count.desc).map (fun d => d.parameters.length) = some 1 := by decide +kernel
def V_X12_count (G : Gx) (p0 : Nat) (p1 : Int32) (u : Mm) (Q : Int32 → Mm → Prop) : Prop :=
  kd G p0 = 12 ∧ ∀ u_2 : Mm, u_2 = sI u p0 1 (0 : Int32) → ((p1 = 0 → Q (gI u_2 p0 12) u_2) ∧ (¬ p1 = 0 → ((p1 = (1 : Int32) → Q (gI u_2 p0 27) u_2) ∧ (¬ p1 = (1 : Int32) → ((p1 = (2 : Int32) → Q (gI u_2 p0 28) u_2) ∧ (¬ p1 = (2 : Int32) → V_X12_isIn G p1 (3 : Int32) (6 : Int32) u_2 (fun (v_44 : Int32) (u_44 : Mm) => ((v_44 = 0 → V_X12_fail G p0 (1 : Int32) u_44 (fun (v_63 : Int32) (u_63 : Mm) => Q v_63 u_63)) ∧ (¬ v_44 = 0 → (gR u_44 p0 10) ≠ 0 ∧ kd G (gR u_44 p0 10) = 13 ∧ vp_in (p1 - (3 : Int32)) (ln G (gR u_44 p0 10)) ∧ Q (gI u_44 (gR u_44 p0 10) (p1 - (3 : Int32)).toNatClampNeg) u_44)))))))))
set_option maxHeartbeats 4000000 in
set_option maxRecDepth 100000 in
theorem c_X12_count {l : Launch} {G : Gx} {p0 : Nat} {p1 : Int32} {u : Mm} {Q : Int32 → Mm → Prop} (h : V_X12_count G p0 p1 u Q) : Met l yX12_count [.code yX12_count cX12_count 2 (some .int)] rm_X12_count (va_Pc [.ref p0, .int p1] (Wd G u)) (Ei G Q) 0 0 (ag G) := by
  refine q_met (by decide) (Nat.le_of_ble_eq_true rfl) ?_
  intro p e s m below meth c ls C hr hlk hnm hl hP
  have hl : lv_has ls 2 [(0, .ref p0), (1, .int p1)] := hl
  generalize ([.ref p0, .int p1] : List Value).toArray = args
  have hx := C.1
  have hb := C.2.1
  unfold V_X12_count at h
  refine lv_aload_n hx hb dX12_count_0 rfl (lv_at hl 0 rfl) ?_
  refine lv_iconst (v := (0 : Int32)) hx hb dX12_count_1 (by decide) ?_
  obtain ⟨g1, h⟩ := h
  refine q_putI C hP (k := 1) tyX12_ok nmX12 (lay_X12 C.hA) rfl (by decide) rfl rfl rfl rfl g1 (fl_X12_147 C.hA) dX12_count_2 (fun H locs hP => ?_)
  obtain ⟨u_2, eu_2, hP⟩ := Hp.nm hP
  have h := h u_2 eu_2
  refine lv_iload_n hx hb dX12_count_5 rfl (lv_at hl 1 rfl) ?_
  refine lv_if_ne (tgt := 16) hx hb dX12_count_6 (by decide) (fun c6 => ?_) (fun c6 => ?_)
  · have h := h.2 c6
    refine lv_iload_n hx hb dX12_count_16 rfl (lv_at hl 1 rfl) ?_
    refine lv_iconst (v := (1 : Int32)) hx hb dX12_count_17 (by decide) ?_
    refine lv_icmp_ne (tgt := 28) hx hb dX12_count_18 (by decide) (fun c18 => ?_) (fun c18 => ?_)
    · have h := h.2 c18
      refine lv_iload_n hx hb dX12_count_28 rfl (lv_at hl 1 rfl) ?_
      refine lv_iconst (v := (2 : Int32)) hx hb dX12_count_29 (by decide) ?_
      refine lv_icmp_ne (tgt := 40) hx hb dX12_count_30 (by decide) (fun c30 => ?_) (fun c30 => ?_)
      · have h := h.2 c30
        refine lv_iload_n hx hb dX12_count_40 rfl (lv_at hl 1 rfl) ?_
        refine lv_iconst (v := (3 : Int32)) hx hb dX12_count_41 (by decide) ?_
        refine lv_bipush (v := (6 : Int32)) hx hb dX12_count_42 (by decide) ?_
        refine q_cali (q_runS C hP (c_X12_isIn h) (cd_X12_isIn C.hA) (ini_X12 C.hA) (ml_X12_150 C.hA) (st_X12_isIn C.hA) hd_X12_isIn ⟨rfl, rfl⟩ ⟨Nat.le_of_ble_eq_true rfl, Nat.le_of_ble_eq_true rfl⟩ ⟨Nat.le_of_ble_eq_true rfl, Nat.le_of_ble_eq_true rfl⟩ hl.1 rfl (Nat.le_of_ble_eq_true rfl) dX12_count_44) hP (fun v_44 u_44 H locs h hP => ?_)
        refine lv_if_eq (tgt := 61) hx hb dX12_count_47 (by decide) (fun c47 => ?_) (fun c47 => ?_)
        · have h := h.1 c47
          refine lv_aload_n hx hb dX12_count_61 rfl (lv_at hl 0 rfl) ?_
          refine lv_iconst (v := (1 : Int32)) hx hb dX12_count_62 (by decide) ?_
          refine q_cali (q_runV C hP (c_X12_fail h) (cd_X12_fail C.hA) (ini_X12 C.hA) (ml_X12_249 C.hA) (im_X12_fail C.hA) (sl_X12_fail C.hA) g1 (by decide) rfl hd_X12_fail ⟨rfl, rfl⟩ ⟨Nat.le_of_ble_eq_true rfl, Nat.le_of_ble_eq_true rfl⟩ ⟨Nat.le_of_ble_eq_true rfl, Nat.le_of_ble_eq_true rfl⟩ hl.1 rfl (Nat.le_of_ble_eq_true rfl) dX12_count_63) hP (fun v_63 u_63 H locs h hP => ?_)
          exact q_iret C hr hlk hP h (by decide) (by decide) dX12_count_66
        · have h := h.2 c47
          refine lv_aload_n hx hb dX12_count_50 rfl (lv_at hl 0 rfl) ?_
          obtain ⟨g2, h⟩ := h
          refine q_getR C hP (k := 10) (lay_X12 C.hA) rfl (by decide) g1 g2 (fl_X12_48 C.hA) dX12_count_51 ?_
          refine lv_iload_n hx hb dX12_count_54 rfl (lv_at hl 1 rfl) ?_
          refine lv_iconst (v := (3 : Int32)) hx hb dX12_count_55 (by decide) ?_
          refine lv_isub hx hb dX12_count_56 ?_
          obtain ⟨g3, h⟩ := h
          obtain ⟨g4, h⟩ := h
          refine q_iald C hP g3 g4 dX12_count_57 ?_
          refine lv_goto (tgt := 66) hx hb dX12_count_58 (by decide) ?_
          exact q_iret C hr hlk hP h (by decide) (by decide) dX12_count_66
      · have h := h.1 c30
        refine lv_aload_n hx hb dX12_count_33 rfl (lv_at hl 0 rfl) ?_
        refine q_getI C hP (k := 28) (lay_X12 C.hA) rfl (by decide) g1 (fl_X12_258 C.hA) dX12_count_34 ?_
        refine lv_goto (tgt := 66) hx hb dX12_count_37 (by decide) ?_
        exact q_iret C hr hlk hP h (by decide) (by decide) dX12_count_66
    · have h := h.1 c18
      refine lv_aload_n hx hb dX12_count_21 rfl (lv_at hl 0 rfl) ?_
      refine q_getI C hP (k := 27) (lay_X12 C.hA) rfl (by decide) g1 (fl_X12_255 C.hA) dX12_count_22 ?_
      refine lv_goto (tgt := 66) hx hb dX12_count_25 (by decide) ?_
      exact q_iret C hr hlk hP h (by decide) (by decide) dX12_count_66
  · have h := h.1 c6
    refine lv_aload_n hx hb dX12_count_9 rfl (lv_at hl 0 rfl) ?_
    refine q_getI C hP (k := 12) (lay_X12 C.hA) rfl (by decide) g1 (fl_X12_154 C.hA) dX12_count_10 ?_
    refine lv_goto (tgt := 66) hx hb dX12_count_13 (by decide) ?_
    exact q_iret C hr hlk hP h (by decide) (by decide) dX12_count_66
-- X12_about
abbrev rm_X12_about : Room := { frames := 2, cells := 0, slots := 0, locals := 42 }
theorem hd_X12_about : yX12_about.cls ≠ "java/lang/invoke/MethodHandle" ∧ yX12_about.cls ≠ "java/lang/invoke/VarHandle" ∧ (parseMethodDescriptor yX12_about.desc).map (fun d => d.parameters.length) = some 2 := by decide +kernel
def V_X12_about (G : Gx) (p0 : Nat) (p1 : Int32) (p2 : Int32) (u : Mm) (Q : Int32 → Mm → Prop) : Prop :=
  kd G p0 = 12 ∧ ∀ u_2 : Mm, u_2 = sI u p0 1 (0 : Int32) → V_X12_isLand G p1 u_2 (fun (v_6 : Int32) (u_6 : Mm) => ((v_6 = 0 → V_X12_fail G p0 (1 : Int32) u_6 (fun (v_14 : Int32) (u_14 : Mm) => Q v_14 u_14)) ∧ (¬ v_6 = 0 → ((p2 = 0 → (gR u_6 p0 2) ≠ 0 ∧ kd G (gR u_6 p0 2) = 13 ∧ vp_in p1 (ln G (gR u_6 p0 2)) ∧ Q (gI u_6 (gR u_6 p0 2) p1.toNatClampNeg) u_6) ∧ (¬ p2 = 0 → ((p2 = (1 : Int32) → (gR u_6 p0 3) ≠ 0 ∧ kd G (gR u_6 p0 3) = 13 ∧ vp_in p1 (ln G (gR u_6 p0 3)) ∧ Q (gI u_6 (gR u_6 p0 3) p1.toNatClampNeg) u_6) ∧ (¬ p2 = (1 : Int32) → ((p2 = (2 : Int32) → (gR u_6 p0 4) ≠ 0 ∧ kd G (gR u_6 p0 4) = 13 ∧ vp_in p1 (ln G (gR u_6 p0 4)) ∧ Q (gI u_6 (gR u_6 p0 4) p1.toNatClampNeg) u_6) ∧ (¬ p2 = (2 : Int32) → ((p2 = (3 : Int32) → (gR u_6 p0 5) ≠ 0 ∧ kd G (gR u_6 p0 5) = 13 ∧ vp_in p1 (ln G (gR u_6 p0 5)) ∧ Q (gI u_6 (gR u_6 p0 5) p1.toNatClampNeg) u_6) ∧ (¬ p2 = (3 : Int32) → ((p2 = (4 : Int32) → (gR u_6 p0 6) ≠ 0 ∧ kd G (gR u_6 p0 6) = 13 ∧ vp_in p1 (ln G (gR u_6 p0 6)) ∧ Q (gI u_6 (gR u_6 p0 6) p1.toNatClampNeg) u_6) ∧ (¬ p2 = (4 : Int32) → V_X12_fail G p0 (1 : Int32) u_6 (fun (v_89 : Int32) (u_89 : Mm) => Q v_89 u_89))))))))))))))
set_option maxHeartbeats 4000000 in
set_option maxRecDepth 100000 in
theorem c_X12_about {l : Launch} {G : Gx} {p0 : Nat} {p1 : Int32} {p2 : Int32} {u : Mm} {Q : Int32 → Mm → Prop} (h : V_X12_about G p0 p1 p2 u Q) : Met l yX12_about [.code yX12_about cX12_about 3 (some .int)] rm_X12_about (va_Pc [.ref p0, .int p1, .int p2] (Wd G u)) (Ei G Q) 0 0 (ag G) := by
  refine q_met (by decide) (Nat.le_of_ble_eq_true rfl) ?_
  intro p e s m below meth c ls C hr hlk hnm hl hP
  have hl : lv_has ls 3 [(0, .ref p0), (1, .int p1), (2, .int p2)] := hl
  generalize ([.ref p0, .int p1, .int p2] : List Value).toArray = args
  have hx := C.1
  have hb := C.2.1
  unfold V_X12_about at h
  refine lv_aload_n hx hb dX12_about_0 rfl (lv_at hl 0 rfl) ?_
  refine lv_iconst (v := (0 : Int32)) hx hb dX12_about_1 (by decide) ?_
  obtain ⟨g1, h⟩ := h
  refine q_putI C hP (k := 1) tyX12_ok nmX12 (lay_X12 C.hA) rfl (by decide) rfl rfl rfl rfl g1 (fl_X12_147 C.hA) dX12_about_2 (fun H locs hP => ?_)
  obtain ⟨u_2, eu_2, hP⟩ := Hp.nm hP
  have h := h u_2 eu_2
  refine lv_iload_n hx hb dX12_about_5 rfl (lv_at hl 1 rfl) ?_
  refine q_cali (q_runS C hP (c_X12_isLand h) (cd_X12_isLand C.hA) (ini_X12 C.hA) (ml_X12_246 C.hA) (st_X12_isLand C.hA) hd_X12_isLand ⟨rfl, rfl⟩ ⟨Nat.le_of_ble_eq_true rfl, Nat.le_of_ble_eq_true rfl⟩ ⟨Nat.le_of_ble_eq_true rfl, Nat.le_of_ble_eq_true rfl⟩ hl.1 rfl (Nat.le_of_ble_eq_true rfl) dX12_about_6) hP (fun v_6 u_6 H locs h hP => ?_)
  refine lv_if_ne (tgt := 18) hx hb dX12_about_9 (by decide) (fun c9 => ?_) (fun c9 => ?_)
  · have h := h.2 c9
    refine lv_iload_n hx hb dX12_about_18 rfl (lv_at hl 2 rfl) ?_
    refine lv_if_ne (tgt := 31) hx hb dX12_about_19 (by decide) (fun c19 => ?_) (fun c19 => ?_)
    · have h := h.2 c19
      refine lv_iload_n hx hb dX12_about_31 rfl (lv_at hl 2 rfl) ?_
      refine lv_iconst (v := (1 : Int32)) hx hb dX12_about_32 (by decide) ?_
      refine lv_icmp_ne (tgt := 45) hx hb dX12_about_33 (by decide) (fun c33 => ?_) (fun c33 => ?_)
      · have h := h.2 c33
        refine lv_iload_n hx hb dX12_about_45 rfl (lv_at hl 2 rfl) ?_
        refine lv_iconst (v := (2 : Int32)) hx hb dX12_about_46 (by decide) ?_
        refine lv_icmp_ne (tgt := 59) hx hb dX12_about_47 (by decide) (fun c47 => ?_) (fun c47 => ?_)
        · have h := h.2 c47
          refine lv_iload_n hx hb dX12_about_59 rfl (lv_at hl 2 rfl) ?_
          refine lv_iconst (v := (3 : Int32)) hx hb dX12_about_60 (by decide) ?_
          refine lv_icmp_ne (tgt := 73) hx hb dX12_about_61 (by decide) (fun c61 => ?_) (fun c61 => ?_)
          · have h := h.2 c61
            refine lv_iload_n hx hb dX12_about_73 rfl (lv_at hl 2 rfl) ?_
            refine lv_iconst (v := (4 : Int32)) hx hb dX12_about_74 (by decide) ?_
            refine lv_icmp_ne (tgt := 87) hx hb dX12_about_75 (by decide) (fun c75 => ?_) (fun c75 => ?_)
            · have h := h.2 c75
              refine lv_aload_n hx hb dX12_about_87 rfl (lv_at hl 0 rfl) ?_
              refine lv_iconst (v := (1 : Int32)) hx hb dX12_about_88 (by decide) ?_
              refine q_cali (q_runV C hP (c_X12_fail h) (cd_X12_fail C.hA) (ini_X12 C.hA) (ml_X12_249 C.hA) (im_X12_fail C.hA) (sl_X12_fail C.hA) g1 (by decide) rfl hd_X12_fail ⟨rfl, rfl⟩ ⟨Nat.le_of_ble_eq_true rfl, Nat.le_of_ble_eq_true rfl⟩ ⟨Nat.le_of_ble_eq_true rfl, Nat.le_of_ble_eq_true rfl⟩ hl.1 rfl (Nat.le_of_ble_eq_true rfl) dX12_about_89) hP (fun v_89 u_89 H locs h hP => ?_)
              exact q_iret C hr hlk hP h (by decide) (by decide) dX12_about_92
            · have h := h.1 c75
              refine lv_aload_n hx hb dX12_about_78 rfl (lv_at hl 0 rfl) ?_
              obtain ⟨g2, h⟩ := h
              refine q_getR C hP (k := 6) (lay_X12 C.hA) rfl (by decide) g1 g2 (fl_X12_39 C.hA) dX12_about_79 ?_
              refine lv_iload_n hx hb dX12_about_82 rfl (lv_at hl 1 rfl) ?_
              obtain ⟨g3, h⟩ := h
              obtain ⟨g4, h⟩ := h
              refine q_iald C hP g3 g4 dX12_about_83 ?_
              refine lv_goto (tgt := 92) hx hb dX12_about_84 (by decide) ?_
              exact q_iret C hr hlk hP h (by decide) (by decide) dX12_about_92
          · have h := h.1 c61
            refine lv_aload_n hx hb dX12_about_64 rfl (lv_at hl 0 rfl) ?_
            obtain ⟨g5, h⟩ := h
            refine q_getR C hP (k := 5) (lay_X12 C.hA) rfl (by decide) g1 g5 (fl_X12_37 C.hA) dX12_about_65 ?_
            refine lv_iload_n hx hb dX12_about_68 rfl (lv_at hl 1 rfl) ?_
            obtain ⟨g6, h⟩ := h
            obtain ⟨g7, h⟩ := h
            refine q_iald C hP g6 g7 dX12_about_69 ?_
            refine lv_goto (tgt := 92) hx hb dX12_about_70 (by decide) ?_
            exact q_iret C hr hlk hP h (by decide) (by decide) dX12_about_92
        · have h := h.1 c47
          refine lv_aload_n hx hb dX12_about_50 rfl (lv_at hl 0 rfl) ?_
          obtain ⟨g8, h⟩ := h
          refine q_getR C hP (k := 4) (lay_X12 C.hA) rfl (by decide) g1 g8 (fl_X12_34 C.hA) dX12_about_51 ?_
          refine lv_iload_n hx hb dX12_about_54 rfl (lv_at hl 1 rfl) ?_
          obtain ⟨g9, h⟩ := h
          obtain ⟨g10, h⟩ := h
          refine q_iald C hP g9 g10 dX12_about_55 ?_
          refine lv_goto (tgt := 92) hx hb dX12_about_56 (by decide) ?_
          exact q_iret C hr hlk hP h (by decide) (by decide) dX12_about_92
      · have h := h.1 c33
        refine lv_aload_n hx hb dX12_about_36 rfl (lv_at hl 0 rfl) ?_
        obtain ⟨g11, h⟩ := h
        refine q_getR C hP (k := 3) (lay_X12 C.hA) rfl (by decide) g1 g11 (fl_X12_31 C.hA) dX12_about_37 ?_
        refine lv_iload_n hx hb dX12_about_40 rfl (lv_at hl 1 rfl) ?_
        obtain ⟨g12, h⟩ := h
        obtain ⟨g13, h⟩ := h
        refine q_iald C hP g12 g13 dX12_about_41 ?_
        refine lv_goto (tgt := 92) hx hb dX12_about_42 (by decide) ?_
        exact q_iret C hr hlk hP h (by decide) (by decide) dX12_about_92
    · have h := h.1 c19
      refine lv_aload_n hx hb dX12_about_22 rfl (lv_at hl 0 rfl) ?_
      obtain ⟨g14, h⟩ := h
      refine q_getR C hP (k := 2) (lay_X12 C.hA) rfl (by decide) g1 g14 (fl_X12_27 C.hA) dX12_about_23 ?_
      refine lv_iload_n hx hb dX12_about_26 rfl (lv_at hl 1 rfl) ?_
      obtain ⟨g15, h⟩ := h
      obtain ⟨g16, h⟩ := h
      refine q_iald C hP g15 g16 dX12_about_27 ?_
      refine lv_goto (tgt := 92) hx hb dX12_about_28 (by decide) ?_
      exact q_iret C hr hlk hP h (by decide) (by decide) dX12_about_92
  · have h := h.1 c9
    refine lv_aload_n hx hb dX12_about_12 rfl (lv_at hl 0 rfl) ?_
    refine lv_iconst (v := (1 : Int32)) hx hb dX12_about_13 (by decide) ?_
    refine q_cali (q_runV C hP (c_X12_fail h) (cd_X12_fail C.hA) (ini_X12 C.hA) (ml_X12_249 C.hA) (im_X12_fail C.hA) (sl_X12_fail C.hA) g1 (by decide) rfl hd_X12_fail ⟨rfl, rfl⟩ ⟨Nat.le_of_ble_eq_true rfl, Nat.le_of_ble_eq_true rfl⟩ ⟨Nat.le_of_ble_eq_true rfl, Nat.le_of_ble_eq_true rfl⟩ hl.1 rfl (Nat.le_of_ble_eq_true rfl) dX12_about_14) hP (fun v_14 u_14 H locs h hP => ?_)
    exact q_iret C hr hlk hP h (by decide) (by decide) dX12_about_17
-- X12_side
abbrev rm_X12_side : Room := { frames := 0, cells := 0, slots := 0, locals := 0 }
theorem hd_X12_side : yX12_side.cls ≠ "java/lang/invoke/MethodHandle" ∧ yX12_side.cls ≠ "java/lang/invoke/VarHandle" ∧ (parseMethodDescriptor yX12_side.desc).map (fun d => d.parameters.length) = some 6 := by decide +kernel
def V_X12_side (G : Gx) (p0 : Int32) (p1 : Int32) (p2 : Int32) (p3 : Int32) (p4 : Int32) (p5 : Int32) (u : Mm) (Q : Int32 → Mm → Prop) : Prop :=
  ∀ x6_17 : Int32, x6_17 = (((p2 - p0) * (p5 - p1)) - ((p3 - p1) * (p4 - p0))) → ((x6_17 ≤ 0 → ((0 ≤ x6_17 → Q (0 : Int32) u) ∧ (¬ 0 ≤ x6_17 → Q (-1 : Int32) u))) ∧ (¬ x6_17 ≤ 0 → Q (1 : Int32) u))
set_option maxHeartbeats 4000000 in
set_option maxRecDepth 100000 in
theorem c_X12_side {l : Launch} {G : Gx} {p0 : Int32} {p1 : Int32} {p2 : Int32} {p3 : Int32} {p4 : Int32} {p5 : Int32} {u : Mm} {Q : Int32 → Mm → Prop} (h : V_X12_side G p0 p1 p2 p3 p4 p5 u Q) : Met l yX12_side [.code yX12_side cX12_side 7 (some .int)] rm_X12_side (va_Pc [.int p0, .int p1, .int p2, .int p3, .int p4, .int p5] (Wd G u)) (Ei G Q) 0 0 (ag G) := by
  refine q_met (by decide) (Nat.le_of_ble_eq_true rfl) ?_
  intro p e s m below meth c ls C hr hlk hnm hl hP
  have hl : lv_has ls 7 [(0, .int p0), (1, .int p1), (2, .int p2), (3, .int p3), (4, .int p4), (5, .int p5)] := hl
  generalize ([.int p0, .int p1, .int p2, .int p3, .int p4, .int p5] : List Value).toArray = args
  have hx := C.1
  have hb := C.2.1
  unfold V_X12_side at h
  refine lv_iload_n hx hb dX12_side_0 rfl (lv_at hl 2 rfl) ?_
  refine lv_iload_n hx hb dX12_side_1 rfl (lv_at hl 0 rfl) ?_
  refine lv_isub hx hb dX12_side_2 ?_
  refine lv_iload hx hb dX12_side_3 (lv_at hl 5 rfl) ?_
  refine lv_iload_n hx hb dX12_side_5 rfl (lv_at hl 1 rfl) ?_
  refine lv_isub hx hb dX12_side_6 ?_
  refine lv_imul hx hb dX12_side_7 ?_
  refine lv_iload_n hx hb dX12_side_8 rfl (lv_at hl 3 rfl) ?_
  refine lv_iload_n hx hb dX12_side_9 rfl (lv_at hl 1 rfl) ?_
  refine lv_isub hx hb dX12_side_10 ?_
  refine lv_iload hx hb dX12_side_11 (lv_at hl 4 rfl) ?_
  refine lv_iload_n hx hb dX12_side_13 rfl (lv_at hl 0 rfl) ?_
  refine lv_isub hx hb dX12_side_14 ?_
  refine lv_imul hx hb dX12_side_15 ?_
  refine lv_isub hx hb dX12_side_16 ?_
  refine lv_topi (fun x6_17 ex6_17 => ?_)
  have h := h x6_17 ex6_17
  refine lv_istore (lv' := [(6, .int x6_17), (0, .int p0), (1, .int p1), (2, .int p2), (3, .int p3), (4, .int p4), (5, .int p5)]) hx hb dX12_side_17 hl (by decide) rfl (fun ls hl => ?_)
  refine lv_iload hx hb dX12_side_19 (lv_at hl 0 rfl) ?_
  refine lv_if_le (tgt := 28) hx hb dX12_side_21 (by decide) (fun c21 => ?_) (fun c21 => ?_)
  · have h := h.1 c21
    refine lv_iload hx hb dX12_side_28 (lv_at hl 0 rfl) ?_
    refine lv_if_ge (tgt := 37) hx hb dX12_side_30 (by decide) (fun c30 => ?_) (fun c30 => ?_)
    · have h := h.1 c30
      refine lv_iconst (v := (0 : Int32)) hx hb dX12_side_37 (by decide) ?_
      exact q_iret C hr hlk hP h (by decide) (by decide) dX12_side_38
    · have h := h.2 c30
      refine lv_iconst (v := (-1 : Int32)) hx hb dX12_side_33 (by decide) ?_
      refine lv_goto (tgt := 38) hx hb dX12_side_34 (by decide) ?_
      exact q_iret C hr hlk hP h (by decide) (by decide) dX12_side_38
  · have h := h.2 c21
    refine lv_iconst (v := (1 : Int32)) hx hb dX12_side_24 (by decide) ?_
    refine lv_goto (tgt := 38) hx hb dX12_side_25 (by decide) ?_
    exact q_iret C hr hlk hP h (by decide) (by decide) dX12_side_38
-- X12_meets
abbrev rm_X12_meets : Room := { frames := 1, cells := 0, slots := 0, locals := 26 }
theorem hd_X12_meets : yX12_meets.cls ≠ "java/lang/invoke/MethodHandle" ∧ yX12_meets.cls ≠ "java/lang/invoke/VarHandle" ∧ (parseMethodDescriptor yX12_meets.desc).map (fun d => d.parameters.length) = some 6 := by decide +kernel
def V_X12_meets (G : Gx) (p0 : Nat) (p1 : Int32) (p2 : Int32) (p3 : Int32) (p4 : Int32) (p5 : Int32) (p6 : Int32) (u : Mm) (Q : Int32 → Mm → Prop) : Prop :=
  kd G p0 = 12 ∧ V_X12_ofWood G p0 p1 p2 (0 : Int32) u (fun (v_4 : Int32) (u_4 : Mm) => V_X12_ofWood G p0 p1 p2 (1 : Int32) u_4 (fun (v_13 : Int32) (u_13 : Mm) => V_X12_ofWood G p0 p1 p2 (2 : Int32) u_13 (fun (v_22 : Int32) (u_22 : Mm) => V_X12_ofWood G p0 p1 p2 (3 : Int32) u_22 (fun (v_31 : Int32) (u_31 : Mm) => (((mx p3 p5) < v_4 → Q (0 : Int32) u_31) ∧ (¬ (mx p3 p5) < v_4 → ((v_22 < (mn p3 p5) → Q (0 : Int32) u_31) ∧ (¬ v_22 < (mn p3 p5) → (((mx p4 p6) < v_13 → Q (0 : Int32) u_31) ∧ (¬ (mx p4 p6) < v_13 → (((mn p4 p6) ≤ v_31 → V_X12_side G p3 p4 p5 p6 v_4 v_13 u_31 (fun (v_95 : Int32) (u_95 : Mm) => V_X12_side G p3 p4 p5 p6 v_4 v_31 u_95 (fun (v_109 : Int32) (u_109 : Mm) => V_X12_side G p3 p4 p5 p6 v_22 v_13 u_109 (fun (v_124 : Int32) (u_124 : Mm) => V_X12_side G p3 p4 p5 p6 v_22 v_31 u_124 (fun (v_139 : Int32) (u_139 : Mm) => ∀ x11_143 : Int32, x11_143 = (((v_95 + v_109) + v_124) + v_139) → ((x11_143 ≤ (-4 : Int32) → Q (0 : Int32) u_139) ∧ (¬ x11_143 ≤ (-4 : Int32) → (((4 : Int32) ≤ x11_143 → Q (0 : Int32) u_139) ∧ (¬ (4 : Int32) ≤ x11_143 → Q (1 : Int32) u_139))))))))) ∧ (¬ (mn p4 p6) ≤ v_31 → Q (0 : Int32) u_31))))))))))))
set_option maxHeartbeats 4000000 in
set_option maxRecDepth 100000 in
theorem c_X12_meets {l : Launch} {G : Gx} {p0 : Nat} {p1 : Int32} {p2 : Int32} {p3 : Int32} {p4 : Int32} {p5 : Int32} {p6 : Int32} {u : Mm} {Q : Int32 → Mm → Prop} (h : V_X12_meets G p0 p1 p2 p3 p4 p5 p6 u Q) : Met l yX12_meets [.code yX12_meets cX12_meets 12 (some .boolean)] rm_X12_meets (va_Pc [.ref p0, .int p1, .int p2, .int p3, .int p4, .int p5, .int p6] (Wd G u)) (Ei G Q) 0 0 (ag G) := by
  refine q_met (by decide) (Nat.le_of_ble_eq_true rfl) ?_
  intro p e s m below meth c ls C hr hlk hnm hl hP
  have hl : lv_has ls 12 [(0, .ref p0), (1, .int p1), (2, .int p2), (3, .int p3), (4, .int p4), (5, .int p5), (6, .int p6)] := hl
  generalize ([.ref p0, .int p1, .int p2, .int p3, .int p4, .int p5, .int p6] : List Value).toArray = args
  have hx := C.1
  have hb := C.2.1
  unfold V_X12_meets at h
  refine lv_aload_n hx hb dX12_meets_0 rfl (lv_at hl 0 rfl) ?_
  refine lv_iload_n hx hb dX12_meets_1 rfl (lv_at hl 1 rfl) ?_
  refine lv_iload_n hx hb dX12_meets_2 rfl (lv_at hl 2 rfl) ?_
  refine lv_iconst (v := (0 : Int32)) hx hb dX12_meets_3 (by decide) ?_
  obtain ⟨g1, h⟩ := h
  refine q_cali (q_runV C hP (c_X12_ofWood h) (cd_X12_ofWood C.hA) (ini_X12 C.hA) (ml_X12_261 C.hA) (im_X12_ofWood C.hA) (sl_X12_ofWood C.hA) g1 (by decide) rfl hd_X12_ofWood ⟨rfl, rfl⟩ ⟨Nat.le_of_ble_eq_true rfl, Nat.le_of_ble_eq_true rfl⟩ ⟨Nat.le_of_ble_eq_true rfl, Nat.le_of_ble_eq_true rfl⟩ hl.1 rfl (Nat.le_of_ble_eq_true rfl) dX12_meets_4) hP (fun v_4 u_4 H locs h hP => ?_)
  refine lv_istore (lv' := [(7, .int v_4), (0, .ref p0), (1, .int p1), (2, .int p2), (3, .int p3), (4, .int p4), (5, .int p5), (6, .int p6)]) hx hb dX12_meets_7 hl (by decide) rfl (fun ls hl => ?_)
  refine lv_aload_n hx hb dX12_meets_9 rfl (lv_at hl 1 rfl) ?_
  refine lv_iload_n hx hb dX12_meets_10 rfl (lv_at hl 2 rfl) ?_
  refine lv_iload_n hx hb dX12_meets_11 rfl (lv_at hl 3 rfl) ?_
  refine lv_iconst (v := (1 : Int32)) hx hb dX12_meets_12 (by decide) ?_
  refine q_cali (q_runV C hP (c_X12_ofWood h) (cd_X12_ofWood C.hA) (ini_X12 C.hA) (ml_X12_261 C.hA) (im_X12_ofWood C.hA) (sl_X12_ofWood C.hA) g1 (by decide) rfl hd_X12_ofWood ⟨rfl, rfl⟩ ⟨Nat.le_of_ble_eq_true rfl, Nat.le_of_ble_eq_true rfl⟩ ⟨Nat.le_of_ble_eq_true rfl, Nat.le_of_ble_eq_true rfl⟩ hl.1 rfl (Nat.le_of_ble_eq_true rfl) dX12_meets_13) hP (fun v_13 u_13 H locs h hP => ?_)
  refine lv_istore (lv' := [(8, .int v_13), (7, .int v_4), (0, .ref p0), (1, .int p1), (2, .int p2), (3, .int p3), (4, .int p4), (5, .int p5), (6, .int p6)]) hx hb dX12_meets_16 hl (by decide) rfl (fun ls hl => ?_)
  refine lv_aload_n hx hb dX12_meets_18 rfl (lv_at hl 2 rfl) ?_
  refine lv_iload_n hx hb dX12_meets_19 rfl (lv_at hl 3 rfl) ?_
  refine lv_iload_n hx hb dX12_meets_20 rfl (lv_at hl 4 rfl) ?_
  refine lv_iconst (v := (2 : Int32)) hx hb dX12_meets_21 (by decide) ?_
  refine q_cali (q_runV C hP (c_X12_ofWood h) (cd_X12_ofWood C.hA) (ini_X12 C.hA) (ml_X12_261 C.hA) (im_X12_ofWood C.hA) (sl_X12_ofWood C.hA) g1 (by decide) rfl hd_X12_ofWood ⟨rfl, rfl⟩ ⟨Nat.le_of_ble_eq_true rfl, Nat.le_of_ble_eq_true rfl⟩ ⟨Nat.le_of_ble_eq_true rfl, Nat.le_of_ble_eq_true rfl⟩ hl.1 rfl (Nat.le_of_ble_eq_true rfl) dX12_meets_22) hP (fun v_22 u_22 H locs h hP => ?_)
  refine lv_istore (lv' := [(9, .int v_22), (8, .int v_13), (7, .int v_4), (0, .ref p0), (1, .int p1), (2, .int p2), (3, .int p3), (4, .int p4), (5, .int p5), (6, .int p6)]) hx hb dX12_meets_25 hl (by decide) rfl (fun ls hl => ?_)
  refine lv_aload_n hx hb dX12_meets_27 rfl (lv_at hl 3 rfl) ?_
  refine lv_iload_n hx hb dX12_meets_28 rfl (lv_at hl 4 rfl) ?_
  refine lv_iload_n hx hb dX12_meets_29 rfl (lv_at hl 5 rfl) ?_
  refine lv_iconst (v := (3 : Int32)) hx hb dX12_meets_30 (by decide) ?_
  refine q_cali (q_runV C hP (c_X12_ofWood h) (cd_X12_ofWood C.hA) (ini_X12 C.hA) (ml_X12_261 C.hA) (im_X12_ofWood C.hA) (sl_X12_ofWood C.hA) g1 (by decide) rfl hd_X12_ofWood ⟨rfl, rfl⟩ ⟨Nat.le_of_ble_eq_true rfl, Nat.le_of_ble_eq_true rfl⟩ ⟨Nat.le_of_ble_eq_true rfl, Nat.le_of_ble_eq_true rfl⟩ hl.1 rfl (Nat.le_of_ble_eq_true rfl) dX12_meets_31) hP (fun v_31 u_31 H locs h hP => ?_)
  refine lv_istore (lv' := [(10, .int v_31), (9, .int v_22), (8, .int v_13), (7, .int v_4), (0, .ref p0), (1, .int p1), (2, .int p2), (3, .int p3), (4, .int p4), (5, .int p5), (6, .int p6)]) hx hb dX12_meets_34 hl (by decide) rfl (fun ls hl => ?_)
  refine lv_iload_n hx hb dX12_meets_36 rfl (lv_at hl 7 rfl) ?_
  refine lv_iload hx hb dX12_meets_37 (lv_at hl 9 rfl) ?_
  refine va_mmax hx hb (C.2.2.2.1.trans hl.1.symm) C.2.2.1 (ml_X12_264 C.hA) (st_J9_max_7cf53 C.hA) (ini_J9 C.hA) (cd_J9_max_7cf53 C.hA) (Nat.le_of_ble_eq_true rfl) (Nat.le_of_ble_eq_true rfl) (Nat.le_of_ble_eq_true rfl) (Nat.le_of_ble_eq_true rfl) dX12_meets_39 ?_
  refine lv_iload hx hb dX12_meets_42 (lv_at hl 3 rfl) ?_
  refine lv_icmp_lt (tgt := 82) hx hb dX12_meets_44 (by decide) (fun c44 => ?_) (fun c44 => ?_)
  · have h := h.1 c44
    refine lv_iconst (v := (0 : Int32)) hx hb dX12_meets_82 (by decide) ?_
    exact q_zret C hr hlk hP (by decide) h (by decide) (by decide) dX12_meets_83
  · have h := h.2 c44
    refine lv_iload_n hx hb dX12_meets_47 rfl (lv_at hl 7 rfl) ?_
    refine lv_iload hx hb dX12_meets_48 (lv_at hl 9 rfl) ?_
    refine va_mmin hx hb (C.2.2.2.1.trans hl.1.symm) C.2.2.1 (ml_X12_183 C.hA) (st_J9_min_7cf53 C.hA) (ini_J9 C.hA) (cd_J9_min_7cf53 C.hA) (Nat.le_of_ble_eq_true rfl) (Nat.le_of_ble_eq_true rfl) (Nat.le_of_ble_eq_true rfl) (Nat.le_of_ble_eq_true rfl) dX12_meets_50 ?_
    refine lv_iload hx hb dX12_meets_53 (lv_at hl 1 rfl) ?_
    refine lv_icmp_gt (tgt := 82) hx hb dX12_meets_55 (by decide) (fun c55 => ?_) (fun c55 => ?_)
    · have h := h.1 c55
      refine lv_iconst (v := (0 : Int32)) hx hb dX12_meets_82 (by decide) ?_
      exact q_zret C hr hlk hP (by decide) h (by decide) (by decide) dX12_meets_83
    · have h := h.2 c55
      refine lv_iload hx hb dX12_meets_58 (lv_at hl 8 rfl) ?_
      refine lv_iload hx hb dX12_meets_60 (lv_at hl 10 rfl) ?_
      refine va_mmax hx hb (C.2.2.2.1.trans hl.1.symm) C.2.2.1 (ml_X12_264 C.hA) (st_J9_max_7cf53 C.hA) (ini_J9 C.hA) (cd_J9_max_7cf53 C.hA) (Nat.le_of_ble_eq_true rfl) (Nat.le_of_ble_eq_true rfl) (Nat.le_of_ble_eq_true rfl) (Nat.le_of_ble_eq_true rfl) dX12_meets_62 ?_
      refine lv_iload hx hb dX12_meets_65 (lv_at hl 2 rfl) ?_
      refine lv_icmp_lt (tgt := 82) hx hb dX12_meets_67 (by decide) (fun c67 => ?_) (fun c67 => ?_)
      · have h := h.1 c67
        refine lv_iconst (v := (0 : Int32)) hx hb dX12_meets_82 (by decide) ?_
        exact q_zret C hr hlk hP (by decide) h (by decide) (by decide) dX12_meets_83
      · have h := h.2 c67
        refine lv_iload hx hb dX12_meets_70 (lv_at hl 8 rfl) ?_
        refine lv_iload hx hb dX12_meets_72 (lv_at hl 10 rfl) ?_
        refine va_mmin hx hb (C.2.2.2.1.trans hl.1.symm) C.2.2.1 (ml_X12_183 C.hA) (st_J9_min_7cf53 C.hA) (ini_J9 C.hA) (cd_J9_min_7cf53 C.hA) (Nat.le_of_ble_eq_true rfl) (Nat.le_of_ble_eq_true rfl) (Nat.le_of_ble_eq_true rfl) (Nat.le_of_ble_eq_true rfl) dX12_meets_74 ?_
        refine lv_iload hx hb dX12_meets_77 (lv_at hl 0 rfl) ?_
        refine lv_icmp_le (tgt := 84) hx hb dX12_meets_79 (by decide) (fun c79 => ?_) (fun c79 => ?_)
        · have h := h.1 c79
          refine lv_iload_n hx hb dX12_meets_84 rfl (lv_at hl 7 rfl) ?_
          refine lv_iload hx hb dX12_meets_85 (lv_at hl 8 rfl) ?_
          refine lv_iload hx hb dX12_meets_87 (lv_at hl 9 rfl) ?_
          refine lv_iload hx hb dX12_meets_89 (lv_at hl 10 rfl) ?_
          refine lv_iload hx hb dX12_meets_91 (lv_at hl 3 rfl) ?_
          refine lv_iload hx hb dX12_meets_93 (lv_at hl 2 rfl) ?_
          refine q_cali (q_runS C hP (c_X12_side h) (cd_X12_side C.hA) (ini_X12 C.hA) (ml_X12_267 C.hA) (st_X12_side C.hA) hd_X12_side ⟨rfl, rfl⟩ ⟨Nat.le_of_ble_eq_true rfl, Nat.le_of_ble_eq_true rfl⟩ ⟨Nat.le_of_ble_eq_true rfl, Nat.le_of_ble_eq_true rfl⟩ hl.1 rfl (Nat.le_of_ble_eq_true rfl) dX12_meets_95) hP (fun v_95 u_95 H locs h hP => ?_)
          refine lv_iload_n hx hb dX12_meets_98 rfl (lv_at hl 7 rfl) ?_
          refine lv_iload hx hb dX12_meets_99 (lv_at hl 8 rfl) ?_
          refine lv_iload hx hb dX12_meets_101 (lv_at hl 9 rfl) ?_
          refine lv_iload hx hb dX12_meets_103 (lv_at hl 10 rfl) ?_
          refine lv_iload hx hb dX12_meets_105 (lv_at hl 3 rfl) ?_
          refine lv_iload hx hb dX12_meets_107 (lv_at hl 0 rfl) ?_
          refine q_cali (q_runS C hP (c_X12_side h) (cd_X12_side C.hA) (ini_X12 C.hA) (ml_X12_267 C.hA) (st_X12_side C.hA) hd_X12_side ⟨rfl, rfl⟩ ⟨Nat.le_of_ble_eq_true rfl, Nat.le_of_ble_eq_true rfl⟩ ⟨Nat.le_of_ble_eq_true rfl, Nat.le_of_ble_eq_true rfl⟩ hl.1 rfl (Nat.le_of_ble_eq_true rfl) dX12_meets_109) hP (fun v_109 u_109 H locs h hP => ?_)
          refine lv_iadd hx hb dX12_meets_112 ?_
          refine lv_iload_n hx hb dX12_meets_113 rfl (lv_at hl 7 rfl) ?_
          refine lv_iload hx hb dX12_meets_114 (lv_at hl 8 rfl) ?_
          refine lv_iload hx hb dX12_meets_116 (lv_at hl 9 rfl) ?_
          refine lv_iload hx hb dX12_meets_118 (lv_at hl 10 rfl) ?_
          refine lv_iload hx hb dX12_meets_120 (lv_at hl 1 rfl) ?_
          refine lv_iload hx hb dX12_meets_122 (lv_at hl 2 rfl) ?_
          refine q_cali (q_runS C hP (c_X12_side h) (cd_X12_side C.hA) (ini_X12 C.hA) (ml_X12_267 C.hA) (st_X12_side C.hA) hd_X12_side ⟨rfl, rfl⟩ ⟨Nat.le_of_ble_eq_true rfl, Nat.le_of_ble_eq_true rfl⟩ ⟨Nat.le_of_ble_eq_true rfl, Nat.le_of_ble_eq_true rfl⟩ hl.1 rfl (Nat.le_of_ble_eq_true rfl) dX12_meets_124) hP (fun v_124 u_124 H locs h hP => ?_)
          refine lv_iadd hx hb dX12_meets_127 ?_
          refine lv_iload_n hx hb dX12_meets_128 rfl (lv_at hl 7 rfl) ?_
          refine lv_iload hx hb dX12_meets_129 (lv_at hl 8 rfl) ?_
          refine lv_iload hx hb dX12_meets_131 (lv_at hl 9 rfl) ?_
          refine lv_iload hx hb dX12_meets_133 (lv_at hl 10 rfl) ?_
          refine lv_iload hx hb dX12_meets_135 (lv_at hl 1 rfl) ?_
          refine lv_iload hx hb dX12_meets_137 (lv_at hl 0 rfl) ?_
          refine q_cali (q_runS C hP (c_X12_side h) (cd_X12_side C.hA) (ini_X12 C.hA) (ml_X12_267 C.hA) (st_X12_side C.hA) hd_X12_side ⟨rfl, rfl⟩ ⟨Nat.le_of_ble_eq_true rfl, Nat.le_of_ble_eq_true rfl⟩ ⟨Nat.le_of_ble_eq_true rfl, Nat.le_of_ble_eq_true rfl⟩ hl.1 rfl (Nat.le_of_ble_eq_true rfl) dX12_meets_139) hP (fun v_139 u_139 H locs h hP => ?_)
          refine lv_iadd hx hb dX12_meets_142 ?_
          refine lv_topi (fun x11_143 ex11_143 => ?_)
          have h := h x11_143 ex11_143
          refine lv_istore (lv' := [(11, .int x11_143), (10, .int v_31), (9, .int v_22), (8, .int v_13), (7, .int v_4), (0, .ref p0), (1, .int p1), (2, .int p2), (3, .int p3), (4, .int p4), (5, .int p5), (6, .int p6)]) hx hb dX12_meets_143 hl (by decide) rfl (fun ls hl => ?_)
          refine lv_iload hx hb dX12_meets_145 (lv_at hl 0 rfl) ?_
          refine lv_bipush (v := (-4 : Int32)) hx hb dX12_meets_147 (by decide) ?_
          refine lv_icmp_le (tgt := 162) hx hb dX12_meets_149 (by decide) (fun c149 => ?_) (fun c149 => ?_)
          · have h := h.1 c149
            refine lv_iconst (v := (0 : Int32)) hx hb dX12_meets_162 (by decide) ?_
            exact q_zret C hr hlk hP (by decide) h (by decide) (by decide) dX12_meets_163
          · have h := h.2 c149
            refine lv_iload hx hb dX12_meets_152 (lv_at hl 0 rfl) ?_
            refine lv_iconst (v := (4 : Int32)) hx hb dX12_meets_154 (by decide) ?_
            refine lv_icmp_ge (tgt := 162) hx hb dX12_meets_155 (by decide) (fun c155 => ?_) (fun c155 => ?_)
            · have h := h.1 c155
              refine lv_iconst (v := (0 : Int32)) hx hb dX12_meets_162 (by decide) ?_
              exact q_zret C hr hlk hP (by decide) h (by decide) (by decide) dX12_meets_163
            · have h := h.2 c155
              refine lv_iconst (v := (1 : Int32)) hx hb dX12_meets_158 (by decide) ?_
              refine lv_goto (tgt := 163) hx hb dX12_meets_159 (by decide) ?_
              exact q_zret C hr hlk hP (by decide) h (by decide) (by decide) dX12_meets_163
        · have h := h.2 c79
          refine lv_iconst (v := (0 : Int32)) hx hb dX12_meets_82 (by decide) ?_
          exact q_zret C hr hlk hP (by decide) h (by decide) (by decide) dX12_meets_83
-- X12_throughWoods
abbrev rm_X12_throughWoods : Room := { frames := 2, cells := 0, slots := 0, locals := 57 }
theorem hd_X12_throughWoods : yX12_throughWoods.cls ≠ "java/lang/invoke/MethodHandle" ∧ yX12_throughWoods.cls ≠ "java/lang/invoke/VarHandle" ∧ (parseMethodDescriptor yX12_throughWoods.desc).map (fun d => d.parameters.length) = some 8 := by decide +kernel
def V_X12_throughWoods_75 (G : Gx) (Q : Int32 → Mm → Prop) (k_6 : Nat → Int32 → Int32 → Int32 → Int32 → Int32 → Int32 → Int32 → Int32 → Int32 → Mm → Prop) (x0 : Nat) (x1 : Int32) (x2 : Int32) (x4 : Int32) (x5 : Int32) (x6 : Int32) (x7 : Int32) (x8 : Int32) (x9 : Int32) (x10 : Int32) (u : Mm) : Prop :=
  ∀ x10_75 : Int32, x10_75 = x10 + (1 : Int32) → k_6 x0 x1 x2 x4 x5 x6 x7 x8 x9 x10_75 u
def V_X12_throughWoods_41_B (G : Gx) (Q : Int32 → Mm → Prop) (k_6 : Nat → Int32 → Int32 → Int32 → Int32 → Int32 → Int32 → Int32 → Int32 → Int32 → Mm → Prop) (k_41 : Nat → Int32 → Int32 → Int32 → Int32 → Int32 → Int32 → Int32 → Int32 → Int32 → Int32 → Mm → Prop) (x0 : Nat) (x1 : Int32) (x2 : Int32) (x4 : Int32) (x5 : Int32) (x6 : Int32) (x7 : Int32) (x8 : Int32) (x9 : Int32) (x10 : Int32) (x11 : Int32) (u : Mm) : Prop :=
  ((x4 ≤ x11 → V_X12_throughWoods_75 G Q k_6 x0 x1 x2 x4 x5 x6 x7 x8 x9 x10 u) ∧ (¬ x4 ≤ x11 → kd G x0 = 12 ∧ V_X12_ofWood G x0 x1 x10 ((4 : Int32) + x2) u (fun (v_59 : Int32) (u_59 : Mm) => ∀ x9_67 : Int32, x9_67 = ((x9 * ((100 : Int32) - v_59)) / (100 : Int32)) → ∀ x11_69 : Int32, x11_69 = x11 + (1 : Int32) → k_41 x0 x1 x2 x4 x5 x6 x7 x8 x9_67 x10 x11_69 u_59)))
def V_X12_throughWoods_41 (G : Gx) (Q : Int32 → Mm → Prop) (k_6 : Nat → Int32 → Int32 → Int32 → Int32 → Int32 → Int32 → Int32 → Int32 → Int32 → Mm → Prop) : Nat → (Nat → Int32 → Int32 → Int32 → Int32 → Int32 → Int32 → Int32 → Int32 → Int32 → Int32 → Mm → Prop)
  | 0 => fun _ _ _ _ _ _ _ _ _ _ _ _ => False
  | n + 1 => fun x0 x1 x2 x4 x5 x6 x7 x8 x9 x10 x11 u => V_X12_throughWoods_41_B G Q k_6 (V_X12_throughWoods_41 G Q k_6 n) x0 x1 x2 x4 x5 x6 x7 x8 x9 x10 x11 u
def V_X12_throughWoods_6_B (G : Gx) (Q : Int32 → Mm → Prop) (k_6 : Nat → Int32 → Int32 → Int32 → Int32 → Int32 → Int32 → Int32 → Int32 → Int32 → Mm → Prop) (x0 : Nat) (x1 : Int32) (x2 : Int32) (x4 : Int32) (x5 : Int32) (x6 : Int32) (x7 : Int32) (x8 : Int32) (x9 : Int32) (x10 : Int32) (u : Mm) : Prop :=
  kd G x0 = 12 ∧ (gR u x0 4) ≠ 0 ∧ kd G (gR u x0 4) = 13 ∧ vp_in x1 (ln G (gR u x0 4)) ∧ (((gI u (gR u x0 4) x1.toNatClampNeg) ≤ x10 → Q x9 u) ∧ (¬ (gI u (gR u x0 4) x1.toNatClampNeg) ≤ x10 → V_X12_meets G x0 x1 x10 x5 x6 x7 x8 u (fun (v_29 : Int32) (u_29 : Mm) => ((v_29 = 0 → V_X12_throughWoods_75 G Q k_6 x0 x1 x2 x4 x5 x6 x7 x8 x9 x10 u_29) ∧ (¬ v_29 = 0 → ∃ n : Nat, V_X12_throughWoods_41 G Q k_6 n x0 x1 x2 x4 x5 x6 x7 x8 x9 x10 (0 : Int32) u_29)))))
def V_X12_throughWoods_6 (G : Gx) (Q : Int32 → Mm → Prop) : Nat → (Nat → Int32 → Int32 → Int32 → Int32 → Int32 → Int32 → Int32 → Int32 → Int32 → Mm → Prop)
  | 0 => fun _ _ _ _ _ _ _ _ _ _ _ => False
  | n + 1 => fun x0 x1 x2 x4 x5 x6 x7 x8 x9 x10 u => V_X12_throughWoods_6_B G Q (V_X12_throughWoods_6 G Q n) x0 x1 x2 x4 x5 x6 x7 x8 x9 x10 u
def V_X12_throughWoods (G : Gx) (p0 : Nat) (p1 : Int32) (p2 : Int32) (p3 : Int32) (p4 : Int32) (p5 : Int32) (p6 : Int32) (p7 : Int32) (p8 : Int32) (u : Mm) (Q : Int32 → Mm → Prop) : Prop :=
  ∃ n : Nat, V_X12_throughWoods_6 G Q n p0 p1 p2 p4 p5 p6 p7 p8 p3 (0 : Int32) u
set_option maxHeartbeats 4000000 in
set_option maxRecDepth 100000 in
theorem b_X12_throughWoods_75 {G : Gx} {Q : Int32 → Mm → Prop} {p : Program} {l : Launch} {e : Env} {s : State} {m : MethodId} {args : Array Value} {below : List Frame} {meth : Method} {c : Code} (C : Cx G p s m c cX12_throughWoods RX12 12) (hr : meth.sig.returnType = (some .int)) (hlk : meth.locks = false) {k_6 : Nat → Int32 → Int32 → Int32 → Int32 → Int32 → Int32 → Int32 → Int32 → Int32 → Mm → Prop} (hk_6 : ∀ (x0 : Nat) (x1 : Int32) (x2 : Int32) (x4 : Int32) (x5 : Int32) (x6 : Int32) (x7 : Int32) (x8 : Int32) (x9 : Int32) (x10 : Int32) (u : Mm) (H : Heap) (locs : List Loc) (ls : Array Slot), k_6 x0 x1 x2 x4 x5 x6 x7 x8 x9 x10 u → lv_has ls 12 [(0, .ref x0), (1, .int x1), (2, .int x2), (4, .int x4), (5, .int x5), (6, .int x6), (7, .int x7), (8, .int x8), (9, .int x9), (10, .int x10)] → Hp G u s H locs → W p l e rm_X12_throughWoods s m args below meth c H locs 0 0 (MQ below (Ei G Q) args s 0 0 (ag G)) (F0 m 6 ls [])) {x0 : Nat} {x1 : Int32} {x2 : Int32} {x4 : Int32} {x5 : Int32} {x6 : Int32} {x7 : Int32} {x8 : Int32} {x9 : Int32} {x10 : Int32} {u : Mm} {H : Heap} {locs : List Loc} {ls : Array Slot} (h : V_X12_throughWoods_75 G Q k_6 x0 x1 x2 x4 x5 x6 x7 x8 x9 x10 u) (hl : lv_has ls 12 [(0, .ref x0), (1, .int x1), (2, .int x2), (4, .int x4), (5, .int x5), (6, .int x6), (7, .int x7), (8, .int x8), (9, .int x9), (10, .int x10)]) (hP : Hp G u s H locs) : W p l e rm_X12_throughWoods s m args below meth c H locs 0 0 (MQ below (Ei G Q) args s 0 0 (ag G)) (F0 m 75 ls []) := by
  have hx := C.1
  have hb := C.2.1
  unfold V_X12_throughWoods_75 at h
  obtain ⟨x10_75, ex10_75⟩ : ∃ y : Int32, y = x10 + (1 : Int32) := ⟨_, rfl⟩
  have h := h x10_75 ex10_75
  refine lv_iinc (v := x10_75) (lv' := [(10, .int x10_75), (0, .ref x0), (1, .int x1), (2, .int x2), (4, .int x4), (5, .int x5), (6, .int x6), (7, .int x7), (8, .int x8), (9, .int x9)]) hx hb dX12_throughWoods_75 hl (k := 9) rfl (by rw [ex10_75]; rfl) (by decide) rfl (fun ls hl => ?_)
  refine lv_goto (tgt := 6) hx hb dX12_throughWoods_78 (by decide) ?_
  exact hk_6 x0 x1 x2 x4 x5 x6 x7 x8 x9 x10_75 u _ _ _ h (lv_sub hl [1, 2, 3, 4, 5, 6, 7, 8, 9, 0] rfl) hP
set_option maxHeartbeats 4000000 in
set_option maxRecDepth 100000 in
theorem b_X12_throughWoods_41 {G : Gx} {Q : Int32 → Mm → Prop} {p : Program} {l : Launch} {e : Env} {s : State} {m : MethodId} {args : Array Value} {below : List Frame} {meth : Method} {c : Code} (C : Cx G p s m c cX12_throughWoods RX12 12) (hr : meth.sig.returnType = (some .int)) (hlk : meth.locks = false) {k_6 : Nat → Int32 → Int32 → Int32 → Int32 → Int32 → Int32 → Int32 → Int32 → Int32 → Mm → Prop} (hk_6 : ∀ (x0 : Nat) (x1 : Int32) (x2 : Int32) (x4 : Int32) (x5 : Int32) (x6 : Int32) (x7 : Int32) (x8 : Int32) (x9 : Int32) (x10 : Int32) (u : Mm) (H : Heap) (locs : List Loc) (ls : Array Slot), k_6 x0 x1 x2 x4 x5 x6 x7 x8 x9 x10 u → lv_has ls 12 [(0, .ref x0), (1, .int x1), (2, .int x2), (4, .int x4), (5, .int x5), (6, .int x6), (7, .int x7), (8, .int x8), (9, .int x9), (10, .int x10)] → Hp G u s H locs → W p l e rm_X12_throughWoods s m args below meth c H locs 0 0 (MQ below (Ei G Q) args s 0 0 (ag G)) (F0 m 6 ls [])) {k_41 : Nat → Int32 → Int32 → Int32 → Int32 → Int32 → Int32 → Int32 → Int32 → Int32 → Int32 → Mm → Prop} (hk_41 : ∀ (x0 : Nat) (x1 : Int32) (x2 : Int32) (x4 : Int32) (x5 : Int32) (x6 : Int32) (x7 : Int32) (x8 : Int32) (x9 : Int32) (x10 : Int32) (x11 : Int32) (u : Mm) (H : Heap) (locs : List Loc) (ls : Array Slot), k_41 x0 x1 x2 x4 x5 x6 x7 x8 x9 x10 x11 u → lv_has ls 12 [(0, .ref x0), (1, .int x1), (2, .int x2), (4, .int x4), (5, .int x5), (6, .int x6), (7, .int x7), (8, .int x8), (9, .int x9), (10, .int x10), (11, .int x11)] → Hp G u s H locs → W p l e rm_X12_throughWoods s m args below meth c H locs 0 0 (MQ below (Ei G Q) args s 0 0 (ag G)) (F0 m 41 ls [])) {x0 : Nat} {x1 : Int32} {x2 : Int32} {x4 : Int32} {x5 : Int32} {x6 : Int32} {x7 : Int32} {x8 : Int32} {x9 : Int32} {x10 : Int32} {x11 : Int32} {u : Mm} {H : Heap} {locs : List Loc} {ls : Array Slot} (h : V_X12_throughWoods_41_B G Q k_6 k_41 x0 x1 x2 x4 x5 x6 x7 x8 x9 x10 x11 u) (hl : lv_has ls 12 [(0, .ref x0), (1, .int x1), (2, .int x2), (4, .int x4), (5, .int x5), (6, .int x6), (7, .int x7), (8, .int x8), (9, .int x9), (10, .int x10), (11, .int x11)]) (hP : Hp G u s H locs) : W p l e rm_X12_throughWoods s m args below meth c H locs 0 0 (MQ below (Ei G Q) args s 0 0 (ag G)) (F0 m 41 ls []) := by
  have hx := C.1
  have hb := C.2.1
  unfold V_X12_throughWoods_41_B at h
  refine lv_iload hx hb dX12_throughWoods_41 (lv_at hl 10 rfl) ?_
  refine lv_iload hx hb dX12_throughWoods_43 (lv_at hl 3 rfl) ?_
  refine lv_icmp_ge (tgt := 75) hx hb dX12_throughWoods_45 (by decide) (fun c45 => ?_) (fun c45 => ?_)
  · have h := h.1 c45
    exact b_X12_throughWoods_75 C hr hlk hk_6 h (lv_sub hl [0, 1, 2, 3, 4, 5, 6, 7, 8, 9] rfl) hP
  · have h := h.2 c45
    refine lv_iload hx hb dX12_throughWoods_48 (lv_at hl 8 rfl) ?_
    refine lv_bipush (v := (100 : Int32)) hx hb dX12_throughWoods_50 (by decide) ?_
    refine lv_aload_n hx hb dX12_throughWoods_52 rfl (lv_at hl 0 rfl) ?_
    refine lv_iload_n hx hb dX12_throughWoods_53 rfl (lv_at hl 1 rfl) ?_
    refine lv_iload hx hb dX12_throughWoods_54 (lv_at hl 9 rfl) ?_
    refine lv_iconst (v := (4 : Int32)) hx hb dX12_throughWoods_56 (by decide) ?_
    refine lv_iload_n hx hb dX12_throughWoods_57 rfl (lv_at hl 2 rfl) ?_
    refine lv_iadd hx hb dX12_throughWoods_58 ?_
    obtain ⟨g1, h⟩ := h
    refine q_cali (q_runV C hP (c_X12_ofWood h) (cd_X12_ofWood C.hA) (ini_X12 C.hA) (ml_X12_261 C.hA) (im_X12_ofWood C.hA) (sl_X12_ofWood C.hA) g1 (by decide) rfl hd_X12_ofWood ⟨rfl, rfl⟩ ⟨Nat.le_of_ble_eq_true rfl, Nat.le_of_ble_eq_true rfl⟩ ⟨Nat.le_of_ble_eq_true rfl, Nat.le_of_ble_eq_true rfl⟩ hl.1 rfl (Nat.le_of_ble_eq_true rfl) dX12_throughWoods_59) hP (fun v_59 u_59 H locs h hP => ?_)
    refine lv_isub hx hb dX12_throughWoods_62 ?_
    refine lv_imul hx hb dX12_throughWoods_63 ?_
    refine lv_bipush (v := (100 : Int32)) hx hb dX12_throughWoods_64 (by decide) ?_
    refine lv_idiv hx hb dX12_throughWoods_66 (by decide) ?_
    refine lv_topi (fun x9_67 ex9_67 => ?_)
    have h := h x9_67 ex9_67
    refine lv_istore (lv' := [(9, .int x9_67), (0, .ref x0), (1, .int x1), (2, .int x2), (4, .int x4), (5, .int x5), (6, .int x6), (7, .int x7), (8, .int x8), (10, .int x10), (11, .int x11)]) hx hb dX12_throughWoods_67 hl (by decide) rfl (fun ls hl => ?_)
    obtain ⟨x11_69, ex11_69⟩ : ∃ y : Int32, y = x11 + (1 : Int32) := ⟨_, rfl⟩
    have h := h x11_69 ex11_69
    refine lv_iinc (v := x11_69) (lv' := [(11, .int x11_69), (9, .int x9_67), (0, .ref x0), (1, .int x1), (2, .int x2), (4, .int x4), (5, .int x5), (6, .int x6), (7, .int x7), (8, .int x8), (10, .int x10)]) hx hb dX12_throughWoods_69 hl (k := 10) rfl (by rw [ex11_69]; rfl) (by decide) rfl (fun ls hl => ?_)
    refine lv_goto (tgt := 41) hx hb dX12_throughWoods_72 (by decide) ?_
    exact hk_41 x0 x1 x2 x4 x5 x6 x7 x8 x9_67 x10 x11_69 u_59 _ _ _ h (lv_sub hl [2, 3, 4, 5, 6, 7, 8, 9, 1, 10, 0] rfl) hP
theorem l_X12_throughWoods_41 {G : Gx} {Q : Int32 → Mm → Prop} {p : Program} {l : Launch} {e : Env} {s : State} {m : MethodId} {args : Array Value} {below : List Frame} {meth : Method} {c : Code} (C : Cx G p s m c cX12_throughWoods RX12 12) (hr : meth.sig.returnType = (some .int)) (hlk : meth.locks = false) {k_6 : Nat → Int32 → Int32 → Int32 → Int32 → Int32 → Int32 → Int32 → Int32 → Int32 → Mm → Prop} (hk_6 : ∀ (x0 : Nat) (x1 : Int32) (x2 : Int32) (x4 : Int32) (x5 : Int32) (x6 : Int32) (x7 : Int32) (x8 : Int32) (x9 : Int32) (x10 : Int32) (u : Mm) (H : Heap) (locs : List Loc) (ls : Array Slot), k_6 x0 x1 x2 x4 x5 x6 x7 x8 x9 x10 u → lv_has ls 12 [(0, .ref x0), (1, .int x1), (2, .int x2), (4, .int x4), (5, .int x5), (6, .int x6), (7, .int x7), (8, .int x8), (9, .int x9), (10, .int x10)] → Hp G u s H locs → W p l e rm_X12_throughWoods s m args below meth c H locs 0 0 (MQ below (Ei G Q) args s 0 0 (ag G)) (F0 m 6 ls [])) : ∀ (n : Nat) (x0 : Nat) (x1 : Int32) (x2 : Int32) (x4 : Int32) (x5 : Int32) (x6 : Int32) (x7 : Int32) (x8 : Int32) (x9 : Int32) (x10 : Int32) (x11 : Int32) (u : Mm) (H : Heap) (locs : List Loc) (ls : Array Slot), V_X12_throughWoods_41 G Q k_6 n x0 x1 x2 x4 x5 x6 x7 x8 x9 x10 x11 u → lv_has ls 12 [(0, .ref x0), (1, .int x1), (2, .int x2), (4, .int x4), (5, .int x5), (6, .int x6), (7, .int x7), (8, .int x8), (9, .int x9), (10, .int x10), (11, .int x11)] → Hp G u s H locs → W p l e rm_X12_throughWoods s m args below meth c H locs 0 0 (MQ below (Ei G Q) args s 0 0 (ag G)) (F0 m 41 ls []) := by
  intro n
  induction n with
  | zero => intro x0 x1 x2 x4 x5 x6 x7 x8 x9 x10 x11 u H locs ls h; exact h.elim
  | succ n ih => intro x0 x1 x2 x4 x5 x6 x7 x8 x9 x10 x11 u H locs ls h hl hP; exact b_X12_throughWoods_41 C hr hlk hk_6 ih h hl hP
set_option maxHeartbeats 4000000 in
set_option maxRecDepth 100000 in
theorem b_X12_throughWoods_6 {G : Gx} {Q : Int32 → Mm → Prop} {p : Program} {l : Launch} {e : Env} {s : State} {m : MethodId} {args : Array Value} {below : List Frame} {meth : Method} {c : Code} (C : Cx G p s m c cX12_throughWoods RX12 12) (hr : meth.sig.returnType = (some .int)) (hlk : meth.locks = false) {k_6 : Nat → Int32 → Int32 → Int32 → Int32 → Int32 → Int32 → Int32 → Int32 → Int32 → Mm → Prop} (hk_6 : ∀ (x0 : Nat) (x1 : Int32) (x2 : Int32) (x4 : Int32) (x5 : Int32) (x6 : Int32) (x7 : Int32) (x8 : Int32) (x9 : Int32) (x10 : Int32) (u : Mm) (H : Heap) (locs : List Loc) (ls : Array Slot), k_6 x0 x1 x2 x4 x5 x6 x7 x8 x9 x10 u → lv_has ls 12 [(0, .ref x0), (1, .int x1), (2, .int x2), (4, .int x4), (5, .int x5), (6, .int x6), (7, .int x7), (8, .int x8), (9, .int x9), (10, .int x10)] → Hp G u s H locs → W p l e rm_X12_throughWoods s m args below meth c H locs 0 0 (MQ below (Ei G Q) args s 0 0 (ag G)) (F0 m 6 ls [])) {x0 : Nat} {x1 : Int32} {x2 : Int32} {x4 : Int32} {x5 : Int32} {x6 : Int32} {x7 : Int32} {x8 : Int32} {x9 : Int32} {x10 : Int32} {u : Mm} {H : Heap} {locs : List Loc} {ls : Array Slot} (h : V_X12_throughWoods_6_B G Q k_6 x0 x1 x2 x4 x5 x6 x7 x8 x9 x10 u) (hl : lv_has ls 12 [(0, .ref x0), (1, .int x1), (2, .int x2), (4, .int x4), (5, .int x5), (6, .int x6), (7, .int x7), (8, .int x8), (9, .int x9), (10, .int x10)]) (hP : Hp G u s H locs) : W p l e rm_X12_throughWoods s m args below meth c H locs 0 0 (MQ below (Ei G Q) args s 0 0 (ag G)) (F0 m 6 ls []) := by
  have hx := C.1
  have hb := C.2.1
  unfold V_X12_throughWoods_6_B at h
  refine lv_iload hx hb dX12_throughWoods_6 (lv_at hl 9 rfl) ?_
  refine lv_aload_n hx hb dX12_throughWoods_8 rfl (lv_at hl 0 rfl) ?_
  obtain ⟨g1, h⟩ := h
  obtain ⟨g2, h⟩ := h
  refine q_getR C hP (k := 4) (lay_X12 C.hA) rfl (by decide) g1 g2 (fl_X12_34 C.hA) dX12_throughWoods_9 ?_
  refine lv_iload_n hx hb dX12_throughWoods_12 rfl (lv_at hl 1 rfl) ?_
  obtain ⟨g3, h⟩ := h
  obtain ⟨g4, h⟩ := h
  refine q_iald C hP g3 g4 dX12_throughWoods_13 ?_
  refine lv_icmp_ge (tgt := 81) hx hb dX12_throughWoods_14 (by decide) (fun c14 => ?_) (fun c14 => ?_)
  · have h := h.1 c14
    refine lv_iload hx hb dX12_throughWoods_81 (lv_at hl 8 rfl) ?_
    exact q_iret C hr hlk hP h (by decide) (by decide) dX12_throughWoods_83
  · have h := h.2 c14
    refine lv_aload_n hx hb dX12_throughWoods_17 rfl (lv_at hl 0 rfl) ?_
    refine lv_iload_n hx hb dX12_throughWoods_18 rfl (lv_at hl 1 rfl) ?_
    refine lv_iload hx hb dX12_throughWoods_19 (lv_at hl 9 rfl) ?_
    refine lv_iload hx hb dX12_throughWoods_21 (lv_at hl 4 rfl) ?_
    refine lv_iload hx hb dX12_throughWoods_23 (lv_at hl 5 rfl) ?_
    refine lv_iload hx hb dX12_throughWoods_25 (lv_at hl 6 rfl) ?_
    refine lv_iload hx hb dX12_throughWoods_27 (lv_at hl 7 rfl) ?_
    refine q_cali (q_runV C hP (c_X12_meets h) (cd_X12_meets C.hA) (ini_X12 C.hA) (ml_X12_271 C.hA) (im_X12_meets C.hA) (sl_X12_meets C.hA) g1 (by decide) rfl hd_X12_meets ⟨rfl, rfl⟩ ⟨Nat.le_of_ble_eq_true rfl, Nat.le_of_ble_eq_true rfl⟩ ⟨Nat.le_of_ble_eq_true rfl, Nat.le_of_ble_eq_true rfl⟩ hl.1 rfl (Nat.le_of_ble_eq_true rfl) dX12_throughWoods_29) hP (fun v_29 u_29 H locs h hP => ?_)
    refine lv_if_ne (tgt := 38) hx hb dX12_throughWoods_32 (by decide) (fun c32 => ?_) (fun c32 => ?_)
    · have h := h.2 c32
      refine lv_iconst (v := (0 : Int32)) hx hb dX12_throughWoods_38 (by decide) ?_
      refine lv_istore (lv' := [(11, .int (0 : Int32)), (0, .ref x0), (1, .int x1), (2, .int x2), (4, .int x4), (5, .int x5), (6, .int x6), (7, .int x7), (8, .int x8), (9, .int x9), (10, .int x10)]) hx hb dX12_throughWoods_39 hl (by decide) rfl (fun ls hl => ?_)
      obtain ⟨n, h⟩ := h
      exact l_X12_throughWoods_41 C hr hlk hk_6 n x0 x1 x2 x4 x5 x6 x7 x8 x9 x10 (0 : Int32) u_29 _ _ _ h (lv_sub hl [1, 2, 3, 4, 5, 6, 7, 8, 9, 10, 0] rfl) hP
    · have h := h.1 c32
      refine lv_goto (tgt := 75) hx hb dX12_throughWoods_35 (by decide) ?_
      exact b_X12_throughWoods_75 C hr hlk hk_6 h (lv_sub hl [0, 1, 2, 3, 4, 5, 6, 7, 8, 9] rfl) hP
theorem l_X12_throughWoods_6 {G : Gx} {Q : Int32 → Mm → Prop} {p : Program} {l : Launch} {e : Env} {s : State} {m : MethodId} {args : Array Value} {below : List Frame} {meth : Method} {c : Code} (C : Cx G p s m c cX12_throughWoods RX12 12) (hr : meth.sig.returnType = (some .int)) (hlk : meth.locks = false) : ∀ (n : Nat) (x0 : Nat) (x1 : Int32) (x2 : Int32) (x4 : Int32) (x5 : Int32) (x6 : Int32) (x7 : Int32) (x8 : Int32) (x9 : Int32) (x10 : Int32) (u : Mm) (H : Heap) (locs : List Loc) (ls : Array Slot), V_X12_throughWoods_6 G Q n x0 x1 x2 x4 x5 x6 x7 x8 x9 x10 u → lv_has ls 12 [(0, .ref x0), (1, .int x1), (2, .int x2), (4, .int x4), (5, .int x5), (6, .int x6), (7, .int x7), (8, .int x8), (9, .int x9), (10, .int x10)] → Hp G u s H locs → W p l e rm_X12_throughWoods s m args below meth c H locs 0 0 (MQ below (Ei G Q) args s 0 0 (ag G)) (F0 m 6 ls []) := by
  intro n
  induction n with
  | zero => intro x0 x1 x2 x4 x5 x6 x7 x8 x9 x10 u H locs ls h; exact h.elim
  | succ n ih => intro x0 x1 x2 x4 x5 x6 x7 x8 x9 x10 u H locs ls h hl hP; exact b_X12_throughWoods_6 C hr hlk ih h hl hP
set_option maxHeartbeats 4000000 in
set_option maxRecDepth 100000 in
theorem c_X12_throughWoods {l : Launch} {G : Gx} {p0 : Nat} {p1 : Int32} {p2 : Int32} {p3 : Int32} {p4 : Int32} {p5 : Int32} {p6 : Int32} {p7 : Int32} {p8 : Int32} {u : Mm} {Q : Int32 → Mm → Prop} (h : V_X12_throughWoods G p0 p1 p2 p3 p4 p5 p6 p7 p8 u Q) : Met l yX12_throughWoods [.code yX12_throughWoods cX12_throughWoods 12 (some .int)] rm_X12_throughWoods (va_Pc [.ref p0, .int p1, .int p2, .int p3, .int p4, .int p5, .int p6, .int p7, .int p8] (Wd G u)) (Ei G Q) 0 0 (ag G) := by
  refine q_met (by decide) (Nat.le_of_ble_eq_true rfl) ?_
  intro p e s m below meth c ls C hr hlk hnm hl hP
  have hl : lv_has ls 12 [(0, .ref p0), (1, .int p1), (2, .int p2), (3, .int p3), (4, .int p4), (5, .int p5), (6, .int p6), (7, .int p7), (8, .int p8)] := hl
  generalize ([.ref p0, .int p1, .int p2, .int p3, .int p4, .int p5, .int p6, .int p7, .int p8] : List Value).toArray = args
  have hx := C.1
  have hb := C.2.1
  unfold V_X12_throughWoods at h
  refine lv_iload_n hx hb dX12_throughWoods_0 rfl (lv_at hl 3 rfl) ?_
  refine lv_istore (lv' := [(9, .int p3), (0, .ref p0), (1, .int p1), (2, .int p2), (3, .int p3), (4, .int p4), (5, .int p5), (6, .int p6), (7, .int p7), (8, .int p8)]) hx hb dX12_throughWoods_1 hl (by decide) rfl (fun ls hl => ?_)
  refine lv_iconst (v := (0 : Int32)) hx hb dX12_throughWoods_3 (by decide) ?_
  refine lv_istore (lv' := [(10, .int (0 : Int32)), (9, .int p3), (0, .ref p0), (1, .int p1), (2, .int p2), (3, .int p3), (4, .int p4), (5, .int p5), (6, .int p6), (7, .int p7), (8, .int p8)]) hx hb dX12_throughWoods_4 hl (by decide) rfl (fun ls hl => ?_)
  obtain ⟨n, h⟩ := h
  exact l_X12_throughWoods_6 C hr hlk n p0 p1 p2 p4 p5 p6 p7 p8 p3 (0 : Int32) u _ _ _ h (lv_sub hl [2, 3, 4, 6, 7, 8, 9, 10, 1, 0] rfl) hP
-- X12_isHidden
abbrev rm_X12_isHidden : Room := { frames := 1, cells := 0, slots := 0, locals := 23 }
theorem hd_X12_isHidden : yX12_isHidden.cls ≠ "java/lang/invoke/MethodHandle" ∧ yX12_isHidden.cls ≠ "java/lang/invoke/VarHandle" ∧ (parseMethodDescriptor yX12_isHidden.desc).map (fun d => d.parameters.length) = some 6 := by decide +kernel
def V_X12_isHidden_206 (G : Gx) (Q : Int32 → Mm → Prop) (k_3 : Nat → Int32 → Int32 → Int32 → Int32 → Int32 → Int32 → Int32 → Mm → Prop) (x0 : Nat) (x1 : Int32) (x2 : Int32) (x3 : Int32) (x4 : Int32) (x5 : Int32) (x6 : Int32) (x7 : Int32) (u : Mm) : Prop :=
  ∀ x7_206 : Int32, x7_206 = x7 + (1 : Int32) → k_3 x0 x1 x2 x3 x4 x5 x6 x7_206 u
def V_X12_isHidden_148 (G : Gx) (Q : Int32 → Mm → Prop) (k_3 : Nat → Int32 → Int32 → Int32 → Int32 → Int32 → Int32 → Int32 → Mm → Prop) (x0 : Nat) (x1 : Int32) (x2 : Int32) (x3 : Int32) (x4 : Int32) (x5 : Int32) (x6 : Int32) (x7 : Int32) (x9 : Int32) (x11 : Int32) (x12 : Int32) (x13 : Int32) (t0 : Int32) (u : Mm) : Prop :=
  ∀ x15_170 : Int32, x15_170 = ((x13 * x12) + ((t0 - x13) * (ab (x11 - x9)))) → kd G x0 = 12 ∧ V_X12_ofWall G x0 x1 x7 (2 : Int32) u (fun (v_179 : Int32) (u_179 : Mm) => ((x15_170 < (v_179 * x12) → V_X12_isHidden_206 G Q k_3 x0 x1 x2 x3 x4 x5 x6 x7 u_179) ∧ (¬ x15_170 < (v_179 * x12) → V_X12_ofWall G x0 x1 x7 (3 : Int32) u_179 (fun (v_195 : Int32) (u_195 : Mm) => (((v_195 * x12) < x15_170 → V_X12_isHidden_206 G Q k_3 x0 x1 x2 x3 x4 x5 x6 x7 u_195) ∧ (¬ (v_195 * x12) < x15_170 → Q (1 : Int32) u_195))))))
def V_X12_isHidden_134 (G : Gx) (Q : Int32 → Mm → Prop) (k_3 : Nat → Int32 → Int32 → Int32 → Int32 → Int32 → Int32 → Int32 → Mm → Prop) (x0 : Nat) (x1 : Int32) (x2 : Int32) (x3 : Int32) (x4 : Int32) (x5 : Int32) (x6 : Int32) (x7 : Int32) (x8 : Int32) (x9 : Int32) (x11 : Int32) (x12 : Int32) (t0 : Int32) (u : Mm) : Prop :=
  ((x8 = 0 → V_X12_isHidden_148 G Q k_3 x0 x1 x2 x3 x4 x5 x6 x7 x9 x11 x12 t0 x6 u) ∧ (¬ x8 = 0 → V_X12_isHidden_148 G Q k_3 x0 x1 x2 x3 x4 x5 x6 x7 x9 x11 x12 t0 x5 u))
def V_X12_isHidden_74 (G : Gx) (Q : Int32 → Mm → Prop) (k_3 : Nat → Int32 → Int32 → Int32 → Int32 → Int32 → Int32 → Int32 → Mm → Prop) (x0 : Nat) (x1 : Int32) (x2 : Int32) (x3 : Int32) (x4 : Int32) (x5 : Int32) (x6 : Int32) (x7 : Int32) (x8 : Int32) (x9 : Int32) (t0 : Int32) (u : Mm) : Prop :=
  kd G x0 = 12 ∧ V_X12_ofWall G x0 x1 x7 (1 : Int32) u (fun (v_81 : Int32) (u_81 : Mm) => ((v_81 ≤ (mn x9 t0) → V_X12_isHidden_206 G Q k_3 x0 x1 x2 x3 x4 x5 x6 x7 u_81) ∧ (¬ v_81 ≤ (mn x9 t0) → ((v_81 < (mx x9 t0) → ∀ x12_121 : Int32, x12_121 = (ab (t0 - x9)) → ((x8 = 0 → V_X12_isHidden_134 G Q k_3 x0 x1 x2 x3 x4 x5 x6 x7 x8 x9 v_81 x12_121 x4 u_81) ∧ (¬ x8 = 0 → V_X12_isHidden_134 G Q k_3 x0 x1 x2 x3 x4 x5 x6 x7 x8 x9 v_81 x12_121 x3 u_81))) ∧ (¬ v_81 < (mx x9 t0) → V_X12_isHidden_206 G Q k_3 x0 x1 x2 x3 x4 x5 x6 x7 u_81)))))
def V_X12_isHidden_60 (G : Gx) (Q : Int32 → Mm → Prop) (k_3 : Nat → Int32 → Int32 → Int32 → Int32 → Int32 → Int32 → Int32 → Mm → Prop) (x0 : Nat) (x1 : Int32) (x2 : Int32) (x3 : Int32) (x4 : Int32) (x5 : Int32) (x6 : Int32) (x7 : Int32) (x8 : Int32) (t0 : Int32) (u : Mm) : Prop :=
  ((x8 = 0 → V_X12_isHidden_74 G Q k_3 x0 x1 x2 x3 x4 x5 x6 x7 x8 t0 x5 u) ∧ (¬ x8 = 0 → V_X12_isHidden_74 G Q k_3 x0 x1 x2 x3 x4 x5 x6 x7 x8 t0 x6 u))
def V_X12_isHidden_47 (G : Gx) (Q : Int32 → Mm → Prop) (k_3 : Nat → Int32 → Int32 → Int32 → Int32 → Int32 → Int32 → Int32 → Mm → Prop) (x0 : Nat) (x1 : Int32) (x2 : Int32) (x3 : Int32) (x4 : Int32) (x5 : Int32) (x6 : Int32) (x7 : Int32) (t0 : Int32) (u : Mm) : Prop :=
  ((t0 = 0 → V_X12_isHidden_60 G Q k_3 x0 x1 x2 x3 x4 x5 x6 x7 t0 x3 u) ∧ (¬ t0 = 0 → V_X12_isHidden_60 G Q k_3 x0 x1 x2 x3 x4 x5 x6 x7 t0 x4 u))
def V_X12_isHidden_3_B (G : Gx) (Q : Int32 → Mm → Prop) (k_3 : Nat → Int32 → Int32 → Int32 → Int32 → Int32 → Int32 → Int32 → Mm → Prop) (x0 : Nat) (x1 : Int32) (x2 : Int32) (x3 : Int32) (x4 : Int32) (x5 : Int32) (x6 : Int32) (x7 : Int32) (u : Mm) : Prop :=
  kd G x0 = 12 ∧ (gR u x0 2) ≠ 0 ∧ kd G (gR u x0 2) = 13 ∧ vp_in x1 (ln G (gR u x0 2)) ∧ (((gI u (gR u x0 2) x1.toNatClampNeg) ≤ x7 → Q (0 : Int32) u) ∧ (¬ (gI u (gR u x0 2) x1.toNatClampNeg) ≤ x7 → ((((shr x2 ((8 : Int32) + x7)) &&& (1 : Int32)) = (1 : Int32) → V_X12_isHidden_206 G Q k_3 x0 x1 x2 x3 x4 x5 x6 x7 u) ∧ (¬ ((shr x2 ((8 : Int32) + x7)) &&& (1 : Int32)) = (1 : Int32) → V_X12_ofWall G x0 x1 x7 (0 : Int32) u (fun (v_35 : Int32) (u_35 : Mm) => ((v_35 = (1 : Int32) → V_X12_isHidden_47 G Q k_3 x0 x1 x2 x3 x4 x5 x6 x7 (1 : Int32) u_35) ∧ (¬ v_35 = (1 : Int32) → V_X12_isHidden_47 G Q k_3 x0 x1 x2 x3 x4 x5 x6 x7 (0 : Int32) u_35)))))))
def V_X12_isHidden_3 (G : Gx) (Q : Int32 → Mm → Prop) : Nat → (Nat → Int32 → Int32 → Int32 → Int32 → Int32 → Int32 → Int32 → Mm → Prop)
  | 0 => fun _ _ _ _ _ _ _ _ _ => False
  | n + 1 => fun x0 x1 x2 x3 x4 x5 x6 x7 u => V_X12_isHidden_3_B G Q (V_X12_isHidden_3 G Q n) x0 x1 x2 x3 x4 x5 x6 x7 u
def V_X12_isHidden (G : Gx) (p0 : Nat) (p1 : Int32) (p2 : Int32) (p3 : Int32) (p4 : Int32) (p5 : Int32) (p6 : Int32) (u : Mm) (Q : Int32 → Mm → Prop) : Prop :=
  ∃ n : Nat, V_X12_isHidden_3 G Q n p0 p1 p2 p3 p4 p5 p6 (0 : Int32) u
set_option maxHeartbeats 4000000 in
set_option maxRecDepth 100000 in
theorem b_X12_isHidden_206 {G : Gx} {Q : Int32 → Mm → Prop} {p : Program} {l : Launch} {e : Env} {s : State} {m : MethodId} {args : Array Value} {below : List Frame} {meth : Method} {c : Code} (C : Cx G p s m c cX12_isHidden RX12 16) (hr : meth.sig.returnType = (some .boolean)) (hlk : meth.locks = false) {k_3 : Nat → Int32 → Int32 → Int32 → Int32 → Int32 → Int32 → Int32 → Mm → Prop} (hk_3 : ∀ (x0 : Nat) (x1 : Int32) (x2 : Int32) (x3 : Int32) (x4 : Int32) (x5 : Int32) (x6 : Int32) (x7 : Int32) (u : Mm) (H : Heap) (locs : List Loc) (ls : Array Slot), k_3 x0 x1 x2 x3 x4 x5 x6 x7 u → lv_has ls 16 [(0, .ref x0), (1, .int x1), (2, .int x2), (3, .int x3), (4, .int x4), (5, .int x5), (6, .int x6), (7, .int x7)] → Hp G u s H locs → W p l e rm_X12_isHidden s m args below meth c H locs 0 0 (MQ below (Ei G Q) args s 0 0 (ag G)) (F0 m 3 ls [])) {x0 : Nat} {x1 : Int32} {x2 : Int32} {x3 : Int32} {x4 : Int32} {x5 : Int32} {x6 : Int32} {x7 : Int32} {u : Mm} {H : Heap} {locs : List Loc} {ls : Array Slot} (h : V_X12_isHidden_206 G Q k_3 x0 x1 x2 x3 x4 x5 x6 x7 u) (hl : lv_has ls 16 [(0, .ref x0), (1, .int x1), (2, .int x2), (3, .int x3), (4, .int x4), (5, .int x5), (6, .int x6), (7, .int x7)]) (hP : Hp G u s H locs) : W p l e rm_X12_isHidden s m args below meth c H locs 0 0 (MQ below (Ei G Q) args s 0 0 (ag G)) (F0 m 206 ls []) := by
  have hx := C.1
  have hb := C.2.1
  unfold V_X12_isHidden_206 at h
  obtain ⟨x7_206, ex7_206⟩ : ∃ y : Int32, y = x7 + (1 : Int32) := ⟨_, rfl⟩
  have h := h x7_206 ex7_206
  refine lv_iinc (v := x7_206) (lv' := [(7, .int x7_206), (0, .ref x0), (1, .int x1), (2, .int x2), (3, .int x3), (4, .int x4), (5, .int x5), (6, .int x6)]) hx hb dX12_isHidden_206 hl (k := 7) rfl (by rw [ex7_206]; rfl) (by decide) rfl (fun ls hl => ?_)
  refine lv_goto (tgt := 3) hx hb dX12_isHidden_209 (by decide) ?_
  exact hk_3 x0 x1 x2 x3 x4 x5 x6 x7_206 u _ _ _ h (lv_sub hl [1, 2, 3, 4, 5, 6, 7, 0] rfl) hP
set_option maxHeartbeats 4000000 in
set_option maxRecDepth 100000 in
theorem b_X12_isHidden_148 {G : Gx} {Q : Int32 → Mm → Prop} {p : Program} {l : Launch} {e : Env} {s : State} {m : MethodId} {args : Array Value} {below : List Frame} {meth : Method} {c : Code} (C : Cx G p s m c cX12_isHidden RX12 16) (hr : meth.sig.returnType = (some .boolean)) (hlk : meth.locks = false) {k_3 : Nat → Int32 → Int32 → Int32 → Int32 → Int32 → Int32 → Int32 → Mm → Prop} (hk_3 : ∀ (x0 : Nat) (x1 : Int32) (x2 : Int32) (x3 : Int32) (x4 : Int32) (x5 : Int32) (x6 : Int32) (x7 : Int32) (u : Mm) (H : Heap) (locs : List Loc) (ls : Array Slot), k_3 x0 x1 x2 x3 x4 x5 x6 x7 u → lv_has ls 16 [(0, .ref x0), (1, .int x1), (2, .int x2), (3, .int x3), (4, .int x4), (5, .int x5), (6, .int x6), (7, .int x7)] → Hp G u s H locs → W p l e rm_X12_isHidden s m args below meth c H locs 0 0 (MQ below (Ei G Q) args s 0 0 (ag G)) (F0 m 3 ls [])) {x0 : Nat} {x1 : Int32} {x2 : Int32} {x3 : Int32} {x4 : Int32} {x5 : Int32} {x6 : Int32} {x7 : Int32} {x9 : Int32} {x11 : Int32} {x12 : Int32} {x13 : Int32} {t0 : Int32} {u : Mm} {H : Heap} {locs : List Loc} {ls : Array Slot} (h : V_X12_isHidden_148 G Q k_3 x0 x1 x2 x3 x4 x5 x6 x7 x9 x11 x12 x13 t0 u) (hl : lv_has ls 16 [(0, .ref x0), (1, .int x1), (2, .int x2), (3, .int x3), (4, .int x4), (5, .int x5), (6, .int x6), (7, .int x7), (9, .int x9), (11, .int x11), (12, .int x12), (13, .int x13)]) (hP : Hp G u s H locs) : W p l e rm_X12_isHidden s m args below meth c H locs 0 0 (MQ below (Ei G Q) args s 0 0 (ag G)) (F0 m 148 ls [.int t0]) := by
  have hx := C.1
  have hb := C.2.1
  unfold V_X12_isHidden_148 at h
  refine lv_istore (lv' := [(14, .int t0), (0, .ref x0), (1, .int x1), (2, .int x2), (3, .int x3), (4, .int x4), (5, .int x5), (6, .int x6), (7, .int x7), (9, .int x9), (11, .int x11), (12, .int x12), (13, .int x13)]) hx hb dX12_isHidden_148 hl (by decide) rfl (fun ls hl => ?_)
  refine lv_iload hx hb dX12_isHidden_150 (lv_at hl 12 rfl) ?_
  refine lv_iload hx hb dX12_isHidden_152 (lv_at hl 11 rfl) ?_
  refine lv_imul hx hb dX12_isHidden_154 ?_
  refine lv_iload hx hb dX12_isHidden_155 (lv_at hl 0 rfl) ?_
  refine lv_iload hx hb dX12_isHidden_157 (lv_at hl 12 rfl) ?_
  refine lv_isub hx hb dX12_isHidden_159 ?_
  refine lv_iload hx hb dX12_isHidden_160 (lv_at hl 10 rfl) ?_
  refine lv_iload hx hb dX12_isHidden_162 (lv_at hl 9 rfl) ?_
  refine lv_isub hx hb dX12_isHidden_164 ?_
  refine va_mabs hx hb (C.2.2.2.1.trans hl.1.symm) C.2.2.1 (ml_X12_278 C.hA) (st_J9_abs_0f7a4 C.hA) (ini_J9 C.hA) (cd_J9_abs_0f7a4 C.hA) (Nat.le_of_ble_eq_true rfl) (Nat.le_of_ble_eq_true rfl) (Nat.le_of_ble_eq_true rfl) (Nat.le_of_ble_eq_true rfl) dX12_isHidden_165 ?_
  refine lv_imul hx hb dX12_isHidden_168 ?_
  refine lv_iadd hx hb dX12_isHidden_169 ?_
  refine lv_topi (fun x15_170 ex15_170 => ?_)
  have h := h x15_170 ex15_170
  refine lv_istore (lv' := [(15, .int x15_170), (14, .int t0), (0, .ref x0), (1, .int x1), (2, .int x2), (3, .int x3), (4, .int x4), (5, .int x5), (6, .int x6), (7, .int x7), (9, .int x9), (11, .int x11), (12, .int x12), (13, .int x13)]) hx hb dX12_isHidden_170 hl (by decide) rfl (fun ls hl => ?_)
  refine lv_iload hx hb dX12_isHidden_172 (lv_at hl 0 rfl) ?_
  refine lv_aload_n hx hb dX12_isHidden_174 rfl (lv_at hl 2 rfl) ?_
  refine lv_iload_n hx hb dX12_isHidden_175 rfl (lv_at hl 3 rfl) ?_
  refine lv_iload hx hb dX12_isHidden_176 (lv_at hl 9 rfl) ?_
  refine lv_iconst (v := (2 : Int32)) hx hb dX12_isHidden_178 (by decide) ?_
  obtain ⟨g1, h⟩ := h
  refine q_cali (q_runV C hP (c_X12_ofWall h) (cd_X12_ofWall C.hA) (ini_X12 C.hA) (ml_X12_275 C.hA) (im_X12_ofWall C.hA) (sl_X12_ofWall C.hA) g1 (by decide) rfl hd_X12_ofWall ⟨rfl, rfl⟩ ⟨Nat.le_of_ble_eq_true rfl, Nat.le_of_ble_eq_true rfl⟩ ⟨Nat.le_of_ble_eq_true rfl, Nat.le_of_ble_eq_true rfl⟩ hl.1 rfl (Nat.le_of_ble_eq_true rfl) dX12_isHidden_179) hP (fun v_179 u_179 H locs h hP => ?_)
  refine lv_iload hx hb dX12_isHidden_182 (lv_at hl 12 rfl) ?_
  refine lv_imul hx hb dX12_isHidden_184 ?_
  refine lv_icmp_lt (tgt := 206) hx hb dX12_isHidden_185 (by decide) (fun c185 => ?_) (fun c185 => ?_)
  · have h := h.1 c185
    exact b_X12_isHidden_206 C hr hlk hk_3 h (lv_sub hl [2, 3, 4, 5, 6, 7, 8, 9] rfl) hP
  · have h := h.2 c185
    refine lv_iload hx hb dX12_isHidden_188 (lv_at hl 0 rfl) ?_
    refine lv_aload_n hx hb dX12_isHidden_190 rfl (lv_at hl 2 rfl) ?_
    refine lv_iload_n hx hb dX12_isHidden_191 rfl (lv_at hl 3 rfl) ?_
    refine lv_iload hx hb dX12_isHidden_192 (lv_at hl 9 rfl) ?_
    refine lv_iconst (v := (3 : Int32)) hx hb dX12_isHidden_194 (by decide) ?_
    refine q_cali (q_runV C hP (c_X12_ofWall h) (cd_X12_ofWall C.hA) (ini_X12 C.hA) (ml_X12_275 C.hA) (im_X12_ofWall C.hA) (sl_X12_ofWall C.hA) g1 (by decide) rfl hd_X12_ofWall ⟨rfl, rfl⟩ ⟨Nat.le_of_ble_eq_true rfl, Nat.le_of_ble_eq_true rfl⟩ ⟨Nat.le_of_ble_eq_true rfl, Nat.le_of_ble_eq_true rfl⟩ hl.1 rfl (Nat.le_of_ble_eq_true rfl) dX12_isHidden_195) hP (fun v_195 u_195 H locs h hP => ?_)
    refine lv_iload hx hb dX12_isHidden_198 (lv_at hl 12 rfl) ?_
    refine lv_imul hx hb dX12_isHidden_200 ?_
    refine lv_icmp_gt (tgt := 206) hx hb dX12_isHidden_201 (by decide) (fun c201 => ?_) (fun c201 => ?_)
    · have h := h.1 c201
      exact b_X12_isHidden_206 C hr hlk hk_3 h (lv_sub hl [2, 3, 4, 5, 6, 7, 8, 9] rfl) hP
    · have h := h.2 c201
      refine lv_iconst (v := (1 : Int32)) hx hb dX12_isHidden_204 (by decide) ?_
      exact q_zret C hr hlk hP (by decide) h (by decide) (by decide) dX12_isHidden_205
set_option maxHeartbeats 4000000 in
set_option maxRecDepth 100000 in
theorem b_X12_isHidden_134 {G : Gx} {Q : Int32 → Mm → Prop} {p : Program} {l : Launch} {e : Env} {s : State} {m : MethodId} {args : Array Value} {below : List Frame} {meth : Method} {c : Code} (C : Cx G p s m c cX12_isHidden RX12 16) (hr : meth.sig.returnType = (some .boolean)) (hlk : meth.locks = false) {k_3 : Nat → Int32 → Int32 → Int32 → Int32 → Int32 → Int32 → Int32 → Mm → Prop} (hk_3 : ∀ (x0 : Nat) (x1 : Int32) (x2 : Int32) (x3 : Int32) (x4 : Int32) (x5 : Int32) (x6 : Int32) (x7 : Int32) (u : Mm) (H : Heap) (locs : List Loc) (ls : Array Slot), k_3 x0 x1 x2 x3 x4 x5 x6 x7 u → lv_has ls 16 [(0, .ref x0), (1, .int x1), (2, .int x2), (3, .int x3), (4, .int x4), (5, .int x5), (6, .int x6), (7, .int x7)] → Hp G u s H locs → W p l e rm_X12_isHidden s m args below meth c H locs 0 0 (MQ below (Ei G Q) args s 0 0 (ag G)) (F0 m 3 ls [])) {x0 : Nat} {x1 : Int32} {x2 : Int32} {x3 : Int32} {x4 : Int32} {x5 : Int32} {x6 : Int32} {x7 : Int32} {x8 : Int32} {x9 : Int32} {x11 : Int32} {x12 : Int32} {t0 : Int32} {u : Mm} {H : Heap} {locs : List Loc} {ls : Array Slot} (h : V_X12_isHidden_134 G Q k_3 x0 x1 x2 x3 x4 x5 x6 x7 x8 x9 x11 x12 t0 u) (hl : lv_has ls 16 [(0, .ref x0), (1, .int x1), (2, .int x2), (3, .int x3), (4, .int x4), (5, .int x5), (6, .int x6), (7, .int x7), (8, .int x8), (9, .int x9), (11, .int x11), (12, .int x12)]) (hP : Hp G u s H locs) : W p l e rm_X12_isHidden s m args below meth c H locs 0 0 (MQ below (Ei G Q) args s 0 0 (ag G)) (F0 m 134 ls [.int t0]) := by
  have hx := C.1
  have hb := C.2.1
  unfold V_X12_isHidden_134 at h
  refine lv_istore (lv' := [(13, .int t0), (0, .ref x0), (1, .int x1), (2, .int x2), (3, .int x3), (4, .int x4), (5, .int x5), (6, .int x6), (7, .int x7), (8, .int x8), (9, .int x9), (11, .int x11), (12, .int x12)]) hx hb dX12_isHidden_134 hl (by decide) rfl (fun ls hl => ?_)
  refine lv_iload hx hb dX12_isHidden_136 (lv_at hl 9 rfl) ?_
  refine lv_if_eq (tgt := 146) hx hb dX12_isHidden_138 (by decide) (fun c138 => ?_) (fun c138 => ?_)
  · have h := h.1 c138
    refine lv_iload hx hb dX12_isHidden_146 (lv_at hl 7 rfl) ?_
    exact b_X12_isHidden_148 C hr hlk hk_3 h (lv_sub hl [1, 2, 3, 4, 5, 6, 7, 8, 10, 11, 12, 0] rfl) hP
  · have h := h.2 c138
    refine lv_iload hx hb dX12_isHidden_141 (lv_at hl 6 rfl) ?_
    refine lv_goto (tgt := 148) hx hb dX12_isHidden_143 (by decide) ?_
    exact b_X12_isHidden_148 C hr hlk hk_3 h (lv_sub hl [1, 2, 3, 4, 5, 6, 7, 8, 10, 11, 12, 0] rfl) hP
set_option maxHeartbeats 4000000 in
set_option maxRecDepth 100000 in
theorem b_X12_isHidden_74 {G : Gx} {Q : Int32 → Mm → Prop} {p : Program} {l : Launch} {e : Env} {s : State} {m : MethodId} {args : Array Value} {below : List Frame} {meth : Method} {c : Code} (C : Cx G p s m c cX12_isHidden RX12 16) (hr : meth.sig.returnType = (some .boolean)) (hlk : meth.locks = false) {k_3 : Nat → Int32 → Int32 → Int32 → Int32 → Int32 → Int32 → Int32 → Mm → Prop} (hk_3 : ∀ (x0 : Nat) (x1 : Int32) (x2 : Int32) (x3 : Int32) (x4 : Int32) (x5 : Int32) (x6 : Int32) (x7 : Int32) (u : Mm) (H : Heap) (locs : List Loc) (ls : Array Slot), k_3 x0 x1 x2 x3 x4 x5 x6 x7 u → lv_has ls 16 [(0, .ref x0), (1, .int x1), (2, .int x2), (3, .int x3), (4, .int x4), (5, .int x5), (6, .int x6), (7, .int x7)] → Hp G u s H locs → W p l e rm_X12_isHidden s m args below meth c H locs 0 0 (MQ below (Ei G Q) args s 0 0 (ag G)) (F0 m 3 ls [])) {x0 : Nat} {x1 : Int32} {x2 : Int32} {x3 : Int32} {x4 : Int32} {x5 : Int32} {x6 : Int32} {x7 : Int32} {x8 : Int32} {x9 : Int32} {t0 : Int32} {u : Mm} {H : Heap} {locs : List Loc} {ls : Array Slot} (h : V_X12_isHidden_74 G Q k_3 x0 x1 x2 x3 x4 x5 x6 x7 x8 x9 t0 u) (hl : lv_has ls 16 [(0, .ref x0), (1, .int x1), (2, .int x2), (3, .int x3), (4, .int x4), (5, .int x5), (6, .int x6), (7, .int x7), (8, .int x8), (9, .int x9)]) (hP : Hp G u s H locs) : W p l e rm_X12_isHidden s m args below meth c H locs 0 0 (MQ below (Ei G Q) args s 0 0 (ag G)) (F0 m 74 ls [.int t0]) := by
  have hx := C.1
  have hb := C.2.1
  unfold V_X12_isHidden_74 at h
  refine lv_istore (lv' := [(10, .int t0), (0, .ref x0), (1, .int x1), (2, .int x2), (3, .int x3), (4, .int x4), (5, .int x5), (6, .int x6), (7, .int x7), (8, .int x8), (9, .int x9)]) hx hb dX12_isHidden_74 hl (by decide) rfl (fun ls hl => ?_)
  refine lv_aload_n hx hb dX12_isHidden_76 rfl (lv_at hl 1 rfl) ?_
  refine lv_iload_n hx hb dX12_isHidden_77 rfl (lv_at hl 2 rfl) ?_
  refine lv_iload hx hb dX12_isHidden_78 (lv_at hl 8 rfl) ?_
  refine lv_iconst (v := (1 : Int32)) hx hb dX12_isHidden_80 (by decide) ?_
  obtain ⟨g1, h⟩ := h
  refine q_cali (q_runV C hP (c_X12_ofWall h) (cd_X12_ofWall C.hA) (ini_X12 C.hA) (ml_X12_275 C.hA) (im_X12_ofWall C.hA) (sl_X12_ofWall C.hA) g1 (by decide) rfl hd_X12_ofWall ⟨rfl, rfl⟩ ⟨Nat.le_of_ble_eq_true rfl, Nat.le_of_ble_eq_true rfl⟩ ⟨Nat.le_of_ble_eq_true rfl, Nat.le_of_ble_eq_true rfl⟩ hl.1 rfl (Nat.le_of_ble_eq_true rfl) dX12_isHidden_81) hP (fun v_81 u_81 H locs h hP => ?_)
  refine lv_istore (lv' := [(11, .int v_81), (10, .int t0), (0, .ref x0), (1, .int x1), (2, .int x2), (3, .int x3), (4, .int x4), (5, .int x5), (6, .int x6), (7, .int x7), (8, .int x8), (9, .int x9)]) hx hb dX12_isHidden_84 hl (by decide) rfl (fun ls hl => ?_)
  refine lv_iload hx hb dX12_isHidden_86 (lv_at hl 0 rfl) ?_
  refine lv_iload hx hb dX12_isHidden_88 (lv_at hl 11 rfl) ?_
  refine lv_iload hx hb dX12_isHidden_90 (lv_at hl 1 rfl) ?_
  refine va_mmin hx hb (C.2.2.2.1.trans hl.1.symm) C.2.2.1 (ml_X12_183 C.hA) (st_J9_min_7cf53 C.hA) (ini_J9 C.hA) (cd_J9_min_7cf53 C.hA) (Nat.le_of_ble_eq_true rfl) (Nat.le_of_ble_eq_true rfl) (Nat.le_of_ble_eq_true rfl) (Nat.le_of_ble_eq_true rfl) dX12_isHidden_92 ?_
  refine lv_icmp_le (tgt := 206) hx hb dX12_isHidden_95 (by decide) (fun c95 => ?_) (fun c95 => ?_)
  · have h := h.1 c95
    exact b_X12_isHidden_206 C hr hlk hk_3 h (lv_sub hl [2, 3, 4, 5, 6, 7, 8, 9] rfl) hP
  · have h := h.2 c95
    refine lv_iload hx hb dX12_isHidden_98 (lv_at hl 0 rfl) ?_
    refine lv_iload hx hb dX12_isHidden_100 (lv_at hl 11 rfl) ?_
    refine lv_iload hx hb dX12_isHidden_102 (lv_at hl 1 rfl) ?_
    refine va_mmax hx hb (C.2.2.2.1.trans hl.1.symm) C.2.2.1 (ml_X12_264 C.hA) (st_J9_max_7cf53 C.hA) (ini_J9 C.hA) (cd_J9_max_7cf53 C.hA) (Nat.le_of_ble_eq_true rfl) (Nat.le_of_ble_eq_true rfl) (Nat.le_of_ble_eq_true rfl) (Nat.le_of_ble_eq_true rfl) dX12_isHidden_104 ?_
    refine lv_icmp_lt (tgt := 113) hx hb dX12_isHidden_107 (by decide) (fun c107 => ?_) (fun c107 => ?_)
    · have h := h.1 c107
      refine lv_iload hx hb dX12_isHidden_113 (lv_at hl 1 rfl) ?_
      refine lv_iload hx hb dX12_isHidden_115 (lv_at hl 11 rfl) ?_
      refine lv_isub hx hb dX12_isHidden_117 ?_
      refine va_mabs hx hb (C.2.2.2.1.trans hl.1.symm) C.2.2.1 (ml_X12_278 C.hA) (st_J9_abs_0f7a4 C.hA) (ini_J9 C.hA) (cd_J9_abs_0f7a4 C.hA) (Nat.le_of_ble_eq_true rfl) (Nat.le_of_ble_eq_true rfl) (Nat.le_of_ble_eq_true rfl) (Nat.le_of_ble_eq_true rfl) dX12_isHidden_118 ?_
      refine lv_topi (fun x12_121 ex12_121 => ?_)
      have h := h x12_121 ex12_121
      refine lv_istore (lv' := [(12, .int x12_121), (11, .int v_81), (10, .int t0), (0, .ref x0), (1, .int x1), (2, .int x2), (3, .int x3), (4, .int x4), (5, .int x5), (6, .int x6), (7, .int x7), (8, .int x8), (9, .int x9)]) hx hb dX12_isHidden_121 hl (by decide) rfl (fun ls hl => ?_)
      refine lv_iload hx hb dX12_isHidden_123 (lv_at hl 11 rfl) ?_
      refine lv_if_eq (tgt := 132) hx hb dX12_isHidden_125 (by decide) (fun c125 => ?_) (fun c125 => ?_)
      · have h := h.1 c125
        refine lv_iload hx hb dX12_isHidden_132 (lv_at hl 7 rfl) ?_
        exact b_X12_isHidden_134 C hr hlk hk_3 h (lv_sub hl [3, 4, 5, 6, 7, 8, 9, 10, 11, 12, 1, 0] rfl) hP
      · have h := h.2 c125
        refine lv_iload_n hx hb dX12_isHidden_128 rfl (lv_at hl 6 rfl) ?_
        refine lv_goto (tgt := 134) hx hb dX12_isHidden_129 (by decide) ?_
        exact b_X12_isHidden_134 C hr hlk hk_3 h (lv_sub hl [3, 4, 5, 6, 7, 8, 9, 10, 11, 12, 1, 0] rfl) hP
    · have h := h.2 c107
      refine lv_goto (tgt := 206) hx hb dX12_isHidden_110 (by decide) ?_
      exact b_X12_isHidden_206 C hr hlk hk_3 h (lv_sub hl [2, 3, 4, 5, 6, 7, 8, 9] rfl) hP
set_option maxHeartbeats 4000000 in
set_option maxRecDepth 100000 in
theorem b_X12_isHidden_60 {G : Gx} {Q : Int32 → Mm → Prop} {p : Program} {l : Launch} {e : Env} {s : State} {m : MethodId} {args : Array Value} {below : List Frame} {meth : Method} {c : Code} (C : Cx G p s m c cX12_isHidden RX12 16) (hr : meth.sig.returnType = (some .boolean)) (hlk : meth.locks = false) {k_3 : Nat → Int32 → Int32 → Int32 → Int32 → Int32 → Int32 → Int32 → Mm → Prop} (hk_3 : ∀ (x0 : Nat) (x1 : Int32) (x2 : Int32) (x3 : Int32) (x4 : Int32) (x5 : Int32) (x6 : Int32) (x7 : Int32) (u : Mm) (H : Heap) (locs : List Loc) (ls : Array Slot), k_3 x0 x1 x2 x3 x4 x5 x6 x7 u → lv_has ls 16 [(0, .ref x0), (1, .int x1), (2, .int x2), (3, .int x3), (4, .int x4), (5, .int x5), (6, .int x6), (7, .int x7)] → Hp G u s H locs → W p l e rm_X12_isHidden s m args below meth c H locs 0 0 (MQ below (Ei G Q) args s 0 0 (ag G)) (F0 m 3 ls [])) {x0 : Nat} {x1 : Int32} {x2 : Int32} {x3 : Int32} {x4 : Int32} {x5 : Int32} {x6 : Int32} {x7 : Int32} {x8 : Int32} {t0 : Int32} {u : Mm} {H : Heap} {locs : List Loc} {ls : Array Slot} (h : V_X12_isHidden_60 G Q k_3 x0 x1 x2 x3 x4 x5 x6 x7 x8 t0 u) (hl : lv_has ls 16 [(0, .ref x0), (1, .int x1), (2, .int x2), (3, .int x3), (4, .int x4), (5, .int x5), (6, .int x6), (7, .int x7), (8, .int x8)]) (hP : Hp G u s H locs) : W p l e rm_X12_isHidden s m args below meth c H locs 0 0 (MQ below (Ei G Q) args s 0 0 (ag G)) (F0 m 60 ls [.int t0]) := by
  have hx := C.1
  have hb := C.2.1
  unfold V_X12_isHidden_60 at h
  refine lv_istore (lv' := [(9, .int t0), (0, .ref x0), (1, .int x1), (2, .int x2), (3, .int x3), (4, .int x4), (5, .int x5), (6, .int x6), (7, .int x7), (8, .int x8)]) hx hb dX12_isHidden_60 hl (by decide) rfl (fun ls hl => ?_)
  refine lv_iload hx hb dX12_isHidden_62 (lv_at hl 9 rfl) ?_
  refine lv_if_eq (tgt := 72) hx hb dX12_isHidden_64 (by decide) (fun c64 => ?_) (fun c64 => ?_)
  · have h := h.1 c64
    refine lv_iload hx hb dX12_isHidden_72 (lv_at hl 6 rfl) ?_
    exact b_X12_isHidden_74 C hr hlk hk_3 h (lv_sub hl [1, 2, 3, 4, 5, 6, 7, 8, 9, 0] rfl) hP
  · have h := h.2 c64
    refine lv_iload hx hb dX12_isHidden_67 (lv_at hl 7 rfl) ?_
    refine lv_goto (tgt := 74) hx hb dX12_isHidden_69 (by decide) ?_
    exact b_X12_isHidden_74 C hr hlk hk_3 h (lv_sub hl [1, 2, 3, 4, 5, 6, 7, 8, 9, 0] rfl) hP
set_option maxHeartbeats 4000000 in
set_option maxRecDepth 100000 in
theorem b_X12_isHidden_47 {G : Gx} {Q : Int32 → Mm → Prop} {p : Program} {l : Launch} {e : Env} {s : State} {m : MethodId} {args : Array Value} {below : List Frame} {meth : Method} {c : Code} (C : Cx G p s m c cX12_isHidden RX12 16) (hr : meth.sig.returnType = (some .boolean)) (hlk : meth.locks = false) {k_3 : Nat → Int32 → Int32 → Int32 → Int32 → Int32 → Int32 → Int32 → Mm → Prop} (hk_3 : ∀ (x0 : Nat) (x1 : Int32) (x2 : Int32) (x3 : Int32) (x4 : Int32) (x5 : Int32) (x6 : Int32) (x7 : Int32) (u : Mm) (H : Heap) (locs : List Loc) (ls : Array Slot), k_3 x0 x1 x2 x3 x4 x5 x6 x7 u → lv_has ls 16 [(0, .ref x0), (1, .int x1), (2, .int x2), (3, .int x3), (4, .int x4), (5, .int x5), (6, .int x6), (7, .int x7)] → Hp G u s H locs → W p l e rm_X12_isHidden s m args below meth c H locs 0 0 (MQ below (Ei G Q) args s 0 0 (ag G)) (F0 m 3 ls [])) {x0 : Nat} {x1 : Int32} {x2 : Int32} {x3 : Int32} {x4 : Int32} {x5 : Int32} {x6 : Int32} {x7 : Int32} {t0 : Int32} {u : Mm} {H : Heap} {locs : List Loc} {ls : Array Slot} (h : V_X12_isHidden_47 G Q k_3 x0 x1 x2 x3 x4 x5 x6 x7 t0 u) (hl : lv_has ls 16 [(0, .ref x0), (1, .int x1), (2, .int x2), (3, .int x3), (4, .int x4), (5, .int x5), (6, .int x6), (7, .int x7)]) (hP : Hp G u s H locs) : W p l e rm_X12_isHidden s m args below meth c H locs 0 0 (MQ below (Ei G Q) args s 0 0 (ag G)) (F0 m 47 ls [.int t0]) := by
  have hx := C.1
  have hb := C.2.1
  unfold V_X12_isHidden_47 at h
  refine lv_istore (lv' := [(8, .int t0), (0, .ref x0), (1, .int x1), (2, .int x2), (3, .int x3), (4, .int x4), (5, .int x5), (6, .int x6), (7, .int x7)]) hx hb dX12_isHidden_47 hl (by decide) rfl (fun ls hl => ?_)
  refine lv_iload hx hb dX12_isHidden_49 (lv_at hl 0 rfl) ?_
  refine lv_if_eq (tgt := 59) hx hb dX12_isHidden_51 (by decide) (fun c51 => ?_) (fun c51 => ?_)
  · have h := h.1 c51
    refine lv_iload_n hx hb dX12_isHidden_59 rfl (lv_at hl 4 rfl) ?_
    exact b_X12_isHidden_60 C hr hlk hk_3 h (lv_sub hl [1, 2, 3, 4, 5, 6, 7, 8, 0] rfl) hP
  · have h := h.2 c51
    refine lv_iload hx hb dX12_isHidden_54 (lv_at hl 5 rfl) ?_
    refine lv_goto (tgt := 60) hx hb dX12_isHidden_56 (by decide) ?_
    exact b_X12_isHidden_60 C hr hlk hk_3 h (lv_sub hl [1, 2, 3, 4, 5, 6, 7, 8, 0] rfl) hP
set_option maxHeartbeats 4000000 in
set_option maxRecDepth 100000 in
theorem b_X12_isHidden_3 {G : Gx} {Q : Int32 → Mm → Prop} {p : Program} {l : Launch} {e : Env} {s : State} {m : MethodId} {args : Array Value} {below : List Frame} {meth : Method} {c : Code} (C : Cx G p s m c cX12_isHidden RX12 16) (hr : meth.sig.returnType = (some .boolean)) (hlk : meth.locks = false) {k_3 : Nat → Int32 → Int32 → Int32 → Int32 → Int32 → Int32 → Int32 → Mm → Prop} (hk_3 : ∀ (x0 : Nat) (x1 : Int32) (x2 : Int32) (x3 : Int32) (x4 : Int32) (x5 : Int32) (x6 : Int32) (x7 : Int32) (u : Mm) (H : Heap) (locs : List Loc) (ls : Array Slot), k_3 x0 x1 x2 x3 x4 x5 x6 x7 u → lv_has ls 16 [(0, .ref x0), (1, .int x1), (2, .int x2), (3, .int x3), (4, .int x4), (5, .int x5), (6, .int x6), (7, .int x7)] → Hp G u s H locs → W p l e rm_X12_isHidden s m args below meth c H locs 0 0 (MQ below (Ei G Q) args s 0 0 (ag G)) (F0 m 3 ls [])) {x0 : Nat} {x1 : Int32} {x2 : Int32} {x3 : Int32} {x4 : Int32} {x5 : Int32} {x6 : Int32} {x7 : Int32} {u : Mm} {H : Heap} {locs : List Loc} {ls : Array Slot} (h : V_X12_isHidden_3_B G Q k_3 x0 x1 x2 x3 x4 x5 x6 x7 u) (hl : lv_has ls 16 [(0, .ref x0), (1, .int x1), (2, .int x2), (3, .int x3), (4, .int x4), (5, .int x5), (6, .int x6), (7, .int x7)]) (hP : Hp G u s H locs) : W p l e rm_X12_isHidden s m args below meth c H locs 0 0 (MQ below (Ei G Q) args s 0 0 (ag G)) (F0 m 3 ls []) := by
  have hx := C.1
  have hb := C.2.1
  unfold V_X12_isHidden_3_B at h
  refine lv_iload hx hb dX12_isHidden_3 (lv_at hl 7 rfl) ?_
  refine lv_aload_n hx hb dX12_isHidden_5 rfl (lv_at hl 0 rfl) ?_
  obtain ⟨g1, h⟩ := h
  obtain ⟨g2, h⟩ := h
  refine q_getR C hP (k := 2) (lay_X12 C.hA) rfl (by decide) g1 g2 (fl_X12_27 C.hA) dX12_isHidden_6 ?_
  refine lv_iload_n hx hb dX12_isHidden_9 rfl (lv_at hl 1 rfl) ?_
  obtain ⟨g3, h⟩ := h
  obtain ⟨g4, h⟩ := h
  refine q_iald C hP g3 g4 dX12_isHidden_10 ?_
  refine lv_icmp_ge (tgt := 212) hx hb dX12_isHidden_11 (by decide) (fun c11 => ?_) (fun c11 => ?_)
  · have h := h.1 c11
    refine lv_iconst (v := (0 : Int32)) hx hb dX12_isHidden_212 (by decide) ?_
    exact q_zret C hr hlk hP (by decide) h (by decide) (by decide) dX12_isHidden_213
  · have h := h.2 c11
    refine lv_iload_n hx hb dX12_isHidden_14 rfl (lv_at hl 2 rfl) ?_
    refine lv_bipush (v := (8 : Int32)) hx hb dX12_isHidden_15 (by decide) ?_
    refine lv_iload hx hb dX12_isHidden_17 (lv_at hl 7 rfl) ?_
    refine lv_iadd hx hb dX12_isHidden_19 ?_
    refine lv_ishr hx hb dX12_isHidden_20 ?_
    refine lv_iconst (v := (1 : Int32)) hx hb dX12_isHidden_21 (by decide) ?_
    refine lv_iand hx hb dX12_isHidden_22 ?_
    refine lv_iconst (v := (1 : Int32)) hx hb dX12_isHidden_23 (by decide) ?_
    refine lv_icmp_ne (tgt := 30) hx hb dX12_isHidden_24 (by decide) (fun c24 => ?_) (fun c24 => ?_)
    · have h := h.2 c24
      refine lv_aload_n hx hb dX12_isHidden_30 rfl (lv_at hl 0 rfl) ?_
      refine lv_iload_n hx hb dX12_isHidden_31 rfl (lv_at hl 1 rfl) ?_
      refine lv_iload hx hb dX12_isHidden_32 (lv_at hl 7 rfl) ?_
      refine lv_iconst (v := (0 : Int32)) hx hb dX12_isHidden_34 (by decide) ?_
      refine q_cali (q_runV C hP (c_X12_ofWall h) (cd_X12_ofWall C.hA) (ini_X12 C.hA) (ml_X12_275 C.hA) (im_X12_ofWall C.hA) (sl_X12_ofWall C.hA) g1 (by decide) rfl hd_X12_ofWall ⟨rfl, rfl⟩ ⟨Nat.le_of_ble_eq_true rfl, Nat.le_of_ble_eq_true rfl⟩ ⟨Nat.le_of_ble_eq_true rfl, Nat.le_of_ble_eq_true rfl⟩ hl.1 rfl (Nat.le_of_ble_eq_true rfl) dX12_isHidden_35) hP (fun v_35 u_35 H locs h hP => ?_)
      refine lv_iconst (v := (1 : Int32)) hx hb dX12_isHidden_38 (by decide) ?_
      refine lv_icmp_ne (tgt := 46) hx hb dX12_isHidden_39 (by decide) (fun c39 => ?_) (fun c39 => ?_)
      · have h := h.2 c39
        refine lv_iconst (v := (0 : Int32)) hx hb dX12_isHidden_46 (by decide) ?_
        exact b_X12_isHidden_47 C hr hlk hk_3 h (lv_sub hl [0, 1, 2, 3, 4, 5, 6, 7] rfl) hP
      · have h := h.1 c39
        refine lv_iconst (v := (1 : Int32)) hx hb dX12_isHidden_42 (by decide) ?_
        refine lv_goto (tgt := 47) hx hb dX12_isHidden_43 (by decide) ?_
        exact b_X12_isHidden_47 C hr hlk hk_3 h (lv_sub hl [0, 1, 2, 3, 4, 5, 6, 7] rfl) hP
    · have h := h.1 c24
      refine lv_goto (tgt := 206) hx hb dX12_isHidden_27 (by decide) ?_
      exact b_X12_isHidden_206 C hr hlk hk_3 h (lv_sub hl [0, 1, 2, 3, 4, 5, 6, 7] rfl) hP
theorem l_X12_isHidden_3 {G : Gx} {Q : Int32 → Mm → Prop} {p : Program} {l : Launch} {e : Env} {s : State} {m : MethodId} {args : Array Value} {below : List Frame} {meth : Method} {c : Code} (C : Cx G p s m c cX12_isHidden RX12 16) (hr : meth.sig.returnType = (some .boolean)) (hlk : meth.locks = false) : ∀ (n : Nat) (x0 : Nat) (x1 : Int32) (x2 : Int32) (x3 : Int32) (x4 : Int32) (x5 : Int32) (x6 : Int32) (x7 : Int32) (u : Mm) (H : Heap) (locs : List Loc) (ls : Array Slot), V_X12_isHidden_3 G Q n x0 x1 x2 x3 x4 x5 x6 x7 u → lv_has ls 16 [(0, .ref x0), (1, .int x1), (2, .int x2), (3, .int x3), (4, .int x4), (5, .int x5), (6, .int x6), (7, .int x7)] → Hp G u s H locs → W p l e rm_X12_isHidden s m args below meth c H locs 0 0 (MQ below (Ei G Q) args s 0 0 (ag G)) (F0 m 3 ls []) := by
  intro n
  induction n with
  | zero => intro x0 x1 x2 x3 x4 x5 x6 x7 u H locs ls h; exact h.elim
  | succ n ih => intro x0 x1 x2 x3 x4 x5 x6 x7 u H locs ls h hl hP; exact b_X12_isHidden_3 C hr hlk ih h hl hP
set_option maxHeartbeats 4000000 in
set_option maxRecDepth 100000 in
theorem c_X12_isHidden {l : Launch} {G : Gx} {p0 : Nat} {p1 : Int32} {p2 : Int32} {p3 : Int32} {p4 : Int32} {p5 : Int32} {p6 : Int32} {u : Mm} {Q : Int32 → Mm → Prop} (h : V_X12_isHidden G p0 p1 p2 p3 p4 p5 p6 u Q) : Met l yX12_isHidden [.code yX12_isHidden cX12_isHidden 16 (some .boolean)] rm_X12_isHidden (va_Pc [.ref p0, .int p1, .int p2, .int p3, .int p4, .int p5, .int p6] (Wd G u)) (Ei G Q) 0 0 (ag G) := by
  refine q_met (by decide) (Nat.le_of_ble_eq_true rfl) ?_
  intro p e s m below meth c ls C hr hlk hnm hl hP
  have hl : lv_has ls 16 [(0, .ref p0), (1, .int p1), (2, .int p2), (3, .int p3), (4, .int p4), (5, .int p5), (6, .int p6)] := hl
  generalize ([.ref p0, .int p1, .int p2, .int p3, .int p4, .int p5, .int p6] : List Value).toArray = args
  have hx := C.1
  have hb := C.2.1
  unfold V_X12_isHidden at h
  refine lv_iconst (v := (0 : Int32)) hx hb dX12_isHidden_0 (by decide) ?_
  refine lv_istore (lv' := [(7, .int (0 : Int32)), (0, .ref p0), (1, .int p1), (2, .int p2), (3, .int p3), (4, .int p4), (5, .int p5), (6, .int p6)]) hx hb dX12_isHidden_1 hl (by decide) rfl (fun ls hl => ?_)
  obtain ⟨n, h⟩ := h
  exact l_X12_isHidden_3 C hr hlk n p0 p1 p2 p3 p4 p5 p6 (0 : Int32) u _ _ _ h (lv_sub hl [1, 2, 3, 4, 5, 6, 7, 0] rfl) hP
-- X12_reach
abbrev rm_X12_reach : Room := { frames := 1, cells := 0, slots := 0, locals := 23 }
theorem hd_X12_reach : yX12_reach.cls ≠ "java/lang/invoke/MethodHandle" ∧ yX12_reach.cls ≠ "java/lang/invoke/VarHandle" ∧ (parseMethodDescriptor yX12_reach.desc).map (fun d => d.parameters.length) = some 4 := by decide +kernel
def V_X12_reach_71 (G : Gx) (Q : Int32 → Mm → Prop) (t0 : Int32) (t1 : Int32) (u : Mm) : Prop :=
  Q (t0 - t1) u
def V_X12_reach_29 (G : Gx) (Q : Int32 → Mm → Prop) (x0 : Nat) (x1 : Int32) (x2 : Int32) (x3 : Int32) (x4 : Int32) (x5 : Int32) (t0 : Int32) (u : Mm) : Prop :=
  kd G x0 = 12 ∧ V_X12_ofWall G x0 x1 x2 (2 : Int32) u (fun (v_37 : Int32) (u_37 : Mm) => V_X12_ofWall G x0 x1 x2 (3 : Int32) u_37 (fun (v_44 : Int32) (u_44 : Mm) => V_X12_isIn G t0 v_37 v_44 u_44 (fun (v_47 : Int32) (u_47 : Mm) => ((v_47 = 0 → Q (0 : Int32) u_47) ∧ (¬ v_47 = 0 → V_X12_ofWall G x0 x1 x2 (1 : Int32) u_47 (fun (v_57 : Int32) (u_57 : Mm) => ((x5 = 0 → V_X12_reach_71 G Q v_57 x3 u_57) ∧ (¬ x5 = 0 → V_X12_reach_71 G Q v_57 x4 u_57))))))))
def V_X12_reach_16 (G : Gx) (Q : Int32 → Mm → Prop) (x0 : Nat) (x1 : Int32) (x2 : Int32) (x3 : Int32) (x4 : Int32) (t0 : Int32) (u : Mm) : Prop :=
  ((t0 = 0 → V_X12_reach_29 G Q x0 x1 x2 x3 x4 t0 x4 u) ∧ (¬ t0 = 0 → V_X12_reach_29 G Q x0 x1 x2 x3 x4 t0 x3 u))
def V_X12_reach (G : Gx) (p0 : Nat) (p1 : Int32) (p2 : Int32) (p3 : Int32) (p4 : Int32) (u : Mm) (Q : Int32 → Mm → Prop) : Prop :=
  kd G p0 = 12 ∧ V_X12_ofWall G p0 p1 p2 (0 : Int32) u (fun (v_4 : Int32) (u_4 : Mm) => ((v_4 = (1 : Int32) → V_X12_reach_16 G Q p0 p1 p2 p3 p4 (1 : Int32) u_4) ∧ (¬ v_4 = (1 : Int32) → V_X12_reach_16 G Q p0 p1 p2 p3 p4 (0 : Int32) u_4)))
set_option maxHeartbeats 4000000 in
set_option maxRecDepth 100000 in
theorem b_X12_reach_71 {G : Gx} {Q : Int32 → Mm → Prop} {p : Program} {l : Launch} {e : Env} {s : State} {m : MethodId} {args : Array Value} {below : List Frame} {meth : Method} {c : Code} (C : Cx G p s m c cX12_reach RX12 7) (hr : meth.sig.returnType = (some .int)) (hlk : meth.locks = false) {t0 : Int32} {t1 : Int32} {u : Mm} {H : Heap} {locs : List Loc} {ls : Array Slot} (h : V_X12_reach_71 G Q t0 t1 u) (hl : lv_has ls 7 []) (hP : Hp G u s H locs) : W p l e rm_X12_reach s m args below meth c H locs 0 0 (MQ below (Ei G Q) args s 0 0 (ag G)) (F0 m 71 ls [.int t1, .int t0]) := by
  have hx := C.1
  have hb := C.2.1
  unfold V_X12_reach_71 at h
  refine lv_isub hx hb dX12_reach_71 ?_
  refine lv_goto (tgt := 76) hx hb dX12_reach_72 (by decide) ?_
  exact q_iret C hr hlk hP h (by decide) (by decide) dX12_reach_76
set_option maxHeartbeats 4000000 in
set_option maxRecDepth 100000 in
theorem b_X12_reach_29 {G : Gx} {Q : Int32 → Mm → Prop} {p : Program} {l : Launch} {e : Env} {s : State} {m : MethodId} {args : Array Value} {below : List Frame} {meth : Method} {c : Code} (C : Cx G p s m c cX12_reach RX12 7) (hr : meth.sig.returnType = (some .int)) (hlk : meth.locks = false) {x0 : Nat} {x1 : Int32} {x2 : Int32} {x3 : Int32} {x4 : Int32} {x5 : Int32} {t0 : Int32} {u : Mm} {H : Heap} {locs : List Loc} {ls : Array Slot} (h : V_X12_reach_29 G Q x0 x1 x2 x3 x4 x5 t0 u) (hl : lv_has ls 7 [(0, .ref x0), (1, .int x1), (2, .int x2), (3, .int x3), (4, .int x4), (5, .int x5)]) (hP : Hp G u s H locs) : W p l e rm_X12_reach s m args below meth c H locs 0 0 (MQ below (Ei G Q) args s 0 0 (ag G)) (F0 m 29 ls [.int t0]) := by
  have hx := C.1
  have hb := C.2.1
  unfold V_X12_reach_29 at h
  refine lv_istore (lv' := [(6, .int t0), (0, .ref x0), (1, .int x1), (2, .int x2), (3, .int x3), (4, .int x4), (5, .int x5)]) hx hb dX12_reach_29 hl (by decide) rfl (fun ls hl => ?_)
  refine lv_iload hx hb dX12_reach_31 (lv_at hl 0 rfl) ?_
  refine lv_aload_n hx hb dX12_reach_33 rfl (lv_at hl 1 rfl) ?_
  refine lv_iload_n hx hb dX12_reach_34 rfl (lv_at hl 2 rfl) ?_
  refine lv_iload_n hx hb dX12_reach_35 rfl (lv_at hl 3 rfl) ?_
  refine lv_iconst (v := (2 : Int32)) hx hb dX12_reach_36 (by decide) ?_
  obtain ⟨g1, h⟩ := h
  refine q_cali (q_runV C hP (c_X12_ofWall h) (cd_X12_ofWall C.hA) (ini_X12 C.hA) (ml_X12_275 C.hA) (im_X12_ofWall C.hA) (sl_X12_ofWall C.hA) g1 (by decide) rfl hd_X12_ofWall ⟨rfl, rfl⟩ ⟨Nat.le_of_ble_eq_true rfl, Nat.le_of_ble_eq_true rfl⟩ ⟨Nat.le_of_ble_eq_true rfl, Nat.le_of_ble_eq_true rfl⟩ hl.1 rfl (Nat.le_of_ble_eq_true rfl) dX12_reach_37) hP (fun v_37 u_37 H locs h hP => ?_)
  refine lv_aload_n hx hb dX12_reach_40 rfl (lv_at hl 1 rfl) ?_
  refine lv_iload_n hx hb dX12_reach_41 rfl (lv_at hl 2 rfl) ?_
  refine lv_iload_n hx hb dX12_reach_42 rfl (lv_at hl 3 rfl) ?_
  refine lv_iconst (v := (3 : Int32)) hx hb dX12_reach_43 (by decide) ?_
  refine q_cali (q_runV C hP (c_X12_ofWall h) (cd_X12_ofWall C.hA) (ini_X12 C.hA) (ml_X12_275 C.hA) (im_X12_ofWall C.hA) (sl_X12_ofWall C.hA) g1 (by decide) rfl hd_X12_ofWall ⟨rfl, rfl⟩ ⟨Nat.le_of_ble_eq_true rfl, Nat.le_of_ble_eq_true rfl⟩ ⟨Nat.le_of_ble_eq_true rfl, Nat.le_of_ble_eq_true rfl⟩ hl.1 rfl (Nat.le_of_ble_eq_true rfl) dX12_reach_44) hP (fun v_44 u_44 H locs h hP => ?_)
  refine q_cali (q_runS C hP (c_X12_isIn h) (cd_X12_isIn C.hA) (ini_X12 C.hA) (ml_X12_150 C.hA) (st_X12_isIn C.hA) hd_X12_isIn ⟨rfl, rfl⟩ ⟨Nat.le_of_ble_eq_true rfl, Nat.le_of_ble_eq_true rfl⟩ ⟨Nat.le_of_ble_eq_true rfl, Nat.le_of_ble_eq_true rfl⟩ hl.1 rfl (Nat.le_of_ble_eq_true rfl) dX12_reach_47) hP (fun v_47 u_47 H locs h hP => ?_)
  refine lv_if_eq (tgt := 75) hx hb dX12_reach_50 (by decide) (fun c50 => ?_) (fun c50 => ?_)
  · have h := h.1 c50
    refine lv_iconst (v := (0 : Int32)) hx hb dX12_reach_75 (by decide) ?_
    exact q_iret C hr hlk hP h (by decide) (by decide) dX12_reach_76
  · have h := h.2 c50
    refine lv_aload_n hx hb dX12_reach_53 rfl (lv_at hl 1 rfl) ?_
    refine lv_iload_n hx hb dX12_reach_54 rfl (lv_at hl 2 rfl) ?_
    refine lv_iload_n hx hb dX12_reach_55 rfl (lv_at hl 3 rfl) ?_
    refine lv_iconst (v := (1 : Int32)) hx hb dX12_reach_56 (by decide) ?_
    refine q_cali (q_runV C hP (c_X12_ofWall h) (cd_X12_ofWall C.hA) (ini_X12 C.hA) (ml_X12_275 C.hA) (im_X12_ofWall C.hA) (sl_X12_ofWall C.hA) g1 (by decide) rfl hd_X12_ofWall ⟨rfl, rfl⟩ ⟨Nat.le_of_ble_eq_true rfl, Nat.le_of_ble_eq_true rfl⟩ ⟨Nat.le_of_ble_eq_true rfl, Nat.le_of_ble_eq_true rfl⟩ hl.1 rfl (Nat.le_of_ble_eq_true rfl) dX12_reach_57) hP (fun v_57 u_57 H locs h hP => ?_)
    refine lv_iload hx hb dX12_reach_60 (lv_at hl 6 rfl) ?_
    refine lv_if_eq (tgt := 70) hx hb dX12_reach_62 (by decide) (fun c62 => ?_) (fun c62 => ?_)
    · have h := h.1 c62
      refine lv_iload_n hx hb dX12_reach_70 rfl (lv_at hl 4 rfl) ?_
      exact b_X12_reach_71 C hr hlk h (lv_sub hl [] rfl) hP
    · have h := h.2 c62
      refine lv_iload hx hb dX12_reach_65 (lv_at hl 5 rfl) ?_
      refine lv_goto (tgt := 71) hx hb dX12_reach_67 (by decide) ?_
      exact b_X12_reach_71 C hr hlk h (lv_sub hl [] rfl) hP
set_option maxHeartbeats 4000000 in
set_option maxRecDepth 100000 in
theorem b_X12_reach_16 {G : Gx} {Q : Int32 → Mm → Prop} {p : Program} {l : Launch} {e : Env} {s : State} {m : MethodId} {args : Array Value} {below : List Frame} {meth : Method} {c : Code} (C : Cx G p s m c cX12_reach RX12 7) (hr : meth.sig.returnType = (some .int)) (hlk : meth.locks = false) {x0 : Nat} {x1 : Int32} {x2 : Int32} {x3 : Int32} {x4 : Int32} {t0 : Int32} {u : Mm} {H : Heap} {locs : List Loc} {ls : Array Slot} (h : V_X12_reach_16 G Q x0 x1 x2 x3 x4 t0 u) (hl : lv_has ls 7 [(0, .ref x0), (1, .int x1), (2, .int x2), (3, .int x3), (4, .int x4)]) (hP : Hp G u s H locs) : W p l e rm_X12_reach s m args below meth c H locs 0 0 (MQ below (Ei G Q) args s 0 0 (ag G)) (F0 m 16 ls [.int t0]) := by
  have hx := C.1
  have hb := C.2.1
  unfold V_X12_reach_16 at h
  refine lv_istore (lv' := [(5, .int t0), (0, .ref x0), (1, .int x1), (2, .int x2), (3, .int x3), (4, .int x4)]) hx hb dX12_reach_16 hl (by decide) rfl (fun ls hl => ?_)
  refine lv_iload hx hb dX12_reach_18 (lv_at hl 0 rfl) ?_
  refine lv_if_eq (tgt := 27) hx hb dX12_reach_20 (by decide) (fun c20 => ?_) (fun c20 => ?_)
  · have h := h.1 c20
    refine lv_iload hx hb dX12_reach_27 (lv_at hl 5 rfl) ?_
    exact b_X12_reach_29 C hr hlk h (lv_sub hl [1, 2, 3, 4, 5, 0] rfl) hP
  · have h := h.2 c20
    refine lv_iload_n hx hb dX12_reach_23 rfl (lv_at hl 4 rfl) ?_
    refine lv_goto (tgt := 29) hx hb dX12_reach_24 (by decide) ?_
    exact b_X12_reach_29 C hr hlk h (lv_sub hl [1, 2, 3, 4, 5, 0] rfl) hP
set_option maxHeartbeats 4000000 in
set_option maxRecDepth 100000 in
theorem c_X12_reach {l : Launch} {G : Gx} {p0 : Nat} {p1 : Int32} {p2 : Int32} {p3 : Int32} {p4 : Int32} {u : Mm} {Q : Int32 → Mm → Prop} (h : V_X12_reach G p0 p1 p2 p3 p4 u Q) : Met l yX12_reach [.code yX12_reach cX12_reach 7 (some .int)] rm_X12_reach (va_Pc [.ref p0, .int p1, .int p2, .int p3, .int p4] (Wd G u)) (Ei G Q) 0 0 (ag G) := by
  refine q_met (by decide) (Nat.le_of_ble_eq_true rfl) ?_
  intro p e s m below meth c ls C hr hlk hnm hl hP
  have hl : lv_has ls 7 [(0, .ref p0), (1, .int p1), (2, .int p2), (3, .int p3), (4, .int p4)] := hl
  generalize ([.ref p0, .int p1, .int p2, .int p3, .int p4] : List Value).toArray = args
  have hx := C.1
  have hb := C.2.1
  unfold V_X12_reach at h
  refine lv_aload_n hx hb dX12_reach_0 rfl (lv_at hl 0 rfl) ?_
  refine lv_iload_n hx hb dX12_reach_1 rfl (lv_at hl 1 rfl) ?_
  refine lv_iload_n hx hb dX12_reach_2 rfl (lv_at hl 2 rfl) ?_
  refine lv_iconst (v := (0 : Int32)) hx hb dX12_reach_3 (by decide) ?_
  obtain ⟨g1, h⟩ := h
  refine q_cali (q_runV C hP (c_X12_ofWall h) (cd_X12_ofWall C.hA) (ini_X12 C.hA) (ml_X12_275 C.hA) (im_X12_ofWall C.hA) (sl_X12_ofWall C.hA) g1 (by decide) rfl hd_X12_ofWall ⟨rfl, rfl⟩ ⟨Nat.le_of_ble_eq_true rfl, Nat.le_of_ble_eq_true rfl⟩ ⟨Nat.le_of_ble_eq_true rfl, Nat.le_of_ble_eq_true rfl⟩ hl.1 rfl (Nat.le_of_ble_eq_true rfl) dX12_reach_4) hP (fun v_4 u_4 H locs h hP => ?_)
  refine lv_iconst (v := (1 : Int32)) hx hb dX12_reach_7 (by decide) ?_
  refine lv_icmp_ne (tgt := 15) hx hb dX12_reach_8 (by decide) (fun c8 => ?_) (fun c8 => ?_)
  · have h := h.2 c8
    refine lv_iconst (v := (0 : Int32)) hx hb dX12_reach_15 (by decide) ?_
    exact b_X12_reach_16 C hr hlk h (lv_sub hl [0, 1, 2, 3, 4] rfl) hP
  · have h := h.1 c8
    refine lv_iconst (v := (1 : Int32)) hx hb dX12_reach_11 (by decide) ?_
    refine lv_goto (tgt := 16) hx hb dX12_reach_12 (by decide) ?_
    exact b_X12_reach_16 C hr hlk h (lv_sub hl [0, 1, 2, 3, 4] rfl) hP
-- X12_isOut
abbrev rm_X12_isOut : Room := { frames := 2, cells := 0, slots := 0, locals := 49 }
theorem hd_X12_isOut : yX12_isOut.cls ≠ "java/lang/invoke/MethodHandle" ∧ yX12_isOut.cls ≠ "java/lang/invoke/VarHandle" ∧ (parseMethodDescriptor yX12_isOut.desc).map (fun d => d.parameters.length) = some 5 := by decide +kernel
def V_X12_isOut_154 (G : Gx) (Q : Int32 → Mm → Prop) (k_34 : Nat → Int32 → Int32 → Int32 → Int32 → Int32 → Int32 → Int32 → Mm → Prop) (x0 : Nat) (x1 : Int32) (x2 : Int32) (x3 : Int32) (x4 : Int32) (x5 : Int32) (x6 : Int32) (x7 : Int32) (u : Mm) : Prop :=
  ∀ x7_154 : Int32, x7_154 = x7 + (1 : Int32) → k_34 x0 x1 x2 x3 x4 x5 x6 x7_154 u
def V_X12_isOut_120 (G : Gx) (Q : Int32 → Mm → Prop) (k_34 : Nat → Int32 → Int32 → Int32 → Int32 → Int32 → Int32 → Int32 → Mm → Prop) (x0 : Nat) (x1 : Int32) (x2 : Int32) (x3 : Int32) (x4 : Int32) (x5 : Int32) (x6 : Int32) (x7 : Int32) (x8 : Int32) (t0 : Int32) (t1 : Int32) (u : Mm) : Prop :=
  ((t0 = t1 → (((ab x8) < (ab x6) → Q (1 : Int32) u) ∧ (¬ (ab x8) < (ab x6) → ((x8 = x6 → ((x3 ≤ x7 → V_X12_isOut_154 G Q k_34 x0 x1 x2 x3 x4 x5 x6 x7 u) ∧ (¬ x3 ≤ x7 → Q (1 : Int32) u))) ∧ (¬ x8 = x6 → V_X12_isOut_154 G Q k_34 x0 x1 x2 x3 x4 x5 x6 x7 u))))) ∧ (¬ t0 = t1 → V_X12_isOut_154 G Q k_34 x0 x1 x2 x3 x4 x5 x6 x7 u))
def V_X12_isOut_110 (G : Gx) (Q : Int32 → Mm → Prop) (k_34 : Nat → Int32 → Int32 → Int32 → Int32 → Int32 → Int32 → Int32 → Mm → Prop) (x0 : Nat) (x1 : Int32) (x2 : Int32) (x3 : Int32) (x4 : Int32) (x5 : Int32) (x6 : Int32) (x7 : Int32) (x8 : Int32) (t0 : Int32) (u : Mm) : Prop :=
  ((x6 ≤ 0 → V_X12_isOut_120 G Q k_34 x0 x1 x2 x3 x4 x5 x6 x7 x8 t0 (0 : Int32) u) ∧ (¬ x6 ≤ 0 → V_X12_isOut_120 G Q k_34 x0 x1 x2 x3 x4 x5 x6 x7 x8 t0 (1 : Int32) u))
def V_X12_isOut_34_B (G : Gx) (Q : Int32 → Mm → Prop) (k_34 : Nat → Int32 → Int32 → Int32 → Int32 → Int32 → Int32 → Int32 → Mm → Prop) (x0 : Nat) (x1 : Int32) (x2 : Int32) (x3 : Int32) (x4 : Int32) (x5 : Int32) (x6 : Int32) (x7 : Int32) (u : Mm) : Prop :=
  kd G x0 = 12 ∧ (gR u x0 2) ≠ 0 ∧ kd G (gR u x0 2) = 13 ∧ vp_in x1 (ln G (gR u x0 2)) ∧ (((gI u (gR u x0 2) x1.toNatClampNeg) ≤ x7 → Q (0 : Int32) u) ∧ (¬ (gI u (gR u x0 2) x1.toNatClampNeg) ≤ x7 → V_X12_reach G x0 x1 x7 x4 x5 u (fun (v_53 : Int32) (u_53 : Mm) => ((x7 = x3 → V_X12_isOut_154 G Q k_34 x0 x1 x2 x3 x4 x5 x6 x7 u_53) ∧ (¬ x7 = x3 → ((((shr x2 ((8 : Int32) + x7)) &&& (1 : Int32)) = (1 : Int32) → V_X12_isOut_154 G Q k_34 x0 x1 x2 x3 x4 x5 x6 x7 u_53) ∧ (¬ ((shr x2 ((8 : Int32) + x7)) &&& (1 : Int32)) = (1 : Int32) → V_X12_ofWall G x0 x1 x7 (0 : Int32) u_53 (fun (v_82 : Int32) (u_82 : Mm) => V_X12_ofWall G x0 x1 x3 (0 : Int32) u_82 (fun (v_89 : Int32) (u_89 : Mm) => ((v_82 = v_89 → ((v_53 = 0 → V_X12_isOut_154 G Q k_34 x0 x1 x2 x3 x4 x5 x6 x7 u_89) ∧ (¬ v_53 = 0 → ((v_53 ≤ 0 → V_X12_isOut_110 G Q k_34 x0 x1 x2 x3 x4 x5 x6 x7 v_53 (0 : Int32) u_89) ∧ (¬ v_53 ≤ 0 → V_X12_isOut_110 G Q k_34 x0 x1 x2 x3 x4 x5 x6 x7 v_53 (1 : Int32) u_89))))) ∧ (¬ v_82 = v_89 → V_X12_isOut_154 G Q k_34 x0 x1 x2 x3 x4 x5 x6 x7 u_89)))))))))))
def V_X12_isOut_34 (G : Gx) (Q : Int32 → Mm → Prop) : Nat → (Nat → Int32 → Int32 → Int32 → Int32 → Int32 → Int32 → Int32 → Mm → Prop)
  | 0 => fun _ _ _ _ _ _ _ _ _ => False
  | n + 1 => fun x0 x1 x2 x3 x4 x5 x6 x7 u => V_X12_isOut_34_B G Q (V_X12_isOut_34 G Q n) x0 x1 x2 x3 x4 x5 x6 x7 u
def V_X12_isOut (G : Gx) (p0 : Nat) (p1 : Int32) (p2 : Int32) (p3 : Int32) (p4 : Int32) (p5 : Int32) (u : Mm) (Q : Int32 → Mm → Prop) : Prop :=
  kd G p0 = 12 ∧ V_X12_reach G p0 p1 p3 p4 p5 u (fun (v_7 : Int32) (u_7 : Mm) => ((v_7 = 0 → Q (1 : Int32) u_7) ∧ (¬ v_7 = 0 → ((((shr p2 ((8 : Int32) + p3)) &&& (1 : Int32)) = (1 : Int32) → Q (1 : Int32) u_7) ∧ (¬ ((shr p2 ((8 : Int32) + p3)) &&& (1 : Int32)) = (1 : Int32) → ∃ n : Nat, V_X12_isOut_34 G Q n p0 p1 p2 p3 p4 p5 v_7 (0 : Int32) u_7)))))
set_option maxHeartbeats 4000000 in
set_option maxRecDepth 100000 in
theorem b_X12_isOut_154 {G : Gx} {Q : Int32 → Mm → Prop} {p : Program} {l : Launch} {e : Env} {s : State} {m : MethodId} {args : Array Value} {below : List Frame} {meth : Method} {c : Code} (C : Cx G p s m c cX12_isOut RX12 9) (hr : meth.sig.returnType = (some .boolean)) (hlk : meth.locks = false) {k_34 : Nat → Int32 → Int32 → Int32 → Int32 → Int32 → Int32 → Int32 → Mm → Prop} (hk_34 : ∀ (x0 : Nat) (x1 : Int32) (x2 : Int32) (x3 : Int32) (x4 : Int32) (x5 : Int32) (x6 : Int32) (x7 : Int32) (u : Mm) (H : Heap) (locs : List Loc) (ls : Array Slot), k_34 x0 x1 x2 x3 x4 x5 x6 x7 u → lv_has ls 9 [(0, .ref x0), (1, .int x1), (2, .int x2), (3, .int x3), (4, .int x4), (5, .int x5), (6, .int x6), (7, .int x7)] → Hp G u s H locs → W p l e rm_X12_isOut s m args below meth c H locs 0 0 (MQ below (Ei G Q) args s 0 0 (ag G)) (F0 m 34 ls [])) {x0 : Nat} {x1 : Int32} {x2 : Int32} {x3 : Int32} {x4 : Int32} {x5 : Int32} {x6 : Int32} {x7 : Int32} {u : Mm} {H : Heap} {locs : List Loc} {ls : Array Slot} (h : V_X12_isOut_154 G Q k_34 x0 x1 x2 x3 x4 x5 x6 x7 u) (hl : lv_has ls 9 [(0, .ref x0), (1, .int x1), (2, .int x2), (3, .int x3), (4, .int x4), (5, .int x5), (6, .int x6), (7, .int x7)]) (hP : Hp G u s H locs) : W p l e rm_X12_isOut s m args below meth c H locs 0 0 (MQ below (Ei G Q) args s 0 0 (ag G)) (F0 m 154 ls []) := by
  have hx := C.1
  have hb := C.2.1
  unfold V_X12_isOut_154 at h
  obtain ⟨x7_154, ex7_154⟩ : ∃ y : Int32, y = x7 + (1 : Int32) := ⟨_, rfl⟩
  have h := h x7_154 ex7_154
  refine lv_iinc (v := x7_154) (lv' := [(7, .int x7_154), (0, .ref x0), (1, .int x1), (2, .int x2), (3, .int x3), (4, .int x4), (5, .int x5), (6, .int x6)]) hx hb dX12_isOut_154 hl (k := 7) rfl (by rw [ex7_154]; rfl) (by decide) rfl (fun ls hl => ?_)
  refine lv_goto (tgt := 34) hx hb dX12_isOut_157 (by decide) ?_
  exact hk_34 x0 x1 x2 x3 x4 x5 x6 x7_154 u _ _ _ h (lv_sub hl [1, 2, 3, 4, 5, 6, 7, 0] rfl) hP
set_option maxHeartbeats 4000000 in
set_option maxRecDepth 100000 in
theorem b_X12_isOut_120 {G : Gx} {Q : Int32 → Mm → Prop} {p : Program} {l : Launch} {e : Env} {s : State} {m : MethodId} {args : Array Value} {below : List Frame} {meth : Method} {c : Code} (C : Cx G p s m c cX12_isOut RX12 9) (hr : meth.sig.returnType = (some .boolean)) (hlk : meth.locks = false) {k_34 : Nat → Int32 → Int32 → Int32 → Int32 → Int32 → Int32 → Int32 → Mm → Prop} (hk_34 : ∀ (x0 : Nat) (x1 : Int32) (x2 : Int32) (x3 : Int32) (x4 : Int32) (x5 : Int32) (x6 : Int32) (x7 : Int32) (u : Mm) (H : Heap) (locs : List Loc) (ls : Array Slot), k_34 x0 x1 x2 x3 x4 x5 x6 x7 u → lv_has ls 9 [(0, .ref x0), (1, .int x1), (2, .int x2), (3, .int x3), (4, .int x4), (5, .int x5), (6, .int x6), (7, .int x7)] → Hp G u s H locs → W p l e rm_X12_isOut s m args below meth c H locs 0 0 (MQ below (Ei G Q) args s 0 0 (ag G)) (F0 m 34 ls [])) {x0 : Nat} {x1 : Int32} {x2 : Int32} {x3 : Int32} {x4 : Int32} {x5 : Int32} {x6 : Int32} {x7 : Int32} {x8 : Int32} {t0 : Int32} {t1 : Int32} {u : Mm} {H : Heap} {locs : List Loc} {ls : Array Slot} (h : V_X12_isOut_120 G Q k_34 x0 x1 x2 x3 x4 x5 x6 x7 x8 t0 t1 u) (hl : lv_has ls 9 [(0, .ref x0), (1, .int x1), (2, .int x2), (3, .int x3), (4, .int x4), (5, .int x5), (6, .int x6), (7, .int x7), (8, .int x8)]) (hP : Hp G u s H locs) : W p l e rm_X12_isOut s m args below meth c H locs 0 0 (MQ below (Ei G Q) args s 0 0 (ag G)) (F0 m 120 ls [.int t1, .int t0]) := by
  have hx := C.1
  have hb := C.2.1
  unfold V_X12_isOut_120 at h
  refine lv_icmp_eq (tgt := 126) hx hb dX12_isOut_120 (by decide) (fun c120 => ?_) (fun c120 => ?_)
  · have h := h.1 c120
    refine lv_iload hx hb dX12_isOut_126 (lv_at hl 8 rfl) ?_
    refine va_mabs hx hb (C.2.2.2.1.trans hl.1.symm) C.2.2.1 (ml_X12_278 C.hA) (st_J9_abs_0f7a4 C.hA) (ini_J9 C.hA) (cd_J9_abs_0f7a4 C.hA) (Nat.le_of_ble_eq_true rfl) (Nat.le_of_ble_eq_true rfl) (Nat.le_of_ble_eq_true rfl) (Nat.le_of_ble_eq_true rfl) dX12_isOut_128 ?_
    refine lv_iload hx hb dX12_isOut_131 (lv_at hl 6 rfl) ?_
    refine va_mabs hx hb (C.2.2.2.1.trans hl.1.symm) C.2.2.1 (ml_X12_278 C.hA) (st_J9_abs_0f7a4 C.hA) (ini_J9 C.hA) (cd_J9_abs_0f7a4 C.hA) (Nat.le_of_ble_eq_true rfl) (Nat.le_of_ble_eq_true rfl) (Nat.le_of_ble_eq_true rfl) (Nat.le_of_ble_eq_true rfl) dX12_isOut_133 ?_
    refine lv_icmp_lt (tgt := 152) hx hb dX12_isOut_136 (by decide) (fun c136 => ?_) (fun c136 => ?_)
    · have h := h.1 c136
      refine lv_iconst (v := (1 : Int32)) hx hb dX12_isOut_152 (by decide) ?_
      exact q_zret C hr hlk hP (by decide) h (by decide) (by decide) dX12_isOut_153
    · have h := h.2 c136
      refine lv_iload hx hb dX12_isOut_139 (lv_at hl 8 rfl) ?_
      refine lv_iload hx hb dX12_isOut_141 (lv_at hl 6 rfl) ?_
      refine lv_icmp_ne (tgt := 154) hx hb dX12_isOut_143 (by decide) (fun c143 => ?_) (fun c143 => ?_)
      · have h := h.2 c143
        exact b_X12_isOut_154 C hr hlk hk_34 h (lv_sub hl [0, 1, 2, 3, 4, 5, 6, 7] rfl) hP
      · have h := h.1 c143
        refine lv_iload hx hb dX12_isOut_146 (lv_at hl 7 rfl) ?_
        refine lv_iload_n hx hb dX12_isOut_148 rfl (lv_at hl 3 rfl) ?_
        refine lv_icmp_ge (tgt := 154) hx hb dX12_isOut_149 (by decide) (fun c149 => ?_) (fun c149 => ?_)
        · have h := h.1 c149
          exact b_X12_isOut_154 C hr hlk hk_34 h (lv_sub hl [0, 1, 2, 3, 4, 5, 6, 7] rfl) hP
        · have h := h.2 c149
          refine lv_iconst (v := (1 : Int32)) hx hb dX12_isOut_152 (by decide) ?_
          exact q_zret C hr hlk hP (by decide) h (by decide) (by decide) dX12_isOut_153
  · have h := h.2 c120
    refine lv_goto (tgt := 154) hx hb dX12_isOut_123 (by decide) ?_
    exact b_X12_isOut_154 C hr hlk hk_34 h (lv_sub hl [0, 1, 2, 3, 4, 5, 6, 7] rfl) hP
set_option maxHeartbeats 4000000 in
set_option maxRecDepth 100000 in
theorem b_X12_isOut_110 {G : Gx} {Q : Int32 → Mm → Prop} {p : Program} {l : Launch} {e : Env} {s : State} {m : MethodId} {args : Array Value} {below : List Frame} {meth : Method} {c : Code} (C : Cx G p s m c cX12_isOut RX12 9) (hr : meth.sig.returnType = (some .boolean)) (hlk : meth.locks = false) {k_34 : Nat → Int32 → Int32 → Int32 → Int32 → Int32 → Int32 → Int32 → Mm → Prop} (hk_34 : ∀ (x0 : Nat) (x1 : Int32) (x2 : Int32) (x3 : Int32) (x4 : Int32) (x5 : Int32) (x6 : Int32) (x7 : Int32) (u : Mm) (H : Heap) (locs : List Loc) (ls : Array Slot), k_34 x0 x1 x2 x3 x4 x5 x6 x7 u → lv_has ls 9 [(0, .ref x0), (1, .int x1), (2, .int x2), (3, .int x3), (4, .int x4), (5, .int x5), (6, .int x6), (7, .int x7)] → Hp G u s H locs → W p l e rm_X12_isOut s m args below meth c H locs 0 0 (MQ below (Ei G Q) args s 0 0 (ag G)) (F0 m 34 ls [])) {x0 : Nat} {x1 : Int32} {x2 : Int32} {x3 : Int32} {x4 : Int32} {x5 : Int32} {x6 : Int32} {x7 : Int32} {x8 : Int32} {t0 : Int32} {u : Mm} {H : Heap} {locs : List Loc} {ls : Array Slot} (h : V_X12_isOut_110 G Q k_34 x0 x1 x2 x3 x4 x5 x6 x7 x8 t0 u) (hl : lv_has ls 9 [(0, .ref x0), (1, .int x1), (2, .int x2), (3, .int x3), (4, .int x4), (5, .int x5), (6, .int x6), (7, .int x7), (8, .int x8)]) (hP : Hp G u s H locs) : W p l e rm_X12_isOut s m args below meth c H locs 0 0 (MQ below (Ei G Q) args s 0 0 (ag G)) (F0 m 110 ls [.int t0]) := by
  have hx := C.1
  have hb := C.2.1
  unfold V_X12_isOut_110 at h
  refine lv_iload hx hb dX12_isOut_110 (lv_at hl 6 rfl) ?_
  refine lv_if_le (tgt := 119) hx hb dX12_isOut_112 (by decide) (fun c112 => ?_) (fun c112 => ?_)
  · have h := h.1 c112
    refine lv_iconst (v := (0 : Int32)) hx hb dX12_isOut_119 (by decide) ?_
    exact b_X12_isOut_120 C hr hlk hk_34 h (lv_sub hl [0, 1, 2, 3, 4, 5, 6, 7, 8] rfl) hP
  · have h := h.2 c112
    refine lv_iconst (v := (1 : Int32)) hx hb dX12_isOut_115 (by decide) ?_
    refine lv_goto (tgt := 120) hx hb dX12_isOut_116 (by decide) ?_
    exact b_X12_isOut_120 C hr hlk hk_34 h (lv_sub hl [0, 1, 2, 3, 4, 5, 6, 7, 8] rfl) hP
set_option maxHeartbeats 4000000 in
set_option maxRecDepth 100000 in
theorem b_X12_isOut_34 {G : Gx} {Q : Int32 → Mm → Prop} {p : Program} {l : Launch} {e : Env} {s : State} {m : MethodId} {args : Array Value} {below : List Frame} {meth : Method} {c : Code} (C : Cx G p s m c cX12_isOut RX12 9) (hr : meth.sig.returnType = (some .boolean)) (hlk : meth.locks = false) {k_34 : Nat → Int32 → Int32 → Int32 → Int32 → Int32 → Int32 → Int32 → Mm → Prop} (hk_34 : ∀ (x0 : Nat) (x1 : Int32) (x2 : Int32) (x3 : Int32) (x4 : Int32) (x5 : Int32) (x6 : Int32) (x7 : Int32) (u : Mm) (H : Heap) (locs : List Loc) (ls : Array Slot), k_34 x0 x1 x2 x3 x4 x5 x6 x7 u → lv_has ls 9 [(0, .ref x0), (1, .int x1), (2, .int x2), (3, .int x3), (4, .int x4), (5, .int x5), (6, .int x6), (7, .int x7)] → Hp G u s H locs → W p l e rm_X12_isOut s m args below meth c H locs 0 0 (MQ below (Ei G Q) args s 0 0 (ag G)) (F0 m 34 ls [])) {x0 : Nat} {x1 : Int32} {x2 : Int32} {x3 : Int32} {x4 : Int32} {x5 : Int32} {x6 : Int32} {x7 : Int32} {u : Mm} {H : Heap} {locs : List Loc} {ls : Array Slot} (h : V_X12_isOut_34_B G Q k_34 x0 x1 x2 x3 x4 x5 x6 x7 u) (hl : lv_has ls 9 [(0, .ref x0), (1, .int x1), (2, .int x2), (3, .int x3), (4, .int x4), (5, .int x5), (6, .int x6), (7, .int x7)]) (hP : Hp G u s H locs) : W p l e rm_X12_isOut s m args below meth c H locs 0 0 (MQ below (Ei G Q) args s 0 0 (ag G)) (F0 m 34 ls []) := by
  have hx := C.1
  have hb := C.2.1
  unfold V_X12_isOut_34_B at h
  refine lv_iload hx hb dX12_isOut_34 (lv_at hl 7 rfl) ?_
  refine lv_aload_n hx hb dX12_isOut_36 rfl (lv_at hl 0 rfl) ?_
  obtain ⟨g1, h⟩ := h
  obtain ⟨g2, h⟩ := h
  refine q_getR C hP (k := 2) (lay_X12 C.hA) rfl (by decide) g1 g2 (fl_X12_27 C.hA) dX12_isOut_37 ?_
  refine lv_iload_n hx hb dX12_isOut_40 rfl (lv_at hl 1 rfl) ?_
  obtain ⟨g3, h⟩ := h
  obtain ⟨g4, h⟩ := h
  refine q_iald C hP g3 g4 dX12_isOut_41 ?_
  refine lv_icmp_ge (tgt := 160) hx hb dX12_isOut_42 (by decide) (fun c42 => ?_) (fun c42 => ?_)
  · have h := h.1 c42
    refine lv_iconst (v := (0 : Int32)) hx hb dX12_isOut_160 (by decide) ?_
    exact q_zret C hr hlk hP (by decide) h (by decide) (by decide) dX12_isOut_161
  · have h := h.2 c42
    refine lv_aload_n hx hb dX12_isOut_45 rfl (lv_at hl 0 rfl) ?_
    refine lv_iload_n hx hb dX12_isOut_46 rfl (lv_at hl 1 rfl) ?_
    refine lv_iload hx hb dX12_isOut_47 (lv_at hl 7 rfl) ?_
    refine lv_iload hx hb dX12_isOut_49 (lv_at hl 4 rfl) ?_
    refine lv_iload hx hb dX12_isOut_51 (lv_at hl 5 rfl) ?_
    refine q_cali (q_runV C hP (c_X12_reach h) (cd_X12_reach C.hA) (ini_X12 C.hA) (ml_X12_281 C.hA) (im_X12_reach C.hA) (sl_X12_reach C.hA) g1 (by decide) rfl hd_X12_reach ⟨rfl, rfl⟩ ⟨Nat.le_of_ble_eq_true rfl, Nat.le_of_ble_eq_true rfl⟩ ⟨Nat.le_of_ble_eq_true rfl, Nat.le_of_ble_eq_true rfl⟩ hl.1 rfl (Nat.le_of_ble_eq_true rfl) dX12_isOut_53) hP (fun v_53 u_53 H locs h hP => ?_)
    refine lv_istore (lv' := [(8, .int v_53), (0, .ref x0), (1, .int x1), (2, .int x2), (3, .int x3), (4, .int x4), (5, .int x5), (6, .int x6), (7, .int x7)]) hx hb dX12_isOut_56 hl (by decide) rfl (fun ls hl => ?_)
    refine lv_iload hx hb dX12_isOut_58 (lv_at hl 8 rfl) ?_
    refine lv_iload_n hx hb dX12_isOut_60 rfl (lv_at hl 4 rfl) ?_
    refine lv_icmp_eq (tgt := 154) hx hb dX12_isOut_61 (by decide) (fun c61 => ?_) (fun c61 => ?_)
    · have h := h.1 c61
      exact b_X12_isOut_154 C hr hlk hk_34 h (lv_sub hl [1, 2, 3, 4, 5, 6, 7, 8] rfl) hP
    · have h := h.2 c61
      refine lv_iload_n hx hb dX12_isOut_64 rfl (lv_at hl 3 rfl) ?_
      refine lv_bipush (v := (8 : Int32)) hx hb dX12_isOut_65 (by decide) ?_
      refine lv_iload hx hb dX12_isOut_67 (lv_at hl 8 rfl) ?_
      refine lv_iadd hx hb dX12_isOut_69 ?_
      refine lv_ishr hx hb dX12_isOut_70 ?_
      refine lv_iconst (v := (1 : Int32)) hx hb dX12_isOut_71 (by decide) ?_
      refine lv_iand hx hb dX12_isOut_72 ?_
      refine lv_iconst (v := (1 : Int32)) hx hb dX12_isOut_73 (by decide) ?_
      refine lv_icmp_eq (tgt := 154) hx hb dX12_isOut_74 (by decide) (fun c74 => ?_) (fun c74 => ?_)
      · have h := h.1 c74
        exact b_X12_isOut_154 C hr hlk hk_34 h (lv_sub hl [1, 2, 3, 4, 5, 6, 7, 8] rfl) hP
      · have h := h.2 c74
        refine lv_aload_n hx hb dX12_isOut_77 rfl (lv_at hl 1 rfl) ?_
        refine lv_iload_n hx hb dX12_isOut_78 rfl (lv_at hl 2 rfl) ?_
        refine lv_iload hx hb dX12_isOut_79 (lv_at hl 8 rfl) ?_
        refine lv_iconst (v := (0 : Int32)) hx hb dX12_isOut_81 (by decide) ?_
        refine q_cali (q_runV C hP (c_X12_ofWall h) (cd_X12_ofWall C.hA) (ini_X12 C.hA) (ml_X12_275 C.hA) (im_X12_ofWall C.hA) (sl_X12_ofWall C.hA) g1 (by decide) rfl hd_X12_ofWall ⟨rfl, rfl⟩ ⟨Nat.le_of_ble_eq_true rfl, Nat.le_of_ble_eq_true rfl⟩ ⟨Nat.le_of_ble_eq_true rfl, Nat.le_of_ble_eq_true rfl⟩ hl.1 rfl (Nat.le_of_ble_eq_true rfl) dX12_isOut_82) hP (fun v_82 u_82 H locs h hP => ?_)
        refine lv_aload_n hx hb dX12_isOut_85 rfl (lv_at hl 1 rfl) ?_
        refine lv_iload_n hx hb dX12_isOut_86 rfl (lv_at hl 2 rfl) ?_
        refine lv_iload_n hx hb dX12_isOut_87 rfl (lv_at hl 4 rfl) ?_
        refine lv_iconst (v := (0 : Int32)) hx hb dX12_isOut_88 (by decide) ?_
        refine q_cali (q_runV C hP (c_X12_ofWall h) (cd_X12_ofWall C.hA) (ini_X12 C.hA) (ml_X12_275 C.hA) (im_X12_ofWall C.hA) (sl_X12_ofWall C.hA) g1 (by decide) rfl hd_X12_ofWall ⟨rfl, rfl⟩ ⟨Nat.le_of_ble_eq_true rfl, Nat.le_of_ble_eq_true rfl⟩ ⟨Nat.le_of_ble_eq_true rfl, Nat.le_of_ble_eq_true rfl⟩ hl.1 rfl (Nat.le_of_ble_eq_true rfl) dX12_isOut_89) hP (fun v_89 u_89 H locs h hP => ?_)
        refine lv_icmp_ne (tgt := 154) hx hb dX12_isOut_92 (by decide) (fun c92 => ?_) (fun c92 => ?_)
        · have h := h.2 c92
          exact b_X12_isOut_154 C hr hlk hk_34 h (lv_sub hl [1, 2, 3, 4, 5, 6, 7, 8] rfl) hP
        · have h := h.1 c92
          refine lv_iload hx hb dX12_isOut_95 (lv_at hl 0 rfl) ?_
          refine lv_if_eq (tgt := 154) hx hb dX12_isOut_97 (by decide) (fun c97 => ?_) (fun c97 => ?_)
          · have h := h.1 c97
            exact b_X12_isOut_154 C hr hlk hk_34 h (lv_sub hl [1, 2, 3, 4, 5, 6, 7, 8] rfl) hP
          · have h := h.2 c97
            refine lv_iload hx hb dX12_isOut_100 (lv_at hl 0 rfl) ?_
            refine lv_if_le (tgt := 109) hx hb dX12_isOut_102 (by decide) (fun c102 => ?_) (fun c102 => ?_)
            · have h := h.1 c102
              refine lv_iconst (v := (0 : Int32)) hx hb dX12_isOut_109 (by decide) ?_
              exact b_X12_isOut_110 C hr hlk hk_34 h (lv_sub hl [1, 2, 3, 4, 5, 6, 7, 8, 0] rfl) hP
            · have h := h.2 c102
              refine lv_iconst (v := (1 : Int32)) hx hb dX12_isOut_105 (by decide) ?_
              refine lv_goto (tgt := 110) hx hb dX12_isOut_106 (by decide) ?_
              exact b_X12_isOut_110 C hr hlk hk_34 h (lv_sub hl [1, 2, 3, 4, 5, 6, 7, 8, 0] rfl) hP
theorem l_X12_isOut_34 {G : Gx} {Q : Int32 → Mm → Prop} {p : Program} {l : Launch} {e : Env} {s : State} {m : MethodId} {args : Array Value} {below : List Frame} {meth : Method} {c : Code} (C : Cx G p s m c cX12_isOut RX12 9) (hr : meth.sig.returnType = (some .boolean)) (hlk : meth.locks = false) : ∀ (n : Nat) (x0 : Nat) (x1 : Int32) (x2 : Int32) (x3 : Int32) (x4 : Int32) (x5 : Int32) (x6 : Int32) (x7 : Int32) (u : Mm) (H : Heap) (locs : List Loc) (ls : Array Slot), V_X12_isOut_34 G Q n x0 x1 x2 x3 x4 x5 x6 x7 u → lv_has ls 9 [(0, .ref x0), (1, .int x1), (2, .int x2), (3, .int x3), (4, .int x4), (5, .int x5), (6, .int x6), (7, .int x7)] → Hp G u s H locs → W p l e rm_X12_isOut s m args below meth c H locs 0 0 (MQ below (Ei G Q) args s 0 0 (ag G)) (F0 m 34 ls []) := by
  intro n
  induction n with
  | zero => intro x0 x1 x2 x3 x4 x5 x6 x7 u H locs ls h; exact h.elim
  | succ n ih => intro x0 x1 x2 x3 x4 x5 x6 x7 u H locs ls h hl hP; exact b_X12_isOut_34 C hr hlk ih h hl hP
set_option maxHeartbeats 4000000 in
set_option maxRecDepth 100000 in
theorem c_X12_isOut {l : Launch} {G : Gx} {p0 : Nat} {p1 : Int32} {p2 : Int32} {p3 : Int32} {p4 : Int32} {p5 : Int32} {u : Mm} {Q : Int32 → Mm → Prop} (h : V_X12_isOut G p0 p1 p2 p3 p4 p5 u Q) : Met l yX12_isOut [.code yX12_isOut cX12_isOut 9 (some .boolean)] rm_X12_isOut (va_Pc [.ref p0, .int p1, .int p2, .int p3, .int p4, .int p5] (Wd G u)) (Ei G Q) 0 0 (ag G) := by
  refine q_met (by decide) (Nat.le_of_ble_eq_true rfl) ?_
  intro p e s m below meth c ls C hr hlk hnm hl hP
  have hl : lv_has ls 9 [(0, .ref p0), (1, .int p1), (2, .int p2), (3, .int p3), (4, .int p4), (5, .int p5)] := hl
  generalize ([.ref p0, .int p1, .int p2, .int p3, .int p4, .int p5] : List Value).toArray = args
  have hx := C.1
  have hb := C.2.1
  unfold V_X12_isOut at h
  refine lv_aload_n hx hb dX12_isOut_0 rfl (lv_at hl 0 rfl) ?_
  refine lv_iload_n hx hb dX12_isOut_1 rfl (lv_at hl 1 rfl) ?_
  refine lv_iload_n hx hb dX12_isOut_2 rfl (lv_at hl 3 rfl) ?_
  refine lv_iload hx hb dX12_isOut_3 (lv_at hl 4 rfl) ?_
  refine lv_iload hx hb dX12_isOut_5 (lv_at hl 5 rfl) ?_
  obtain ⟨g1, h⟩ := h
  refine q_cali (q_runV C hP (c_X12_reach h) (cd_X12_reach C.hA) (ini_X12 C.hA) (ml_X12_281 C.hA) (im_X12_reach C.hA) (sl_X12_reach C.hA) g1 (by decide) rfl hd_X12_reach ⟨rfl, rfl⟩ ⟨Nat.le_of_ble_eq_true rfl, Nat.le_of_ble_eq_true rfl⟩ ⟨Nat.le_of_ble_eq_true rfl, Nat.le_of_ble_eq_true rfl⟩ hl.1 rfl (Nat.le_of_ble_eq_true rfl) dX12_isOut_7) hP (fun v_7 u_7 H locs h hP => ?_)
  refine lv_istore (lv' := [(6, .int v_7), (0, .ref p0), (1, .int p1), (2, .int p2), (3, .int p3), (4, .int p4), (5, .int p5)]) hx hb dX12_isOut_10 hl (by decide) rfl (fun ls hl => ?_)
  refine lv_iload hx hb dX12_isOut_12 (lv_at hl 0 rfl) ?_
  refine lv_if_eq (tgt := 29) hx hb dX12_isOut_14 (by decide) (fun c14 => ?_) (fun c14 => ?_)
  · have h := h.1 c14
    refine lv_iconst (v := (1 : Int32)) hx hb dX12_isOut_29 (by decide) ?_
    exact q_zret C hr hlk hP (by decide) h (by decide) (by decide) dX12_isOut_30
  · have h := h.2 c14
    refine lv_iload_n hx hb dX12_isOut_17 rfl (lv_at hl 3 rfl) ?_
    refine lv_bipush (v := (8 : Int32)) hx hb dX12_isOut_18 (by decide) ?_
    refine lv_iload_n hx hb dX12_isOut_20 rfl (lv_at hl 4 rfl) ?_
    refine lv_iadd hx hb dX12_isOut_21 ?_
    refine lv_ishr hx hb dX12_isOut_22 ?_
    refine lv_iconst (v := (1 : Int32)) hx hb dX12_isOut_23 (by decide) ?_
    refine lv_iand hx hb dX12_isOut_24 ?_
    refine lv_iconst (v := (1 : Int32)) hx hb dX12_isOut_25 (by decide) ?_
    refine lv_icmp_ne (tgt := 31) hx hb dX12_isOut_26 (by decide) (fun c26 => ?_) (fun c26 => ?_)
    · have h := h.2 c26
      refine lv_iconst (v := (0 : Int32)) hx hb dX12_isOut_31 (by decide) ?_
      refine lv_istore (lv' := [(7, .int (0 : Int32)), (6, .int v_7), (0, .ref p0), (1, .int p1), (2, .int p2), (3, .int p3), (4, .int p4), (5, .int p5)]) hx hb dX12_isOut_32 hl (by decide) rfl (fun ls hl => ?_)
      obtain ⟨n, h⟩ := h
      exact l_X12_isOut_34 C hr hlk n p0 p1 p2 p3 p4 p5 v_7 (0 : Int32) u_7 _ _ _ h (lv_sub hl [2, 3, 4, 5, 6, 7, 1, 0] rfl) hP
    · have h := h.1 c26
      refine lv_iconst (v := (1 : Int32)) hx hb dX12_isOut_29 (by decide) ?_
      exact q_zret C hr hlk hP (by decide) h (by decide) (by decide) dX12_isOut_30
-- X12_firstOf
abbrev rm_X12_firstOf : Room := { frames := 3, cells := 0, slots := 0, locals := 88 }
theorem hd_X12_firstOf : yX12_firstOf.cls ≠ "java/lang/invoke/MethodHandle" ∧ yX12_firstOf.cls ≠ "java/lang/invoke/VarHandle" ∧ (parseMethodDescriptor yX12_firstOf.desc).map (fun d => d.parameters.length) = some 5 := by decide +kernel
def V_X12_firstOf_105 (G : Gx) (Q : Mm → Prop) (t0 : Nat) (t1 : Int32) (t2 : Nat) (t3 : Int32) (t4 : Int32) (t5 : Int32) (t6 : Int32) (t7 : Int32) (t8 : Int32) (t9 : Int32) (t10 : Int32) (u : Mm) : Prop :=
  kd G t2 = 12 ∧ V_X12_throughWoods G t2 t3 t4 t5 t6 t7 t8 t9 t10 u (fun (v_105 : Int32) (u_105 : Mm) => kd G t0 = 13 ∧ vp_in t1 (ln G t0) ∧ ∀ u_108 : Mm, u_108 = sI u_105 t0 t1.toNatClampNeg v_105 → Q u_108)
def V_X12_firstOf_88 (G : Gx) (Q : Mm → Prop) (x0 : Nat) (x1 : Int32) (x2 : Int32) (x4 : Int32) (x7 : Int32) (t0 : Nat) (t1 : Int32) (t2 : Nat) (t3 : Int32) (t4 : Int32) (t5 : Int32) (t6 : Int32) (t7 : Int32) (t8 : Int32) (t9 : Int32) (u : Mm) : Prop :=
  ((x7 = 0 → V_X12_firstOf_105 G Q t0 t1 t2 t3 t4 t5 t6 t7 t8 t9 x4 u) ∧ (¬ x7 = 0 → kd G x0 = 12 ∧ V_X12_ofWall G x0 x1 x2 (1 : Int32) u (fun (v_97 : Int32) (u_97 : Mm) => V_X12_firstOf_105 G Q t0 t1 t2 t3 t4 t5 t6 t7 t8 t9 v_97 u_97)))
def V_X12_firstOf_27 (G : Gx) (Q : Mm → Prop) (x0 : Nat) (x1 : Int32) (x2 : Int32) (x3 : Int32) (x4 : Int32) (x5 : Int32) (x6 : Int32) (t0 : Int32) (u : Mm) : Prop :=
  kd G x0 = 12 ∧ (gR u x0 23) ≠ 0 ∧ kd G (gR u x0 23) = 13 ∧ vp_in x2 (ln G (gR u x0 23)) ∧ ∀ u_41 : Mm, u_41 = sI u (gR u x0 23) x2.toNatClampNeg (((4 : Int32) * x6) * x6) → (gR u_41 x0 22) ≠ 0 ∧ V_X12_ofWall G x0 x1 x2 (4 : Int32) u_41 (fun (v_60 : Int32) (u_60 : Mm) => ((t0 = 0 → V_X12_ofWall G x0 x1 x2 (1 : Int32) u_60 (fun (v_85 : Int32) (u_85 : Mm) => V_X12_firstOf_88 G Q x0 x1 x2 x4 t0 (gR u_41 x0 22) x2 x0 x1 x5 (((1000 : Int32) * ((100 : Int32) - v_60)) / (100 : Int32)) (2 : Int32) x3 x4 v_85 u_85)) ∧ (¬ t0 = 0 → V_X12_firstOf_88 G Q x0 x1 x2 x4 t0 (gR u_41 x0 22) x2 x0 x1 x5 (((1000 : Int32) * ((100 : Int32) - v_60)) / (100 : Int32)) (2 : Int32) x3 x4 x3 u_60)))
def V_X12_firstOf (G : Gx) (p0 : Nat) (p1 : Int32) (p2 : Int32) (p3 : Int32) (p4 : Int32) (p5 : Int32) (u : Mm) (Q : Mm → Prop) : Prop :=
  kd G p0 = 12 ∧ V_X12_reach G p0 p1 p2 p3 p4 u (fun (v_6 : Int32) (u_6 : Mm) => V_X12_ofWall G p0 p1 p2 (0 : Int32) u_6 (fun (v_15 : Int32) (u_15 : Mm) => ((v_15 = (1 : Int32) → V_X12_firstOf_27 G Q p0 p1 p2 p3 p4 p5 v_6 (1 : Int32) u_15) ∧ (¬ v_15 = (1 : Int32) → V_X12_firstOf_27 G Q p0 p1 p2 p3 p4 p5 v_6 (0 : Int32) u_15))))
set_option maxHeartbeats 4000000 in
set_option maxRecDepth 100000 in
theorem b_X12_firstOf_105 {G : Gx} {Q : Mm → Prop} {p : Program} {l : Launch} {e : Env} {s : State} {m : MethodId} {args : Array Value} {below : List Frame} {meth : Method} {c : Code} (C : Cx G p s m c cX12_firstOf RX12 8) (hr : meth.sig.returnType = none) (hlk : meth.locks = false) {t0 : Nat} {t1 : Int32} {t2 : Nat} {t3 : Int32} {t4 : Int32} {t5 : Int32} {t6 : Int32} {t7 : Int32} {t8 : Int32} {t9 : Int32} {t10 : Int32} {u : Mm} {H : Heap} {locs : List Loc} {ls : Array Slot} (h : V_X12_firstOf_105 G Q t0 t1 t2 t3 t4 t5 t6 t7 t8 t9 t10 u) (hl : lv_has ls 8 []) (hP : Hp G u s H locs) : W p l e rm_X12_firstOf s m args below meth c H locs 0 0 (MQ below (Ev G Q) args s 0 0 (ag G)) (F0 m 105 ls [.int t10, .int t9, .int t8, .int t7, .int t6, .int t5, .int t4, .int t3, .ref t2, .int t1, .ref t0]) := by
  have hx := C.1
  have hb := C.2.1
  unfold V_X12_firstOf_105 at h
  obtain ⟨g1, h⟩ := h
  refine q_cali (q_runV C hP (c_X12_throughWoods h) (cd_X12_throughWoods C.hA) (ini_X12 C.hA) (ml_X12_285 C.hA) (im_X12_throughWoods C.hA) (sl_X12_throughWoods C.hA) g1 (by decide) rfl hd_X12_throughWoods ⟨rfl, rfl⟩ ⟨Nat.le_of_ble_eq_true rfl, Nat.le_of_ble_eq_true rfl⟩ ⟨Nat.le_of_ble_eq_true rfl, Nat.le_of_ble_eq_true rfl⟩ hl.1 rfl (Nat.le_of_ble_eq_true rfl) dX12_firstOf_105) hP (fun v_105 u_105 H locs h hP => ?_)
  obtain ⟨g2, h⟩ := h
  obtain ⟨g3, h⟩ := h
  refine q_iast C hP g2 g3 dX12_firstOf_108 (fun H locs hP => ?_)
  obtain ⟨u_108, eu_108, hP⟩ := Hp.nm hP
  have h := h u_108 eu_108
  exact q_vret C hr hlk hP h (by decide) (by decide) dX12_firstOf_109
set_option maxHeartbeats 4000000 in
set_option maxRecDepth 100000 in
theorem b_X12_firstOf_88 {G : Gx} {Q : Mm → Prop} {p : Program} {l : Launch} {e : Env} {s : State} {m : MethodId} {args : Array Value} {below : List Frame} {meth : Method} {c : Code} (C : Cx G p s m c cX12_firstOf RX12 8) (hr : meth.sig.returnType = none) (hlk : meth.locks = false) {x0 : Nat} {x1 : Int32} {x2 : Int32} {x4 : Int32} {x7 : Int32} {t0 : Nat} {t1 : Int32} {t2 : Nat} {t3 : Int32} {t4 : Int32} {t5 : Int32} {t6 : Int32} {t7 : Int32} {t8 : Int32} {t9 : Int32} {u : Mm} {H : Heap} {locs : List Loc} {ls : Array Slot} (h : V_X12_firstOf_88 G Q x0 x1 x2 x4 x7 t0 t1 t2 t3 t4 t5 t6 t7 t8 t9 u) (hl : lv_has ls 8 [(0, .ref x0), (1, .int x1), (2, .int x2), (4, .int x4), (7, .int x7)]) (hP : Hp G u s H locs) : W p l e rm_X12_firstOf s m args below meth c H locs 0 0 (MQ below (Ev G Q) args s 0 0 (ag G)) (F0 m 88 ls [.int t9, .int t8, .int t7, .int t6, .int t5, .int t4, .int t3, .ref t2, .int t1, .ref t0]) := by
  have hx := C.1
  have hb := C.2.1
  unfold V_X12_firstOf_88 at h
  refine lv_iload hx hb dX12_firstOf_88 (lv_at hl 4 rfl) ?_
  refine lv_if_eq (tgt := 103) hx hb dX12_firstOf_90 (by decide) (fun c90 => ?_) (fun c90 => ?_)
  · have h := h.1 c90
    refine lv_iload hx hb dX12_firstOf_103 (lv_at hl 3 rfl) ?_
    exact b_X12_firstOf_105 C hr hlk h (lv_sub hl [] rfl) hP
  · have h := h.2 c90
    refine lv_aload_n hx hb dX12_firstOf_93 rfl (lv_at hl 0 rfl) ?_
    refine lv_iload_n hx hb dX12_firstOf_94 rfl (lv_at hl 1 rfl) ?_
    refine lv_iload_n hx hb dX12_firstOf_95 rfl (lv_at hl 2 rfl) ?_
    refine lv_iconst (v := (1 : Int32)) hx hb dX12_firstOf_96 (by decide) ?_
    obtain ⟨g1, h⟩ := h
    refine q_cali (q_runVw C hP (c_X12_ofWall h) (cd_X12_ofWall C.hA) (ini_X12 C.hA) (ml_X12_275 C.hA) (im_X12_ofWall C.hA) (sl_X12_ofWall C.hA) g1 (by decide) rfl hd_X12_ofWall ⟨rfl, rfl⟩ ⟨Nat.le_of_ble_eq_true rfl, Nat.le_of_ble_eq_true rfl⟩ ⟨Nat.le_of_ble_eq_true rfl, Nat.le_of_ble_eq_true rfl⟩ hl.1 rfl (Nat.le_of_ble_eq_true rfl) dX12_firstOf_97) hP (fun v_97 u_97 H locs h hP => ?_)
    refine lv_goto (tgt := 105) hx hb dX12_firstOf_100 (by decide) ?_
    exact b_X12_firstOf_105 C hr hlk h (lv_sub hl [] rfl) hP
set_option maxHeartbeats 4000000 in
set_option maxRecDepth 100000 in
theorem b_X12_firstOf_27 {G : Gx} {Q : Mm → Prop} {p : Program} {l : Launch} {e : Env} {s : State} {m : MethodId} {args : Array Value} {below : List Frame} {meth : Method} {c : Code} (C : Cx G p s m c cX12_firstOf RX12 8) (hr : meth.sig.returnType = none) (hlk : meth.locks = false) {x0 : Nat} {x1 : Int32} {x2 : Int32} {x3 : Int32} {x4 : Int32} {x5 : Int32} {x6 : Int32} {t0 : Int32} {u : Mm} {H : Heap} {locs : List Loc} {ls : Array Slot} (h : V_X12_firstOf_27 G Q x0 x1 x2 x3 x4 x5 x6 t0 u) (hl : lv_has ls 8 [(0, .ref x0), (1, .int x1), (2, .int x2), (3, .int x3), (4, .int x4), (5, .int x5), (6, .int x6)]) (hP : Hp G u s H locs) : W p l e rm_X12_firstOf s m args below meth c H locs 0 0 (MQ below (Ev G Q) args s 0 0 (ag G)) (F0 m 27 ls [.int t0]) := by
  have hx := C.1
  have hb := C.2.1
  unfold V_X12_firstOf_27 at h
  refine lv_istore (lv' := [(7, .int t0), (0, .ref x0), (1, .int x1), (2, .int x2), (3, .int x3), (4, .int x4), (5, .int x5), (6, .int x6)]) hx hb dX12_firstOf_27 hl (by decide) rfl (fun ls hl => ?_)
  refine lv_aload_n hx hb dX12_firstOf_29 rfl (lv_at hl 1 rfl) ?_
  obtain ⟨g1, h⟩ := h
  obtain ⟨g2, h⟩ := h
  refine q_getR C hP (k := 23) (lay_X12 C.hA) rfl (by decide) g1 g2 (fl_X12_61 C.hA) dX12_firstOf_30 ?_
  refine lv_iload_n hx hb dX12_firstOf_33 rfl (lv_at hl 3 rfl) ?_
  refine lv_iconst (v := (4 : Int32)) hx hb dX12_firstOf_34 (by decide) ?_
  refine lv_iload hx hb dX12_firstOf_35 (lv_at hl 7 rfl) ?_
  refine lv_imul hx hb dX12_firstOf_37 ?_
  refine lv_iload hx hb dX12_firstOf_38 (lv_at hl 7 rfl) ?_
  refine lv_imul hx hb dX12_firstOf_40 ?_
  obtain ⟨g3, h⟩ := h
  obtain ⟨g4, h⟩ := h
  refine q_iast C hP g3 g4 dX12_firstOf_41 (fun H locs hP => ?_)
  obtain ⟨u_41, eu_41, hP⟩ := Hp.nm hP
  have h := h u_41 eu_41
  refine lv_aload_n hx hb dX12_firstOf_42 rfl (lv_at hl 1 rfl) ?_
  obtain ⟨g5, h⟩ := h
  refine q_getR C hP (k := 22) (lay_X12 C.hA) rfl (by decide) g1 g5 (fl_X12_58 C.hA) dX12_firstOf_43 ?_
  refine lv_iload_n hx hb dX12_firstOf_46 rfl (lv_at hl 3 rfl) ?_
  refine lv_aload_n hx hb dX12_firstOf_47 rfl (lv_at hl 1 rfl) ?_
  refine lv_iload_n hx hb dX12_firstOf_48 rfl (lv_at hl 2 rfl) ?_
  refine lv_iload hx hb dX12_firstOf_49 (lv_at hl 6 rfl) ?_
  refine lv_sipush (v := (1000 : Int32)) hx hb dX12_firstOf_51 (by decide) ?_
  refine lv_bipush (v := (100 : Int32)) hx hb dX12_firstOf_54 (by decide) ?_
  refine lv_aload_n hx hb dX12_firstOf_56 rfl (lv_at hl 1 rfl) ?_
  refine lv_iload_n hx hb dX12_firstOf_57 rfl (lv_at hl 2 rfl) ?_
  refine lv_iload_n hx hb dX12_firstOf_58 rfl (lv_at hl 3 rfl) ?_
  refine lv_iconst (v := (4 : Int32)) hx hb dX12_firstOf_59 (by decide) ?_
  refine q_cali (q_runV C hP (c_X12_ofWall h) (cd_X12_ofWall C.hA) (ini_X12 C.hA) (ml_X12_275 C.hA) (im_X12_ofWall C.hA) (sl_X12_ofWall C.hA) g1 (by decide) rfl hd_X12_ofWall ⟨rfl, rfl⟩ ⟨Nat.le_of_ble_eq_true rfl, Nat.le_of_ble_eq_true rfl⟩ ⟨Nat.le_of_ble_eq_true rfl, Nat.le_of_ble_eq_true rfl⟩ hl.1 rfl (Nat.le_of_ble_eq_true rfl) dX12_firstOf_60) hP (fun v_60 u_60 H locs h hP => ?_)
  refine lv_isub hx hb dX12_firstOf_63 ?_
  refine lv_imul hx hb dX12_firstOf_64 ?_
  refine lv_bipush (v := (100 : Int32)) hx hb dX12_firstOf_65 (by decide) ?_
  refine lv_idiv hx hb dX12_firstOf_67 (by decide) ?_
  refine lv_iconst (v := (2 : Int32)) hx hb dX12_firstOf_68 (by decide) ?_
  refine lv_iload_n hx hb dX12_firstOf_69 rfl (lv_at hl 4 rfl) ?_
  refine lv_iload hx hb dX12_firstOf_70 (lv_at hl 5 rfl) ?_
  refine lv_iload hx hb dX12_firstOf_72 (lv_at hl 0 rfl) ?_
  refine lv_if_eq (tgt := 81) hx hb dX12_firstOf_74 (by decide) (fun c74 => ?_) (fun c74 => ?_)
  · have h := h.1 c74
    refine lv_aload_n hx hb dX12_firstOf_81 rfl (lv_at hl 1 rfl) ?_
    refine lv_iload_n hx hb dX12_firstOf_82 rfl (lv_at hl 2 rfl) ?_
    refine lv_iload_n hx hb dX12_firstOf_83 rfl (lv_at hl 3 rfl) ?_
    refine lv_iconst (v := (1 : Int32)) hx hb dX12_firstOf_84 (by decide) ?_
    refine q_cali (q_runVw C hP (c_X12_ofWall h) (cd_X12_ofWall C.hA) (ini_X12 C.hA) (ml_X12_275 C.hA) (im_X12_ofWall C.hA) (sl_X12_ofWall C.hA) g1 (by decide) rfl hd_X12_ofWall ⟨rfl, rfl⟩ ⟨Nat.le_of_ble_eq_true rfl, Nat.le_of_ble_eq_true rfl⟩ ⟨Nat.le_of_ble_eq_true rfl, Nat.le_of_ble_eq_true rfl⟩ hl.1 rfl (Nat.le_of_ble_eq_true rfl) dX12_firstOf_85) hP (fun v_85 u_85 H locs h hP => ?_)
    exact b_X12_firstOf_88 C hr hlk h (lv_sub hl [1, 2, 3, 5, 0] rfl) hP
  · have h := h.2 c74
    refine lv_iload_n hx hb dX12_firstOf_77 rfl (lv_at hl 4 rfl) ?_
    refine lv_goto (tgt := 88) hx hb dX12_firstOf_78 (by decide) ?_
    exact b_X12_firstOf_88 C hr hlk h (lv_sub hl [1, 2, 3, 5, 0] rfl) hP
set_option maxHeartbeats 4000000 in
set_option maxRecDepth 100000 in
theorem c_X12_firstOf {l : Launch} {G : Gx} {p0 : Nat} {p1 : Int32} {p2 : Int32} {p3 : Int32} {p4 : Int32} {p5 : Int32} {u : Mm} {Q : Mm → Prop} (h : V_X12_firstOf G p0 p1 p2 p3 p4 p5 u Q) : Met l yX12_firstOf [.code yX12_firstOf cX12_firstOf 8 none] rm_X12_firstOf (va_Pc [.ref p0, .int p1, .int p2, .int p3, .int p4, .int p5] (Wd G u)) (Ev G Q) 0 0 (ag G) := by
  refine q_met (by decide) (Nat.le_of_ble_eq_true rfl) ?_
  intro p e s m below meth c ls C hr hlk hnm hl hP
  have hl : lv_has ls 8 [(0, .ref p0), (1, .int p1), (2, .int p2), (3, .int p3), (4, .int p4), (5, .int p5)] := hl
  generalize ([.ref p0, .int p1, .int p2, .int p3, .int p4, .int p5] : List Value).toArray = args
  have hx := C.1
  have hb := C.2.1
  unfold V_X12_firstOf at h
  refine lv_aload_n hx hb dX12_firstOf_0 rfl (lv_at hl 0 rfl) ?_
  refine lv_iload_n hx hb dX12_firstOf_1 rfl (lv_at hl 1 rfl) ?_
  refine lv_iload_n hx hb dX12_firstOf_2 rfl (lv_at hl 2 rfl) ?_
  refine lv_iload_n hx hb dX12_firstOf_3 rfl (lv_at hl 3 rfl) ?_
  refine lv_iload hx hb dX12_firstOf_4 (lv_at hl 4 rfl) ?_
  obtain ⟨g1, h⟩ := h
  refine q_cali (q_runV C hP (c_X12_reach h) (cd_X12_reach C.hA) (ini_X12 C.hA) (ml_X12_281 C.hA) (im_X12_reach C.hA) (sl_X12_reach C.hA) g1 (by decide) rfl hd_X12_reach ⟨rfl, rfl⟩ ⟨Nat.le_of_ble_eq_true rfl, Nat.le_of_ble_eq_true rfl⟩ ⟨Nat.le_of_ble_eq_true rfl, Nat.le_of_ble_eq_true rfl⟩ hl.1 rfl (Nat.le_of_ble_eq_true rfl) dX12_firstOf_6) hP (fun v_6 u_6 H locs h hP => ?_)
  refine lv_istore (lv' := [(6, .int v_6), (0, .ref p0), (1, .int p1), (2, .int p2), (3, .int p3), (4, .int p4), (5, .int p5)]) hx hb dX12_firstOf_9 hl (by decide) rfl (fun ls hl => ?_)
  refine lv_aload_n hx hb dX12_firstOf_11 rfl (lv_at hl 1 rfl) ?_
  refine lv_iload_n hx hb dX12_firstOf_12 rfl (lv_at hl 2 rfl) ?_
  refine lv_iload_n hx hb dX12_firstOf_13 rfl (lv_at hl 3 rfl) ?_
  refine lv_iconst (v := (0 : Int32)) hx hb dX12_firstOf_14 (by decide) ?_
  refine q_cali (q_runV C hP (c_X12_ofWall h) (cd_X12_ofWall C.hA) (ini_X12 C.hA) (ml_X12_275 C.hA) (im_X12_ofWall C.hA) (sl_X12_ofWall C.hA) g1 (by decide) rfl hd_X12_ofWall ⟨rfl, rfl⟩ ⟨Nat.le_of_ble_eq_true rfl, Nat.le_of_ble_eq_true rfl⟩ ⟨Nat.le_of_ble_eq_true rfl, Nat.le_of_ble_eq_true rfl⟩ hl.1 rfl (Nat.le_of_ble_eq_true rfl) dX12_firstOf_15) hP (fun v_15 u_15 H locs h hP => ?_)
  refine lv_iconst (v := (1 : Int32)) hx hb dX12_firstOf_18 (by decide) ?_
  refine lv_icmp_ne (tgt := 26) hx hb dX12_firstOf_19 (by decide) (fun c19 => ?_) (fun c19 => ?_)
  · have h := h.2 c19
    refine lv_iconst (v := (0 : Int32)) hx hb dX12_firstOf_26 (by decide) ?_
    exact b_X12_firstOf_27 C hr hlk h (lv_sub hl [1, 2, 3, 4, 5, 6, 0] rfl) hP
  · have h := h.1 c19
    refine lv_iconst (v := (1 : Int32)) hx hb dX12_firstOf_22 (by decide) ?_
    refine lv_goto (tgt := 27) hx hb dX12_firstOf_23 (by decide) ?_
    exact b_X12_firstOf_27 C hr hlk h (lv_sub hl [1, 2, 3, 4, 5, 6, 0] rfl) hP
-- X12_barnOf
abbrev rm_X12_barnOf : Room := { frames := 3, cells := 0, slots := 0, locals := 88 }
theorem hd_X12_barnOf : yX12_barnOf.cls ≠ "java/lang/invoke/MethodHandle" ∧ yX12_barnOf.cls ≠ "java/lang/invoke/VarHandle" ∧ (parseMethodDescriptor yX12_barnOf.desc).map (fun d => d.parameters.length) = some 7 := by decide +kernel
def V_X12_barnOf_67 (G : Gx) (Q : Mm → Prop) (x0 : Nat) (x1 : Int32) (x2 : Int32) (x3 : Int32) (x4 : Int32) (x5 : Int32) (x7 : Int32) (x8 : Int32) (x9 : Int32) (t0 : Int32) (u : Mm) : Prop :=
  ((t0 = 0 → Q u) ∧ (¬ t0 = 0 → kd G x0 = 12 ∧ V_X12_isHidden G x0 x1 x2 x4 x5 x8 x9 u (fun (v_85 : Int32) (u_85 : Mm) => ((v_85 = 0 → (gR u_85 x0 23) ≠ 0 ∧ kd G (gR u_85 x0 23) = 13 ∧ vp_in ((8 : Int32) + x3) (ln G (gR u_85 x0 23)) ∧ ∀ u_125 : Mm, u_125 = sI u_85 (gR u_85 x0 23) ((8 : Int32) + x3).toNatClampNeg ((4 : Int32) * (((x8 - x4) * (x8 - x4)) + ((x9 - x5) * (x9 - x5)))) → (gR u_125 x0 22) ≠ 0 ∧ V_X12_ofBarn G x0 x1 x3 (2 : Int32) u_125 (fun (v_147 : Int32) (u_147 : Mm) => V_X12_throughWoods G x0 x1 x7 (((1000 : Int32) * ((100 : Int32) - v_147)) / (100 : Int32)) (2 : Int32) x4 x5 x8 x9 u_147 (fun (v_164 : Int32) (u_164 : Mm) => kd G (gR u_125 x0 22) = 13 ∧ vp_in ((8 : Int32) + x3) (ln G (gR u_125 x0 22)) ∧ ∀ u_167 : Mm, u_167 = sI u_164 (gR u_125 x0 22) ((8 : Int32) + x3).toNatClampNeg v_164 → Q u_167))) ∧ (¬ v_85 = 0 → Q u_85)))))
def V_X12_barnOf_66 (G : Gx) (Q : Mm → Prop) (x0 : Nat) (x1 : Int32) (x2 : Int32) (x3 : Int32) (x4 : Int32) (x5 : Int32) (x7 : Int32) (x8 : Int32) (x9 : Int32) (u : Mm) : Prop :=
  V_X12_barnOf_67 G Q x0 x1 x2 x3 x4 x5 x7 x8 x9 (0 : Int32) u
def V_X12_barnOf_62 (G : Gx) (Q : Mm → Prop) (x0 : Nat) (x1 : Int32) (x2 : Int32) (x3 : Int32) (x4 : Int32) (x5 : Int32) (x7 : Int32) (x8 : Int32) (x9 : Int32) (u : Mm) : Prop :=
  V_X12_barnOf_67 G Q x0 x1 x2 x3 x4 x5 x7 x8 x9 (1 : Int32) u
def V_X12_barnOf (G : Gx) (p0 : Nat) (p1 : Int32) (p2 : Int32) (p3 : Int32) (p4 : Int32) (p5 : Int32) (p6 : Int32) (p7 : Int32) (u : Mm) (Q : Mm → Prop) : Prop :=
  kd G p0 = 12 ∧ V_X12_ofBarn G p0 p1 p3 (0 : Int32) u (fun (v_4 : Int32) (u_4 : Mm) => V_X12_ofBarn G p0 p1 p3 (1 : Int32) u_4 (fun (v_13 : Int32) (u_13 : Mm) => ((((shr p2 p3) &&& (1 : Int32)) = 0 → V_X12_ofBarn G p0 p1 p3 (3 : Int32) u_13 (fun (v_32 : Int32) (u_32 : Mm) => V_X12_ofBarn G p0 p1 p3 (4 : Int32) u_32 (fun (v_39 : Int32) (u_39 : Mm) => V_X12_isIn G p6 v_32 v_39 u_39 (fun (v_42 : Int32) (u_42 : Mm) => ((v_42 = 0 → V_X12_barnOf_66 G Q p0 p1 p2 p3 p4 p5 p7 v_4 v_13 u_42) ∧ (¬ v_42 = 0 → ((v_4 = p4 → ((v_13 = p5 → V_X12_barnOf_66 G Q p0 p1 p2 p3 p4 p5 p7 v_4 v_13 u_42) ∧ (¬ v_13 = p5 → V_X12_barnOf_62 G Q p0 p1 p2 p3 p4 p5 p7 v_4 v_13 u_42))) ∧ (¬ v_4 = p4 → V_X12_barnOf_62 G Q p0 p1 p2 p3 p4 p5 p7 v_4 v_13 u_42)))))))) ∧ (¬ ((shr p2 p3) &&& (1 : Int32)) = 0 → V_X12_barnOf_66 G Q p0 p1 p2 p3 p4 p5 p7 v_4 v_13 u_13))))
set_option maxHeartbeats 4000000 in
set_option maxRecDepth 100000 in
theorem b_X12_barnOf_67 {G : Gx} {Q : Mm → Prop} {p : Program} {l : Launch} {e : Env} {s : State} {m : MethodId} {args : Array Value} {below : List Frame} {meth : Method} {c : Code} (C : Cx G p s m c cX12_barnOf RX12 11) (hr : meth.sig.returnType = none) (hlk : meth.locks = false) {x0 : Nat} {x1 : Int32} {x2 : Int32} {x3 : Int32} {x4 : Int32} {x5 : Int32} {x7 : Int32} {x8 : Int32} {x9 : Int32} {t0 : Int32} {u : Mm} {H : Heap} {locs : List Loc} {ls : Array Slot} (h : V_X12_barnOf_67 G Q x0 x1 x2 x3 x4 x5 x7 x8 x9 t0 u) (hl : lv_has ls 11 [(0, .ref x0), (1, .int x1), (2, .int x2), (3, .int x3), (4, .int x4), (5, .int x5), (7, .int x7), (8, .int x8), (9, .int x9)]) (hP : Hp G u s H locs) : W p l e rm_X12_barnOf s m args below meth c H locs 0 0 (MQ below (Ev G Q) args s 0 0 (ag G)) (F0 m 67 ls [.int t0]) := by
  have hx := C.1
  have hb := C.2.1
  unfold V_X12_barnOf_67 at h
  refine lv_istore (lv' := [(10, .int t0), (0, .ref x0), (1, .int x1), (2, .int x2), (3, .int x3), (4, .int x4), (5, .int x5), (7, .int x7), (8, .int x8), (9, .int x9)]) hx hb dX12_barnOf_67 hl (by decide) rfl (fun ls hl => ?_)
  refine lv_iload hx hb dX12_barnOf_69 (lv_at hl 0 rfl) ?_
  refine lv_if_eq (tgt := 91) hx hb dX12_barnOf_71 (by decide) (fun c71 => ?_) (fun c71 => ?_)
  · have h := h.1 c71
    exact q_vret C hr hlk hP h (by decide) (by decide) dX12_barnOf_91
  · have h := h.2 c71
    refine lv_aload_n hx hb dX12_barnOf_74 rfl (lv_at hl 1 rfl) ?_
    refine lv_iload_n hx hb dX12_barnOf_75 rfl (lv_at hl 2 rfl) ?_
    refine lv_iload_n hx hb dX12_barnOf_76 rfl (lv_at hl 3 rfl) ?_
    refine lv_iload hx hb dX12_barnOf_77 (lv_at hl 5 rfl) ?_
    refine lv_iload hx hb dX12_barnOf_79 (lv_at hl 6 rfl) ?_
    refine lv_iload hx hb dX12_barnOf_81 (lv_at hl 8 rfl) ?_
    refine lv_iload hx hb dX12_barnOf_83 (lv_at hl 9 rfl) ?_
    obtain ⟨g1, h⟩ := h
    refine q_cali (q_runV C hP (c_X12_isHidden h) (cd_X12_isHidden C.hA) (ini_X12 C.hA) (ml_X12_292 C.hA) (im_X12_isHidden C.hA) (sl_X12_isHidden C.hA) g1 (by decide) rfl hd_X12_isHidden ⟨rfl, rfl⟩ ⟨Nat.le_of_ble_eq_true rfl, Nat.le_of_ble_eq_true rfl⟩ ⟨Nat.le_of_ble_eq_true rfl, Nat.le_of_ble_eq_true rfl⟩ hl.1 rfl (Nat.le_of_ble_eq_true rfl) dX12_barnOf_85) hP (fun v_85 u_85 H locs h hP => ?_)
    refine lv_if_eq (tgt := 92) hx hb dX12_barnOf_88 (by decide) (fun c88 => ?_) (fun c88 => ?_)
    · have h := h.1 c88
      refine lv_aload_n hx hb dX12_barnOf_92 rfl (lv_at hl 1 rfl) ?_
      obtain ⟨g2, h⟩ := h
      refine q_getR C hP (k := 23) (lay_X12 C.hA) rfl (by decide) g1 g2 (fl_X12_61 C.hA) dX12_barnOf_93 ?_
      refine lv_bipush (v := (8 : Int32)) hx hb dX12_barnOf_96 (by decide) ?_
      refine lv_iload_n hx hb dX12_barnOf_98 rfl (lv_at hl 4 rfl) ?_
      refine lv_iadd hx hb dX12_barnOf_99 ?_
      refine lv_iconst (v := (4 : Int32)) hx hb dX12_barnOf_100 (by decide) ?_
      refine lv_iload hx hb dX12_barnOf_101 (lv_at hl 8 rfl) ?_
      refine lv_iload hx hb dX12_barnOf_103 (lv_at hl 5 rfl) ?_
      refine lv_isub hx hb dX12_barnOf_105 ?_
      refine lv_iload hx hb dX12_barnOf_106 (lv_at hl 8 rfl) ?_
      refine lv_iload hx hb dX12_barnOf_108 (lv_at hl 5 rfl) ?_
      refine lv_isub hx hb dX12_barnOf_110 ?_
      refine lv_imul hx hb dX12_barnOf_111 ?_
      refine lv_iload hx hb dX12_barnOf_112 (lv_at hl 9 rfl) ?_
      refine lv_iload hx hb dX12_barnOf_114 (lv_at hl 6 rfl) ?_
      refine lv_isub hx hb dX12_barnOf_116 ?_
      refine lv_iload hx hb dX12_barnOf_117 (lv_at hl 9 rfl) ?_
      refine lv_iload hx hb dX12_barnOf_119 (lv_at hl 6 rfl) ?_
      refine lv_isub hx hb dX12_barnOf_121 ?_
      refine lv_imul hx hb dX12_barnOf_122 ?_
      refine lv_iadd hx hb dX12_barnOf_123 ?_
      refine lv_imul hx hb dX12_barnOf_124 ?_
      obtain ⟨g3, h⟩ := h
      obtain ⟨g4, h⟩ := h
      refine q_iast C hP g3 g4 dX12_barnOf_125 (fun H locs hP => ?_)
      obtain ⟨u_125, eu_125, hP⟩ := Hp.nm hP
      have h := h u_125 eu_125
      refine lv_aload_n hx hb dX12_barnOf_126 rfl (lv_at hl 1 rfl) ?_
      obtain ⟨g5, h⟩ := h
      refine q_getR C hP (k := 22) (lay_X12 C.hA) rfl (by decide) g1 g5 (fl_X12_58 C.hA) dX12_barnOf_127 ?_
      refine lv_bipush (v := (8 : Int32)) hx hb dX12_barnOf_130 (by decide) ?_
      refine lv_iload_n hx hb dX12_barnOf_132 rfl (lv_at hl 4 rfl) ?_
      refine lv_iadd hx hb dX12_barnOf_133 ?_
      refine lv_aload_n hx hb dX12_barnOf_134 rfl (lv_at hl 1 rfl) ?_
      refine lv_iload_n hx hb dX12_barnOf_135 rfl (lv_at hl 2 rfl) ?_
      refine lv_iload hx hb dX12_barnOf_136 (lv_at hl 7 rfl) ?_
      refine lv_sipush (v := (1000 : Int32)) hx hb dX12_barnOf_138 (by decide) ?_
      refine lv_bipush (v := (100 : Int32)) hx hb dX12_barnOf_141 (by decide) ?_
      refine lv_aload_n hx hb dX12_barnOf_143 rfl (lv_at hl 1 rfl) ?_
      refine lv_iload_n hx hb dX12_barnOf_144 rfl (lv_at hl 2 rfl) ?_
      refine lv_iload_n hx hb dX12_barnOf_145 rfl (lv_at hl 4 rfl) ?_
      refine lv_iconst (v := (2 : Int32)) hx hb dX12_barnOf_146 (by decide) ?_
      refine q_cali (q_runV C hP (c_X12_ofBarn h) (cd_X12_ofBarn C.hA) (ini_X12 C.hA) (ml_X12_289 C.hA) (im_X12_ofBarn C.hA) (sl_X12_ofBarn C.hA) g1 (by decide) rfl hd_X12_ofBarn ⟨rfl, rfl⟩ ⟨Nat.le_of_ble_eq_true rfl, Nat.le_of_ble_eq_true rfl⟩ ⟨Nat.le_of_ble_eq_true rfl, Nat.le_of_ble_eq_true rfl⟩ hl.1 rfl (Nat.le_of_ble_eq_true rfl) dX12_barnOf_147) hP (fun v_147 u_147 H locs h hP => ?_)
      refine lv_isub hx hb dX12_barnOf_150 ?_
      refine lv_imul hx hb dX12_barnOf_151 ?_
      refine lv_bipush (v := (100 : Int32)) hx hb dX12_barnOf_152 (by decide) ?_
      refine lv_idiv hx hb dX12_barnOf_154 (by decide) ?_
      refine lv_iconst (v := (2 : Int32)) hx hb dX12_barnOf_155 (by decide) ?_
      refine lv_iload hx hb dX12_barnOf_156 (lv_at hl 5 rfl) ?_
      refine lv_iload hx hb dX12_barnOf_158 (lv_at hl 6 rfl) ?_
      refine lv_iload hx hb dX12_barnOf_160 (lv_at hl 8 rfl) ?_
      refine lv_iload hx hb dX12_barnOf_162 (lv_at hl 9 rfl) ?_
      refine q_cali (q_runV C hP (c_X12_throughWoods h) (cd_X12_throughWoods C.hA) (ini_X12 C.hA) (ml_X12_285 C.hA) (im_X12_throughWoods C.hA) (sl_X12_throughWoods C.hA) g1 (by decide) rfl hd_X12_throughWoods ⟨rfl, rfl⟩ ⟨Nat.le_of_ble_eq_true rfl, Nat.le_of_ble_eq_true rfl⟩ ⟨Nat.le_of_ble_eq_true rfl, Nat.le_of_ble_eq_true rfl⟩ hl.1 rfl (Nat.le_of_ble_eq_true rfl) dX12_barnOf_164) hP (fun v_164 u_164 H locs h hP => ?_)
      obtain ⟨g6, h⟩ := h
      obtain ⟨g7, h⟩ := h
      refine q_iast C hP g6 g7 dX12_barnOf_167 (fun H locs hP => ?_)
      obtain ⟨u_167, eu_167, hP⟩ := Hp.nm hP
      have h := h u_167 eu_167
      exact q_vret C hr hlk hP h (by decide) (by decide) dX12_barnOf_168
    · have h := h.2 c88
      exact q_vret C hr hlk hP h (by decide) (by decide) dX12_barnOf_91
set_option maxHeartbeats 4000000 in
set_option maxRecDepth 100000 in
theorem b_X12_barnOf_66 {G : Gx} {Q : Mm → Prop} {p : Program} {l : Launch} {e : Env} {s : State} {m : MethodId} {args : Array Value} {below : List Frame} {meth : Method} {c : Code} (C : Cx G p s m c cX12_barnOf RX12 11) (hr : meth.sig.returnType = none) (hlk : meth.locks = false) {x0 : Nat} {x1 : Int32} {x2 : Int32} {x3 : Int32} {x4 : Int32} {x5 : Int32} {x7 : Int32} {x8 : Int32} {x9 : Int32} {u : Mm} {H : Heap} {locs : List Loc} {ls : Array Slot} (h : V_X12_barnOf_66 G Q x0 x1 x2 x3 x4 x5 x7 x8 x9 u) (hl : lv_has ls 11 [(0, .ref x0), (1, .int x1), (2, .int x2), (3, .int x3), (4, .int x4), (5, .int x5), (7, .int x7), (8, .int x8), (9, .int x9)]) (hP : Hp G u s H locs) : W p l e rm_X12_barnOf s m args below meth c H locs 0 0 (MQ below (Ev G Q) args s 0 0 (ag G)) (F0 m 66 ls []) := by
  have hx := C.1
  have hb := C.2.1
  unfold V_X12_barnOf_66 at h
  refine lv_iconst (v := (0 : Int32)) hx hb dX12_barnOf_66 (by decide) ?_
  exact b_X12_barnOf_67 C hr hlk h (lv_sub hl [0, 1, 2, 3, 4, 5, 6, 7, 8] rfl) hP
set_option maxHeartbeats 4000000 in
set_option maxRecDepth 100000 in
theorem b_X12_barnOf_62 {G : Gx} {Q : Mm → Prop} {p : Program} {l : Launch} {e : Env} {s : State} {m : MethodId} {args : Array Value} {below : List Frame} {meth : Method} {c : Code} (C : Cx G p s m c cX12_barnOf RX12 11) (hr : meth.sig.returnType = none) (hlk : meth.locks = false) {x0 : Nat} {x1 : Int32} {x2 : Int32} {x3 : Int32} {x4 : Int32} {x5 : Int32} {x7 : Int32} {x8 : Int32} {x9 : Int32} {u : Mm} {H : Heap} {locs : List Loc} {ls : Array Slot} (h : V_X12_barnOf_62 G Q x0 x1 x2 x3 x4 x5 x7 x8 x9 u) (hl : lv_has ls 11 [(0, .ref x0), (1, .int x1), (2, .int x2), (3, .int x3), (4, .int x4), (5, .int x5), (7, .int x7), (8, .int x8), (9, .int x9)]) (hP : Hp G u s H locs) : W p l e rm_X12_barnOf s m args below meth c H locs 0 0 (MQ below (Ev G Q) args s 0 0 (ag G)) (F0 m 62 ls []) := by
  have hx := C.1
  have hb := C.2.1
  unfold V_X12_barnOf_62 at h
  refine lv_iconst (v := (1 : Int32)) hx hb dX12_barnOf_62 (by decide) ?_
  refine lv_goto (tgt := 67) hx hb dX12_barnOf_63 (by decide) ?_
  exact b_X12_barnOf_67 C hr hlk h (lv_sub hl [0, 1, 2, 3, 4, 5, 6, 7, 8] rfl) hP
set_option maxHeartbeats 4000000 in
set_option maxRecDepth 100000 in
theorem c_X12_barnOf {l : Launch} {G : Gx} {p0 : Nat} {p1 : Int32} {p2 : Int32} {p3 : Int32} {p4 : Int32} {p5 : Int32} {p6 : Int32} {p7 : Int32} {u : Mm} {Q : Mm → Prop} (h : V_X12_barnOf G p0 p1 p2 p3 p4 p5 p6 p7 u Q) : Met l yX12_barnOf [.code yX12_barnOf cX12_barnOf 11 none] rm_X12_barnOf (va_Pc [.ref p0, .int p1, .int p2, .int p3, .int p4, .int p5, .int p6, .int p7] (Wd G u)) (Ev G Q) 0 0 (ag G) := by
  refine q_met (by decide) (Nat.le_of_ble_eq_true rfl) ?_
  intro p e s m below meth c ls C hr hlk hnm hl hP
  have hl : lv_has ls 11 [(0, .ref p0), (1, .int p1), (2, .int p2), (3, .int p3), (4, .int p4), (5, .int p5), (6, .int p6), (7, .int p7)] := hl
  generalize ([.ref p0, .int p1, .int p2, .int p3, .int p4, .int p5, .int p6, .int p7] : List Value).toArray = args
  have hx := C.1
  have hb := C.2.1
  unfold V_X12_barnOf at h
  refine lv_aload_n hx hb dX12_barnOf_0 rfl (lv_at hl 0 rfl) ?_
  refine lv_iload_n hx hb dX12_barnOf_1 rfl (lv_at hl 1 rfl) ?_
  refine lv_iload_n hx hb dX12_barnOf_2 rfl (lv_at hl 3 rfl) ?_
  refine lv_iconst (v := (0 : Int32)) hx hb dX12_barnOf_3 (by decide) ?_
  obtain ⟨g1, h⟩ := h
  refine q_cali (q_runV C hP (c_X12_ofBarn h) (cd_X12_ofBarn C.hA) (ini_X12 C.hA) (ml_X12_289 C.hA) (im_X12_ofBarn C.hA) (sl_X12_ofBarn C.hA) g1 (by decide) rfl hd_X12_ofBarn ⟨rfl, rfl⟩ ⟨Nat.le_of_ble_eq_true rfl, Nat.le_of_ble_eq_true rfl⟩ ⟨Nat.le_of_ble_eq_true rfl, Nat.le_of_ble_eq_true rfl⟩ hl.1 rfl (Nat.le_of_ble_eq_true rfl) dX12_barnOf_4) hP (fun v_4 u_4 H locs h hP => ?_)
  refine lv_istore (lv' := [(8, .int v_4), (0, .ref p0), (1, .int p1), (2, .int p2), (3, .int p3), (4, .int p4), (5, .int p5), (6, .int p6), (7, .int p7)]) hx hb dX12_barnOf_7 hl (by decide) rfl (fun ls hl => ?_)
  refine lv_aload_n hx hb dX12_barnOf_9 rfl (lv_at hl 1 rfl) ?_
  refine lv_iload_n hx hb dX12_barnOf_10 rfl (lv_at hl 2 rfl) ?_
  refine lv_iload_n hx hb dX12_barnOf_11 rfl (lv_at hl 4 rfl) ?_
  refine lv_iconst (v := (1 : Int32)) hx hb dX12_barnOf_12 (by decide) ?_
  refine q_cali (q_runV C hP (c_X12_ofBarn h) (cd_X12_ofBarn C.hA) (ini_X12 C.hA) (ml_X12_289 C.hA) (im_X12_ofBarn C.hA) (sl_X12_ofBarn C.hA) g1 (by decide) rfl hd_X12_ofBarn ⟨rfl, rfl⟩ ⟨Nat.le_of_ble_eq_true rfl, Nat.le_of_ble_eq_true rfl⟩ ⟨Nat.le_of_ble_eq_true rfl, Nat.le_of_ble_eq_true rfl⟩ hl.1 rfl (Nat.le_of_ble_eq_true rfl) dX12_barnOf_13) hP (fun v_13 u_13 H locs h hP => ?_)
  refine lv_istore (lv' := [(9, .int v_13), (8, .int v_4), (0, .ref p0), (1, .int p1), (2, .int p2), (3, .int p3), (4, .int p4), (5, .int p5), (6, .int p6), (7, .int p7)]) hx hb dX12_barnOf_16 hl (by decide) rfl (fun ls hl => ?_)
  refine lv_iload_n hx hb dX12_barnOf_18 rfl (lv_at hl 4 rfl) ?_
  refine lv_iload_n hx hb dX12_barnOf_19 rfl (lv_at hl 5 rfl) ?_
  refine lv_ishr hx hb dX12_barnOf_20 ?_
  refine lv_iconst (v := (1 : Int32)) hx hb dX12_barnOf_21 (by decide) ?_
  refine lv_iand hx hb dX12_barnOf_22 ?_
  refine lv_if_ne (tgt := 66) hx hb dX12_barnOf_23 (by decide) (fun c23 => ?_) (fun c23 => ?_)
  · have h := h.2 c23
    exact b_X12_barnOf_66 C hr hlk h (lv_sub hl [2, 3, 4, 5, 6, 7, 9, 1, 0] rfl) hP
  · have h := h.1 c23
    refine lv_iload hx hb dX12_barnOf_26 (lv_at hl 8 rfl) ?_
    refine lv_aload_n hx hb dX12_barnOf_28 rfl (lv_at hl 2 rfl) ?_
    refine lv_iload_n hx hb dX12_barnOf_29 rfl (lv_at hl 3 rfl) ?_
    refine lv_iload_n hx hb dX12_barnOf_30 rfl (lv_at hl 5 rfl) ?_
    refine lv_iconst (v := (3 : Int32)) hx hb dX12_barnOf_31 (by decide) ?_
    refine q_cali (q_runV C hP (c_X12_ofBarn h) (cd_X12_ofBarn C.hA) (ini_X12 C.hA) (ml_X12_289 C.hA) (im_X12_ofBarn C.hA) (sl_X12_ofBarn C.hA) g1 (by decide) rfl hd_X12_ofBarn ⟨rfl, rfl⟩ ⟨Nat.le_of_ble_eq_true rfl, Nat.le_of_ble_eq_true rfl⟩ ⟨Nat.le_of_ble_eq_true rfl, Nat.le_of_ble_eq_true rfl⟩ hl.1 rfl (Nat.le_of_ble_eq_true rfl) dX12_barnOf_32) hP (fun v_32 u_32 H locs h hP => ?_)
    refine lv_aload_n hx hb dX12_barnOf_35 rfl (lv_at hl 2 rfl) ?_
    refine lv_iload_n hx hb dX12_barnOf_36 rfl (lv_at hl 3 rfl) ?_
    refine lv_iload_n hx hb dX12_barnOf_37 rfl (lv_at hl 5 rfl) ?_
    refine lv_iconst (v := (4 : Int32)) hx hb dX12_barnOf_38 (by decide) ?_
    refine q_cali (q_runV C hP (c_X12_ofBarn h) (cd_X12_ofBarn C.hA) (ini_X12 C.hA) (ml_X12_289 C.hA) (im_X12_ofBarn C.hA) (sl_X12_ofBarn C.hA) g1 (by decide) rfl hd_X12_ofBarn ⟨rfl, rfl⟩ ⟨Nat.le_of_ble_eq_true rfl, Nat.le_of_ble_eq_true rfl⟩ ⟨Nat.le_of_ble_eq_true rfl, Nat.le_of_ble_eq_true rfl⟩ hl.1 rfl (Nat.le_of_ble_eq_true rfl) dX12_barnOf_39) hP (fun v_39 u_39 H locs h hP => ?_)
    refine q_cali (q_runS C hP (c_X12_isIn h) (cd_X12_isIn C.hA) (ini_X12 C.hA) (ml_X12_150 C.hA) (st_X12_isIn C.hA) hd_X12_isIn ⟨rfl, rfl⟩ ⟨Nat.le_of_ble_eq_true rfl, Nat.le_of_ble_eq_true rfl⟩ ⟨Nat.le_of_ble_eq_true rfl, Nat.le_of_ble_eq_true rfl⟩ hl.1 rfl (Nat.le_of_ble_eq_true rfl) dX12_barnOf_42) hP (fun v_42 u_42 H locs h hP => ?_)
    refine lv_if_eq (tgt := 66) hx hb dX12_barnOf_45 (by decide) (fun c45 => ?_) (fun c45 => ?_)
    · have h := h.1 c45
      exact b_X12_barnOf_66 C hr hlk h (lv_sub hl [2, 3, 4, 5, 6, 7, 9, 1, 0] rfl) hP
    · have h := h.2 c45
      refine lv_iload hx hb dX12_barnOf_48 (lv_at hl 1 rfl) ?_
      refine lv_iload hx hb dX12_barnOf_50 (lv_at hl 6 rfl) ?_
      refine lv_icmp_ne (tgt := 62) hx hb dX12_barnOf_52 (by decide) (fun c52 => ?_) (fun c52 => ?_)
      · have h := h.2 c52
        exact b_X12_barnOf_62 C hr hlk h (lv_sub hl [2, 3, 4, 5, 6, 7, 9, 1, 0] rfl) hP
      · have h := h.1 c52
        refine lv_iload hx hb dX12_barnOf_55 (lv_at hl 0 rfl) ?_
        refine lv_iload hx hb dX12_barnOf_57 (lv_at hl 7 rfl) ?_
        refine lv_icmp_eq (tgt := 66) hx hb dX12_barnOf_59 (by decide) (fun c59 => ?_) (fun c59 => ?_)
        · have h := h.1 c59
          exact b_X12_barnOf_66 C hr hlk h (lv_sub hl [2, 3, 4, 5, 6, 7, 9, 1, 0] rfl) hP
        · have h := h.2 c59
          exact b_X12_barnOf_62 C hr hlk h (lv_sub hl [2, 3, 4, 5, 6, 7, 9, 1, 0] rfl) hP
-- X12_secondOf
abbrev rm_X12_secondOf : Room := { frames := 2, cells := 0, slots := 0, locals := 49 }
theorem hd_X12_secondOf : yX12_secondOf.cls ≠ "java/lang/invoke/MethodHandle" ∧ yX12_secondOf.cls ≠ "java/lang/invoke/VarHandle" ∧ (parseMethodDescriptor yX12_secondOf.desc).map (fun d => d.parameters.length) = some 5 := by decide +kernel
def V_X12_secondOf_153 (G : Gx) (Q : Mm → Prop) (x0 : Nat) (x2 : Int32) (x3 : Int32) (t0 : Nat) (t1 : Int32) (t2 : Int32) (u : Mm) : Prop :=
  kd G t0 = 13 ∧ vp_in t1 (ln G t0) ∧ ∀ u_153 : Mm, u_153 = sI u t0 t1.toNatClampNeg t2 → kd G x0 = 12 ∧ (gR u_153 x0 22) ≠ 0 ∧ kd G (gR u_153 x0 22) = 13 ∧ vp_in x2 (ln G (gR u_153 x0 22)) ∧ vp_in x3 (ln G (gR u_153 x0 22)) ∧ vp_in (((16 : Int32) + ((8 : Int32) * x2)) + x3) (ln G (gR u_153 x0 22)) ∧ ∀ u_184 : Mm, u_184 = sI u_153 (gR u_153 x0 22) (((16 : Int32) + ((8 : Int32) * x2)) + x3).toNatClampNeg (((gI u_153 (gR u_153 x0 22) x2.toNatClampNeg) * (gI u_153 (gR u_153 x0 22) x3.toNatClampNeg)) / (1000 : Int32)) → Q u_184
def V_X12_secondOf_97 (G : Gx) (Q : Mm → Prop) (x0 : Nat) (x2 : Int32) (x3 : Int32) (x6 : Int32) (x7 : Int32) (x8 : Int32) (u : Mm) : Prop :=
  ∀ x9_112 : Int32, x9_112 = (((2 : Int32) * (ab x6)) + ((2 : Int32) * (ab x7))) → kd G x0 = 12 ∧ (gR u x0 23) ≠ 0 ∧ ((x8 = 0 → kd G (gR u x0 23) = 13 ∧ vp_in x2 (ln G (gR u x0 23)) ∧ vp_in x3 (ln G (gR u x0 23)) ∧ V_X12_secondOf_153 G Q x0 x2 x3 (gR u x0 23) (((16 : Int32) + ((8 : Int32) * x2)) + x3) ((gI u (gR u x0 23) x2.toNatClampNeg) + (gI u (gR u x0 23) x3.toNatClampNeg)) u) ∧ (¬ x8 = 0 → V_X12_secondOf_153 G Q x0 x2 x3 (gR u x0 23) (((16 : Int32) + ((8 : Int32) * x2)) + x3) (x9_112 * x9_112) u))
def V_X12_secondOf_93 (G : Gx) (Q : Mm → Prop) (x0 : Nat) (x2 : Int32) (x3 : Int32) (x6 : Int32) (x7 : Int32) (x8 : Int32) (t0 : Int32) (t1 : Int32) (u : Mm) : Prop :=
  ((t0 = t1 → Q u) ∧ (¬ t0 = t1 → V_X12_secondOf_97 G Q x0 x2 x3 x6 x7 x8 u))
def V_X12_secondOf_83 (G : Gx) (Q : Mm → Prop) (x0 : Nat) (x2 : Int32) (x3 : Int32) (x6 : Int32) (x7 : Int32) (x8 : Int32) (t0 : Int32) (u : Mm) : Prop :=
  ((x7 ≤ 0 → V_X12_secondOf_93 G Q x0 x2 x3 x6 x7 x8 t0 (0 : Int32) u) ∧ (¬ x7 ≤ 0 → V_X12_secondOf_93 G Q x0 x2 x3 x6 x7 x8 t0 (1 : Int32) u))
def V_X12_secondOf_46 (G : Gx) (Q : Mm → Prop) (x0 : Nat) (x2 : Int32) (x3 : Int32) (x6 : Int32) (x7 : Int32) (t0 : Int32) (u : Mm) : Prop :=
  kd G x0 = 12 ∧ (gR u x0 22) ≠ 0 ∧ kd G (gR u x0 22) = 13 ∧ vp_in x2 (ln G (gR u x0 22)) ∧ (((gI u (gR u x0 22) x2.toNatClampNeg) = (-1 : Int32) → Q u) ∧ (¬ (gI u (gR u x0 22) x2.toNatClampNeg) = (-1 : Int32) → vp_in x3 (ln G (gR u x0 22)) ∧ (((gI u (gR u x0 22) x3.toNatClampNeg) = (-1 : Int32) → Q u) ∧ (¬ (gI u (gR u x0 22) x3.toNatClampNeg) = (-1 : Int32) → ((t0 = 0 → V_X12_secondOf_97 G Q x0 x2 x3 x6 x7 t0 u) ∧ (¬ t0 = 0 → ((x6 ≤ 0 → V_X12_secondOf_83 G Q x0 x2 x3 x6 x7 t0 (0 : Int32) u) ∧ (¬ x6 ≤ 0 → V_X12_secondOf_83 G Q x0 x2 x3 x6 x7 t0 (1 : Int32) u))))))))
def V_X12_secondOf (G : Gx) (p0 : Nat) (p1 : Int32) (p2 : Int32) (p3 : Int32) (p4 : Int32) (p5 : Int32) (u : Mm) (Q : Mm → Prop) : Prop :=
  kd G p0 = 12 ∧ V_X12_reach G p0 p1 p2 p4 p5 u (fun (v_7 : Int32) (u_7 : Mm) => V_X12_reach G p0 p1 p3 p4 p5 u_7 (fun (v_19 : Int32) (u_19 : Mm) => V_X12_ofWall G p0 p1 p2 (0 : Int32) u_19 (fun (v_28 : Int32) (u_28 : Mm) => V_X12_ofWall G p0 p1 p3 (0 : Int32) u_28 (fun (v_35 : Int32) (u_35 : Mm) => ((v_28 = v_35 → V_X12_secondOf_46 G Q p0 p2 p3 v_7 v_19 (1 : Int32) u_35) ∧ (¬ v_28 = v_35 → V_X12_secondOf_46 G Q p0 p2 p3 v_7 v_19 (0 : Int32) u_35))))))
set_option maxHeartbeats 4000000 in
set_option maxRecDepth 100000 in
theorem b_X12_secondOf_153 {G : Gx} {Q : Mm → Prop} {p : Program} {l : Launch} {e : Env} {s : State} {m : MethodId} {args : Array Value} {below : List Frame} {meth : Method} {c : Code} (C : Cx G p s m c cX12_secondOf RX12 10) (hr : meth.sig.returnType = none) (hlk : meth.locks = false) {x0 : Nat} {x2 : Int32} {x3 : Int32} {t0 : Nat} {t1 : Int32} {t2 : Int32} {u : Mm} {H : Heap} {locs : List Loc} {ls : Array Slot} (h : V_X12_secondOf_153 G Q x0 x2 x3 t0 t1 t2 u) (hl : lv_has ls 10 [(0, .ref x0), (2, .int x2), (3, .int x3)]) (hP : Hp G u s H locs) : W p l e rm_X12_secondOf s m args below meth c H locs 0 0 (MQ below (Ev G Q) args s 0 0 (ag G)) (F0 m 153 ls [.int t2, .int t1, .ref t0]) := by
  have hx := C.1
  have hb := C.2.1
  unfold V_X12_secondOf_153 at h
  obtain ⟨g1, h⟩ := h
  obtain ⟨g2, h⟩ := h
  refine q_iast C hP g1 g2 dX12_secondOf_153 (fun H locs hP => ?_)
  obtain ⟨u_153, eu_153, hP⟩ := Hp.nm hP
  have h := h u_153 eu_153
  refine lv_aload_n hx hb dX12_secondOf_154 rfl (lv_at hl 0 rfl) ?_
  obtain ⟨g3, h⟩ := h
  obtain ⟨g4, h⟩ := h
  refine q_getR C hP (k := 22) (lay_X12 C.hA) rfl (by decide) g3 g4 (fl_X12_58 C.hA) dX12_secondOf_155 ?_
  refine lv_bipush (v := (16 : Int32)) hx hb dX12_secondOf_158 (by decide) ?_
  refine lv_bipush (v := (8 : Int32)) hx hb dX12_secondOf_160 (by decide) ?_
  refine lv_iload_n hx hb dX12_secondOf_162 rfl (lv_at hl 1 rfl) ?_
  refine lv_imul hx hb dX12_secondOf_163 ?_
  refine lv_iadd hx hb dX12_secondOf_164 ?_
  refine lv_iload_n hx hb dX12_secondOf_165 rfl (lv_at hl 2 rfl) ?_
  refine lv_iadd hx hb dX12_secondOf_166 ?_
  refine lv_aload_n hx hb dX12_secondOf_167 rfl (lv_at hl 0 rfl) ?_
  refine q_getR C hP (k := 22) (lay_X12 C.hA) rfl (by decide) g3 g4 (fl_X12_58 C.hA) dX12_secondOf_168 ?_
  refine lv_iload_n hx hb dX12_secondOf_171 rfl (lv_at hl 1 rfl) ?_
  obtain ⟨g5, h⟩ := h
  obtain ⟨g6, h⟩ := h
  refine q_iald C hP g5 g6 dX12_secondOf_172 ?_
  refine lv_aload_n hx hb dX12_secondOf_173 rfl (lv_at hl 0 rfl) ?_
  refine q_getR C hP (k := 22) (lay_X12 C.hA) rfl (by decide) g3 g4 (fl_X12_58 C.hA) dX12_secondOf_174 ?_
  refine lv_iload_n hx hb dX12_secondOf_177 rfl (lv_at hl 2 rfl) ?_
  obtain ⟨g7, h⟩ := h
  refine q_iald C hP g5 g7 dX12_secondOf_178 ?_
  refine lv_imul hx hb dX12_secondOf_179 ?_
  refine lv_sipush (v := (1000 : Int32)) hx hb dX12_secondOf_180 (by decide) ?_
  refine lv_idiv hx hb dX12_secondOf_183 (by decide) ?_
  obtain ⟨g8, h⟩ := h
  refine q_iast C hP g5 g8 dX12_secondOf_184 (fun H locs hP => ?_)
  obtain ⟨u_184, eu_184, hP⟩ := Hp.nm hP
  have h := h u_184 eu_184
  exact q_vret C hr hlk hP h (by decide) (by decide) dX12_secondOf_185
set_option maxHeartbeats 4000000 in
set_option maxRecDepth 100000 in
theorem b_X12_secondOf_97 {G : Gx} {Q : Mm → Prop} {p : Program} {l : Launch} {e : Env} {s : State} {m : MethodId} {args : Array Value} {below : List Frame} {meth : Method} {c : Code} (C : Cx G p s m c cX12_secondOf RX12 10) (hr : meth.sig.returnType = none) (hlk : meth.locks = false) {x0 : Nat} {x2 : Int32} {x3 : Int32} {x6 : Int32} {x7 : Int32} {x8 : Int32} {u : Mm} {H : Heap} {locs : List Loc} {ls : Array Slot} (h : V_X12_secondOf_97 G Q x0 x2 x3 x6 x7 x8 u) (hl : lv_has ls 10 [(0, .ref x0), (2, .int x2), (3, .int x3), (6, .int x6), (7, .int x7), (8, .int x8)]) (hP : Hp G u s H locs) : W p l e rm_X12_secondOf s m args below meth c H locs 0 0 (MQ below (Ev G Q) args s 0 0 (ag G)) (F0 m 97 ls []) := by
  have hx := C.1
  have hb := C.2.1
  unfold V_X12_secondOf_97 at h
  refine lv_iconst (v := (2 : Int32)) hx hb dX12_secondOf_97 (by decide) ?_
  refine lv_iload hx hb dX12_secondOf_98 (lv_at hl 3 rfl) ?_
  refine va_mabs hx hb (C.2.2.2.1.trans hl.1.symm) C.2.2.1 (ml_X12_278 C.hA) (st_J9_abs_0f7a4 C.hA) (ini_J9 C.hA) (cd_J9_abs_0f7a4 C.hA) (Nat.le_of_ble_eq_true rfl) (Nat.le_of_ble_eq_true rfl) (Nat.le_of_ble_eq_true rfl) (Nat.le_of_ble_eq_true rfl) dX12_secondOf_100 ?_
  refine lv_imul hx hb dX12_secondOf_103 ?_
  refine lv_iconst (v := (2 : Int32)) hx hb dX12_secondOf_104 (by decide) ?_
  refine lv_iload hx hb dX12_secondOf_105 (lv_at hl 4 rfl) ?_
  refine va_mabs hx hb (C.2.2.2.1.trans hl.1.symm) C.2.2.1 (ml_X12_278 C.hA) (st_J9_abs_0f7a4 C.hA) (ini_J9 C.hA) (cd_J9_abs_0f7a4 C.hA) (Nat.le_of_ble_eq_true rfl) (Nat.le_of_ble_eq_true rfl) (Nat.le_of_ble_eq_true rfl) (Nat.le_of_ble_eq_true rfl) dX12_secondOf_107 ?_
  refine lv_imul hx hb dX12_secondOf_110 ?_
  refine lv_iadd hx hb dX12_secondOf_111 ?_
  refine lv_topi (fun x9_112 ex9_112 => ?_)
  have h := h x9_112 ex9_112
  refine lv_istore (lv' := [(9, .int x9_112), (0, .ref x0), (2, .int x2), (3, .int x3), (6, .int x6), (7, .int x7), (8, .int x8)]) hx hb dX12_secondOf_112 hl (by decide) rfl (fun ls hl => ?_)
  refine lv_aload_n hx hb dX12_secondOf_114 rfl (lv_at hl 1 rfl) ?_
  obtain ⟨g1, h⟩ := h
  obtain ⟨g2, h⟩ := h
  refine q_getR C hP (k := 23) (lay_X12 C.hA) rfl (by decide) g1 g2 (fl_X12_61 C.hA) dX12_secondOf_115 ?_
  refine lv_bipush (v := (16 : Int32)) hx hb dX12_secondOf_118 (by decide) ?_
  refine lv_bipush (v := (8 : Int32)) hx hb dX12_secondOf_120 (by decide) ?_
  refine lv_iload_n hx hb dX12_secondOf_122 rfl (lv_at hl 2 rfl) ?_
  refine lv_imul hx hb dX12_secondOf_123 ?_
  refine lv_iadd hx hb dX12_secondOf_124 ?_
  refine lv_iload_n hx hb dX12_secondOf_125 rfl (lv_at hl 3 rfl) ?_
  refine lv_iadd hx hb dX12_secondOf_126 ?_
  refine lv_iload hx hb dX12_secondOf_127 (lv_at hl 6 rfl) ?_
  refine lv_if_eq (tgt := 140) hx hb dX12_secondOf_129 (by decide) (fun c129 => ?_) (fun c129 => ?_)
  · have h := h.1 c129
    refine lv_aload_n hx hb dX12_secondOf_140 rfl (lv_at hl 1 rfl) ?_
    refine q_getR C hP (k := 23) (lay_X12 C.hA) rfl (by decide) g1 g2 (fl_X12_61 C.hA) dX12_secondOf_141 ?_
    refine lv_iload_n hx hb dX12_secondOf_144 rfl (lv_at hl 2 rfl) ?_
    obtain ⟨g3, h⟩ := h
    obtain ⟨g4, h⟩ := h
    refine q_iald C hP g3 g4 dX12_secondOf_145 ?_
    refine lv_aload_n hx hb dX12_secondOf_146 rfl (lv_at hl 1 rfl) ?_
    refine q_getR C hP (k := 23) (lay_X12 C.hA) rfl (by decide) g1 g2 (fl_X12_61 C.hA) dX12_secondOf_147 ?_
    refine lv_iload_n hx hb dX12_secondOf_150 rfl (lv_at hl 3 rfl) ?_
    obtain ⟨g5, h⟩ := h
    refine q_iald C hP g3 g5 dX12_secondOf_151 ?_
    refine lv_iadd hx hb dX12_secondOf_152 ?_
    exact b_X12_secondOf_153 C hr hlk h (lv_sub hl [1, 2, 3] rfl) hP
  · have h := h.2 c129
    refine lv_iload hx hb dX12_secondOf_132 (lv_at hl 0 rfl) ?_
    refine lv_iload hx hb dX12_secondOf_134 (lv_at hl 0 rfl) ?_
    refine lv_imul hx hb dX12_secondOf_136 ?_
    refine lv_goto (tgt := 153) hx hb dX12_secondOf_137 (by decide) ?_
    exact b_X12_secondOf_153 C hr hlk h (lv_sub hl [1, 2, 3] rfl) hP
set_option maxHeartbeats 4000000 in
set_option maxRecDepth 100000 in
theorem b_X12_secondOf_93 {G : Gx} {Q : Mm → Prop} {p : Program} {l : Launch} {e : Env} {s : State} {m : MethodId} {args : Array Value} {below : List Frame} {meth : Method} {c : Code} (C : Cx G p s m c cX12_secondOf RX12 10) (hr : meth.sig.returnType = none) (hlk : meth.locks = false) {x0 : Nat} {x2 : Int32} {x3 : Int32} {x6 : Int32} {x7 : Int32} {x8 : Int32} {t0 : Int32} {t1 : Int32} {u : Mm} {H : Heap} {locs : List Loc} {ls : Array Slot} (h : V_X12_secondOf_93 G Q x0 x2 x3 x6 x7 x8 t0 t1 u) (hl : lv_has ls 10 [(0, .ref x0), (2, .int x2), (3, .int x3), (6, .int x6), (7, .int x7), (8, .int x8)]) (hP : Hp G u s H locs) : W p l e rm_X12_secondOf s m args below meth c H locs 0 0 (MQ below (Ev G Q) args s 0 0 (ag G)) (F0 m 93 ls [.int t1, .int t0]) := by
  have hx := C.1
  have hb := C.2.1
  unfold V_X12_secondOf_93 at h
  refine lv_icmp_ne (tgt := 97) hx hb dX12_secondOf_93 (by decide) (fun c93 => ?_) (fun c93 => ?_)
  · have h := h.2 c93
    exact b_X12_secondOf_97 C hr hlk h (lv_sub hl [0, 1, 2, 3, 4, 5] rfl) hP
  · have h := h.1 c93
    exact q_vret C hr hlk hP h (by decide) (by decide) dX12_secondOf_96
set_option maxHeartbeats 4000000 in
set_option maxRecDepth 100000 in
theorem b_X12_secondOf_83 {G : Gx} {Q : Mm → Prop} {p : Program} {l : Launch} {e : Env} {s : State} {m : MethodId} {args : Array Value} {below : List Frame} {meth : Method} {c : Code} (C : Cx G p s m c cX12_secondOf RX12 10) (hr : meth.sig.returnType = none) (hlk : meth.locks = false) {x0 : Nat} {x2 : Int32} {x3 : Int32} {x6 : Int32} {x7 : Int32} {x8 : Int32} {t0 : Int32} {u : Mm} {H : Heap} {locs : List Loc} {ls : Array Slot} (h : V_X12_secondOf_83 G Q x0 x2 x3 x6 x7 x8 t0 u) (hl : lv_has ls 10 [(0, .ref x0), (2, .int x2), (3, .int x3), (6, .int x6), (7, .int x7), (8, .int x8)]) (hP : Hp G u s H locs) : W p l e rm_X12_secondOf s m args below meth c H locs 0 0 (MQ below (Ev G Q) args s 0 0 (ag G)) (F0 m 83 ls [.int t0]) := by
  have hx := C.1
  have hb := C.2.1
  unfold V_X12_secondOf_83 at h
  refine lv_iload hx hb dX12_secondOf_83 (lv_at hl 4 rfl) ?_
  refine lv_if_le (tgt := 92) hx hb dX12_secondOf_85 (by decide) (fun c85 => ?_) (fun c85 => ?_)
  · have h := h.1 c85
    refine lv_iconst (v := (0 : Int32)) hx hb dX12_secondOf_92 (by decide) ?_
    exact b_X12_secondOf_93 C hr hlk h (lv_sub hl [0, 1, 2, 3, 4, 5] rfl) hP
  · have h := h.2 c85
    refine lv_iconst (v := (1 : Int32)) hx hb dX12_secondOf_88 (by decide) ?_
    refine lv_goto (tgt := 93) hx hb dX12_secondOf_89 (by decide) ?_
    exact b_X12_secondOf_93 C hr hlk h (lv_sub hl [0, 1, 2, 3, 4, 5] rfl) hP
set_option maxHeartbeats 4000000 in
set_option maxRecDepth 100000 in
theorem b_X12_secondOf_46 {G : Gx} {Q : Mm → Prop} {p : Program} {l : Launch} {e : Env} {s : State} {m : MethodId} {args : Array Value} {below : List Frame} {meth : Method} {c : Code} (C : Cx G p s m c cX12_secondOf RX12 10) (hr : meth.sig.returnType = none) (hlk : meth.locks = false) {x0 : Nat} {x2 : Int32} {x3 : Int32} {x6 : Int32} {x7 : Int32} {t0 : Int32} {u : Mm} {H : Heap} {locs : List Loc} {ls : Array Slot} (h : V_X12_secondOf_46 G Q x0 x2 x3 x6 x7 t0 u) (hl : lv_has ls 10 [(0, .ref x0), (2, .int x2), (3, .int x3), (6, .int x6), (7, .int x7)]) (hP : Hp G u s H locs) : W p l e rm_X12_secondOf s m args below meth c H locs 0 0 (MQ below (Ev G Q) args s 0 0 (ag G)) (F0 m 46 ls [.int t0]) := by
  have hx := C.1
  have hb := C.2.1
  unfold V_X12_secondOf_46 at h
  refine lv_istore (lv' := [(8, .int t0), (0, .ref x0), (2, .int x2), (3, .int x3), (6, .int x6), (7, .int x7)]) hx hb dX12_secondOf_46 hl (by decide) rfl (fun ls hl => ?_)
  refine lv_aload_n hx hb dX12_secondOf_48 rfl (lv_at hl 1 rfl) ?_
  obtain ⟨g1, h⟩ := h
  obtain ⟨g2, h⟩ := h
  refine q_getR C hP (k := 22) (lay_X12 C.hA) rfl (by decide) g1 g2 (fl_X12_58 C.hA) dX12_secondOf_49 ?_
  refine lv_iload_n hx hb dX12_secondOf_52 rfl (lv_at hl 2 rfl) ?_
  obtain ⟨g3, h⟩ := h
  obtain ⟨g4, h⟩ := h
  refine q_iald C hP g3 g4 dX12_secondOf_53 ?_
  refine lv_iconst (v := (-1 : Int32)) hx hb dX12_secondOf_54 (by decide) ?_
  refine lv_icmp_eq (tgt := 96) hx hb dX12_secondOf_55 (by decide) (fun c55 => ?_) (fun c55 => ?_)
  · have h := h.1 c55
    exact q_vret C hr hlk hP h (by decide) (by decide) dX12_secondOf_96
  · have h := h.2 c55
    refine lv_aload_n hx hb dX12_secondOf_58 rfl (lv_at hl 1 rfl) ?_
    refine q_getR C hP (k := 22) (lay_X12 C.hA) rfl (by decide) g1 g2 (fl_X12_58 C.hA) dX12_secondOf_59 ?_
    refine lv_iload_n hx hb dX12_secondOf_62 rfl (lv_at hl 3 rfl) ?_
    obtain ⟨g5, h⟩ := h
    refine q_iald C hP g3 g5 dX12_secondOf_63 ?_
    refine lv_iconst (v := (-1 : Int32)) hx hb dX12_secondOf_64 (by decide) ?_
    refine lv_icmp_eq (tgt := 96) hx hb dX12_secondOf_65 (by decide) (fun c65 => ?_) (fun c65 => ?_)
    · have h := h.1 c65
      exact q_vret C hr hlk hP h (by decide) (by decide) dX12_secondOf_96
    · have h := h.2 c65
      refine lv_iload hx hb dX12_secondOf_68 (lv_at hl 0 rfl) ?_
      refine lv_if_eq (tgt := 97) hx hb dX12_secondOf_70 (by decide) (fun c70 => ?_) (fun c70 => ?_)
      · have h := h.1 c70
        exact b_X12_secondOf_97 C hr hlk h (lv_sub hl [1, 2, 3, 4, 5, 0] rfl) hP
      · have h := h.2 c70
        refine lv_iload hx hb dX12_secondOf_73 (lv_at hl 4 rfl) ?_
        refine lv_if_le (tgt := 82) hx hb dX12_secondOf_75 (by decide) (fun c75 => ?_) (fun c75 => ?_)
        · have h := h.1 c75
          refine lv_iconst (v := (0 : Int32)) hx hb dX12_secondOf_82 (by decide) ?_
          exact b_X12_secondOf_83 C hr hlk h (lv_sub hl [1, 2, 3, 4, 5, 0] rfl) hP
        · have h := h.2 c75
          refine lv_iconst (v := (1 : Int32)) hx hb dX12_secondOf_78 (by decide) ?_
          refine lv_goto (tgt := 83) hx hb dX12_secondOf_79 (by decide) ?_
          exact b_X12_secondOf_83 C hr hlk h (lv_sub hl [1, 2, 3, 4, 5, 0] rfl) hP
set_option maxHeartbeats 4000000 in
set_option maxRecDepth 100000 in
theorem c_X12_secondOf {l : Launch} {G : Gx} {p0 : Nat} {p1 : Int32} {p2 : Int32} {p3 : Int32} {p4 : Int32} {p5 : Int32} {u : Mm} {Q : Mm → Prop} (h : V_X12_secondOf G p0 p1 p2 p3 p4 p5 u Q) : Met l yX12_secondOf [.code yX12_secondOf cX12_secondOf 10 none] rm_X12_secondOf (va_Pc [.ref p0, .int p1, .int p2, .int p3, .int p4, .int p5] (Wd G u)) (Ev G Q) 0 0 (ag G) := by
  refine q_met (by decide) (Nat.le_of_ble_eq_true rfl) ?_
  intro p e s m below meth c ls C hr hlk hnm hl hP
  have hl : lv_has ls 10 [(0, .ref p0), (1, .int p1), (2, .int p2), (3, .int p3), (4, .int p4), (5, .int p5)] := hl
  generalize ([.ref p0, .int p1, .int p2, .int p3, .int p4, .int p5] : List Value).toArray = args
  have hx := C.1
  have hb := C.2.1
  unfold V_X12_secondOf at h
  refine lv_aload_n hx hb dX12_secondOf_0 rfl (lv_at hl 0 rfl) ?_
  refine lv_iload_n hx hb dX12_secondOf_1 rfl (lv_at hl 1 rfl) ?_
  refine lv_iload_n hx hb dX12_secondOf_2 rfl (lv_at hl 2 rfl) ?_
  refine lv_iload hx hb dX12_secondOf_3 (lv_at hl 4 rfl) ?_
  refine lv_iload hx hb dX12_secondOf_5 (lv_at hl 5 rfl) ?_
  obtain ⟨g1, h⟩ := h
  refine q_cali (q_runV C hP (c_X12_reach h) (cd_X12_reach C.hA) (ini_X12 C.hA) (ml_X12_281 C.hA) (im_X12_reach C.hA) (sl_X12_reach C.hA) g1 (by decide) rfl hd_X12_reach ⟨rfl, rfl⟩ ⟨Nat.le_of_ble_eq_true rfl, Nat.le_of_ble_eq_true rfl⟩ ⟨Nat.le_of_ble_eq_true rfl, Nat.le_of_ble_eq_true rfl⟩ hl.1 rfl (Nat.le_of_ble_eq_true rfl) dX12_secondOf_7) hP (fun v_7 u_7 H locs h hP => ?_)
  refine lv_istore (lv' := [(6, .int v_7), (0, .ref p0), (1, .int p1), (2, .int p2), (3, .int p3), (4, .int p4), (5, .int p5)]) hx hb dX12_secondOf_10 hl (by decide) rfl (fun ls hl => ?_)
  refine lv_aload_n hx hb dX12_secondOf_12 rfl (lv_at hl 1 rfl) ?_
  refine lv_iload_n hx hb dX12_secondOf_13 rfl (lv_at hl 2 rfl) ?_
  refine lv_iload_n hx hb dX12_secondOf_14 rfl (lv_at hl 4 rfl) ?_
  refine lv_iload hx hb dX12_secondOf_15 (lv_at hl 5 rfl) ?_
  refine lv_iload hx hb dX12_secondOf_17 (lv_at hl 6 rfl) ?_
  refine q_cali (q_runV C hP (c_X12_reach h) (cd_X12_reach C.hA) (ini_X12 C.hA) (ml_X12_281 C.hA) (im_X12_reach C.hA) (sl_X12_reach C.hA) g1 (by decide) rfl hd_X12_reach ⟨rfl, rfl⟩ ⟨Nat.le_of_ble_eq_true rfl, Nat.le_of_ble_eq_true rfl⟩ ⟨Nat.le_of_ble_eq_true rfl, Nat.le_of_ble_eq_true rfl⟩ hl.1 rfl (Nat.le_of_ble_eq_true rfl) dX12_secondOf_19) hP (fun v_19 u_19 H locs h hP => ?_)
  refine lv_istore (lv' := [(7, .int v_19), (6, .int v_7), (0, .ref p0), (1, .int p1), (2, .int p2), (3, .int p3), (4, .int p4), (5, .int p5)]) hx hb dX12_secondOf_22 hl (by decide) rfl (fun ls hl => ?_)
  refine lv_aload_n hx hb dX12_secondOf_24 rfl (lv_at hl 2 rfl) ?_
  refine lv_iload_n hx hb dX12_secondOf_25 rfl (lv_at hl 3 rfl) ?_
  refine lv_iload_n hx hb dX12_secondOf_26 rfl (lv_at hl 4 rfl) ?_
  refine lv_iconst (v := (0 : Int32)) hx hb dX12_secondOf_27 (by decide) ?_
  refine q_cali (q_runV C hP (c_X12_ofWall h) (cd_X12_ofWall C.hA) (ini_X12 C.hA) (ml_X12_275 C.hA) (im_X12_ofWall C.hA) (sl_X12_ofWall C.hA) g1 (by decide) rfl hd_X12_ofWall ⟨rfl, rfl⟩ ⟨Nat.le_of_ble_eq_true rfl, Nat.le_of_ble_eq_true rfl⟩ ⟨Nat.le_of_ble_eq_true rfl, Nat.le_of_ble_eq_true rfl⟩ hl.1 rfl (Nat.le_of_ble_eq_true rfl) dX12_secondOf_28) hP (fun v_28 u_28 H locs h hP => ?_)
  refine lv_aload_n hx hb dX12_secondOf_31 rfl (lv_at hl 2 rfl) ?_
  refine lv_iload_n hx hb dX12_secondOf_32 rfl (lv_at hl 3 rfl) ?_
  refine lv_iload_n hx hb dX12_secondOf_33 rfl (lv_at hl 5 rfl) ?_
  refine lv_iconst (v := (0 : Int32)) hx hb dX12_secondOf_34 (by decide) ?_
  refine q_cali (q_runV C hP (c_X12_ofWall h) (cd_X12_ofWall C.hA) (ini_X12 C.hA) (ml_X12_275 C.hA) (im_X12_ofWall C.hA) (sl_X12_ofWall C.hA) g1 (by decide) rfl hd_X12_ofWall ⟨rfl, rfl⟩ ⟨Nat.le_of_ble_eq_true rfl, Nat.le_of_ble_eq_true rfl⟩ ⟨Nat.le_of_ble_eq_true rfl, Nat.le_of_ble_eq_true rfl⟩ hl.1 rfl (Nat.le_of_ble_eq_true rfl) dX12_secondOf_35) hP (fun v_35 u_35 H locs h hP => ?_)
  refine lv_icmp_ne (tgt := 45) hx hb dX12_secondOf_38 (by decide) (fun c38 => ?_) (fun c38 => ?_)
  · have h := h.2 c38
    refine lv_iconst (v := (0 : Int32)) hx hb dX12_secondOf_45 (by decide) ?_
    exact b_X12_secondOf_46 C hr hlk h (lv_sub hl [2, 4, 5, 1, 0] rfl) hP
  · have h := h.1 c38
    refine lv_iconst (v := (1 : Int32)) hx hb dX12_secondOf_41 (by decide) ?_
    refine lv_goto (tgt := 46) hx hb dX12_secondOf_42 (by decide) ?_
    exact b_X12_secondOf_46 C hr hlk h (lv_sub hl [2, 4, 5, 1, 0] rfl) hP
-- X12_tellEchoes
abbrev rm_X12_tellEchoes : Room := { frames := 4, cells := 0, slots := 0, locals := 118 }
theorem hd_X12_tellEchoes : yX12_tellEchoes.cls ≠ "java/lang/invoke/MethodHandle" ∧ yX12_tellEchoes.cls ≠ "java/lang/invoke/VarHandle" ∧ (parseMethodDescriptor yX12_tellEchoes.desc).map (fun d => d.parameters.length) = some 6 := by decide +kernel
def V_X12_tellEchoes_125_B (G : Gx) (Q : Mm → Prop) (k_108 : Nat → Int32 → Int32 → Int32 → Int32 → Mm → Prop) (k_125 : Nat → Int32 → Int32 → Int32 → Int32 → Int32 → Mm → Prop) (x0 : Nat) (x1 : Int32) (x3 : Int32) (x4 : Int32) (x7 : Int32) (x8 : Int32) (u : Mm) : Prop :=
  kd G x0 = 12 ∧ (gR u x0 2) ≠ 0 ∧ kd G (gR u x0 2) = 13 ∧ vp_in x1 (ln G (gR u x0 2)) ∧ (((gI u (gR u x0 2) x1.toNatClampNeg) ≤ x8 → ∀ x7_154 : Int32, x7_154 = x7 + (1 : Int32) → k_108 x0 x1 x3 x4 x7_154 u) ∧ (¬ (gI u (gR u x0 2) x1.toNatClampNeg) ≤ x8 → V_X12_secondOf G x0 x1 x7 x8 x3 x4 u (fun (u_145 : Mm) => ∀ x8_148 : Int32, x8_148 = x8 + (1 : Int32) → k_125 x0 x1 x3 x4 x7 x8_148 u_145)))
def V_X12_tellEchoes_125 (G : Gx) (Q : Mm → Prop) (k_108 : Nat → Int32 → Int32 → Int32 → Int32 → Mm → Prop) : Nat → (Nat → Int32 → Int32 → Int32 → Int32 → Int32 → Mm → Prop)
  | 0 => fun _ _ _ _ _ _ _ => False
  | n + 1 => fun x0 x1 x3 x4 x7 x8 u => V_X12_tellEchoes_125_B G Q k_108 (V_X12_tellEchoes_125 G Q k_108 n) x0 x1 x3 x4 x7 x8 u
def V_X12_tellEchoes_108_B (G : Gx) (Q : Mm → Prop) (k_108 : Nat → Int32 → Int32 → Int32 → Int32 → Mm → Prop) (x0 : Nat) (x1 : Int32) (x3 : Int32) (x4 : Int32) (x7 : Int32) (u : Mm) : Prop :=
  kd G x0 = 12 ∧ (gR u x0 2) ≠ 0 ∧ kd G (gR u x0 2) = 13 ∧ vp_in x1 (ln G (gR u x0 2)) ∧ (((gI u (gR u x0 2) x1.toNatClampNeg) ≤ x7 → Q u) ∧ (¬ (gI u (gR u x0 2) x1.toNatClampNeg) ≤ x7 → ∀ x8_123 : Int32, x8_123 = (x7 + (1 : Int32)) → ∃ n : Nat, V_X12_tellEchoes_125 G Q k_108 n x0 x1 x3 x4 x7 x8_123 u))
def V_X12_tellEchoes_108 (G : Gx) (Q : Mm → Prop) : Nat → (Nat → Int32 → Int32 → Int32 → Int32 → Mm → Prop)
  | 0 => fun _ _ _ _ _ _ => False
  | n + 1 => fun x0 x1 x3 x4 x7 u => V_X12_tellEchoes_108_B G Q (V_X12_tellEchoes_108 G Q n) x0 x1 x3 x4 x7 u
def V_X12_tellEchoes_73_B (G : Gx) (Q : Mm → Prop) (k_73 : Nat → Int32 → Int32 → Int32 → Int32 → Int32 → Int32 → Int32 → Mm → Prop) (x0 : Nat) (x1 : Int32) (x2 : Int32) (x3 : Int32) (x4 : Int32) (x5 : Int32) (x6 : Int32) (x7 : Int32) (u : Mm) : Prop :=
  kd G x0 = 12 ∧ (gR u x0 3) ≠ 0 ∧ kd G (gR u x0 3) = 13 ∧ vp_in x1 (ln G (gR u x0 3)) ∧ (((gI u (gR u x0 3) x1.toNatClampNeg) ≤ x7 → ∃ n : Nat, V_X12_tellEchoes_108 G Q n x0 x1 x3 x4 (0 : Int32) u) ∧ (¬ (gI u (gR u x0 3) x1.toNatClampNeg) ≤ x7 → V_X12_barnOf G x0 x1 x2 x7 x3 x4 x5 x6 u (fun (u_96 : Mm) => ∀ x7_99 : Int32, x7_99 = x7 + (1 : Int32) → k_73 x0 x1 x2 x3 x4 x5 x6 x7_99 u_96)))
def V_X12_tellEchoes_73 (G : Gx) (Q : Mm → Prop) : Nat → (Nat → Int32 → Int32 → Int32 → Int32 → Int32 → Int32 → Int32 → Mm → Prop)
  | 0 => fun _ _ _ _ _ _ _ _ _ => False
  | n + 1 => fun x0 x1 x2 x3 x4 x5 x6 x7 u => V_X12_tellEchoes_73_B G Q (V_X12_tellEchoes_73 G Q n) x0 x1 x2 x3 x4 x5 x6 x7 u
def V_X12_tellEchoes_64 (G : Gx) (Q : Mm → Prop) (k_27 : Nat → Int32 → Int32 → Int32 → Int32 → Int32 → Int32 → Int32 → Mm → Prop) (x0 : Nat) (x1 : Int32) (x2 : Int32) (x3 : Int32) (x4 : Int32) (x5 : Int32) (x6 : Int32) (x7 : Int32) (u : Mm) : Prop :=
  ∀ x7_64 : Int32, x7_64 = x7 + (1 : Int32) → k_27 x0 x1 x2 x3 x4 x5 x6 x7_64 u
def V_X12_tellEchoes_27_B (G : Gx) (Q : Mm → Prop) (k_27 : Nat → Int32 → Int32 → Int32 → Int32 → Int32 → Int32 → Int32 → Mm → Prop) (x0 : Nat) (x1 : Int32) (x2 : Int32) (x3 : Int32) (x4 : Int32) (x5 : Int32) (x6 : Int32) (x7 : Int32) (u : Mm) : Prop :=
  kd G x0 = 12 ∧ (gR u x0 2) ≠ 0 ∧ kd G (gR u x0 2) = 13 ∧ vp_in x1 (ln G (gR u x0 2)) ∧ (((gI u (gR u x0 2) x1.toNatClampNeg) ≤ x7 → ∃ n : Nat, V_X12_tellEchoes_73 G Q n x0 x1 x2 x3 x4 x5 x6 (0 : Int32) u) ∧ (¬ (gI u (gR u x0 2) x1.toNatClampNeg) ≤ x7 → V_X12_isOut G x0 x1 x2 x7 x3 x4 u (fun (v_46 : Int32) (u_46 : Mm) => ((v_46 = 0 → V_X12_firstOf G x0 x1 x7 x3 x4 x6 u_46 (fun (u_61 : Mm) => V_X12_tellEchoes_64 G Q k_27 x0 x1 x2 x3 x4 x5 x6 x7 u_61)) ∧ (¬ v_46 = 0 → V_X12_tellEchoes_64 G Q k_27 x0 x1 x2 x3 x4 x5 x6 x7 u_46)))))
def V_X12_tellEchoes_27 (G : Gx) (Q : Mm → Prop) : Nat → (Nat → Int32 → Int32 → Int32 → Int32 → Int32 → Int32 → Int32 → Mm → Prop)
  | 0 => fun _ _ _ _ _ _ _ _ _ => False
  | n + 1 => fun x0 x1 x2 x3 x4 x5 x6 x7 u => V_X12_tellEchoes_27_B G Q (V_X12_tellEchoes_27 G Q n) x0 x1 x2 x3 x4 x5 x6 x7 u
def V_X12_tellEchoes_3_B (G : Gx) (Q : Mm → Prop) (k_3 : Nat → Int32 → Int32 → Int32 → Int32 → Int32 → Int32 → Int32 → Mm → Prop) (x0 : Nat) (x1 : Int32) (x2 : Int32) (x3 : Int32) (x4 : Int32) (x5 : Int32) (x6 : Int32) (x7 : Int32) (u : Mm) : Prop :=
  (((80 : Int32) ≤ x7 → ∃ n : Nat, V_X12_tellEchoes_27 G Q n x0 x1 x2 x3 x4 x5 x6 (0 : Int32) u) ∧ (¬ (80 : Int32) ≤ x7 → kd G x0 = 12 ∧ (gR u x0 22) ≠ 0 ∧ kd G (gR u x0 22) = 13 ∧ vp_in x7 (ln G (gR u x0 22)) ∧ ∀ u_17 : Mm, u_17 = sI u (gR u x0 22) x7.toNatClampNeg (-1 : Int32) → ∀ x7_18 : Int32, x7_18 = x7 + (1 : Int32) → k_3 x0 x1 x2 x3 x4 x5 x6 x7_18 u_17))
def V_X12_tellEchoes_3 (G : Gx) (Q : Mm → Prop) : Nat → (Nat → Int32 → Int32 → Int32 → Int32 → Int32 → Int32 → Int32 → Mm → Prop)
  | 0 => fun _ _ _ _ _ _ _ _ _ => False
  | n + 1 => fun x0 x1 x2 x3 x4 x5 x6 x7 u => V_X12_tellEchoes_3_B G Q (V_X12_tellEchoes_3 G Q n) x0 x1 x2 x3 x4 x5 x6 x7 u
def V_X12_tellEchoes (G : Gx) (p0 : Nat) (p1 : Int32) (p2 : Int32) (p3 : Int32) (p4 : Int32) (p5 : Int32) (p6 : Int32) (u : Mm) (Q : Mm → Prop) : Prop :=
  ∃ n : Nat, V_X12_tellEchoes_3 G Q n p0 p1 p2 p3 p4 p5 p6 (0 : Int32) u
set_option maxHeartbeats 4000000 in
set_option maxRecDepth 100000 in
theorem b_X12_tellEchoes_125 {G : Gx} {Q : Mm → Prop} {p : Program} {l : Launch} {e : Env} {s : State} {m : MethodId} {args : Array Value} {below : List Frame} {meth : Method} {c : Code} (C : Cx G p s m c cX12_tellEchoes RX12 9) (hr : meth.sig.returnType = none) (hlk : meth.locks = false) {k_108 : Nat → Int32 → Int32 → Int32 → Int32 → Mm → Prop} (hk_108 : ∀ (x0 : Nat) (x1 : Int32) (x3 : Int32) (x4 : Int32) (x7 : Int32) (u : Mm) (H : Heap) (locs : List Loc) (ls : Array Slot), k_108 x0 x1 x3 x4 x7 u → lv_has ls 9 [(0, .ref x0), (1, .int x1), (3, .int x3), (4, .int x4), (7, .int x7)] → Hp G u s H locs → W p l e rm_X12_tellEchoes s m args below meth c H locs 0 0 (MQ below (Ev G Q) args s 0 0 (ag G)) (F0 m 108 ls [])) {k_125 : Nat → Int32 → Int32 → Int32 → Int32 → Int32 → Mm → Prop} (hk_125 : ∀ (x0 : Nat) (x1 : Int32) (x3 : Int32) (x4 : Int32) (x7 : Int32) (x8 : Int32) (u : Mm) (H : Heap) (locs : List Loc) (ls : Array Slot), k_125 x0 x1 x3 x4 x7 x8 u → lv_has ls 9 [(0, .ref x0), (1, .int x1), (3, .int x3), (4, .int x4), (7, .int x7), (8, .int x8)] → Hp G u s H locs → W p l e rm_X12_tellEchoes s m args below meth c H locs 0 0 (MQ below (Ev G Q) args s 0 0 (ag G)) (F0 m 125 ls [])) {x0 : Nat} {x1 : Int32} {x3 : Int32} {x4 : Int32} {x7 : Int32} {x8 : Int32} {u : Mm} {H : Heap} {locs : List Loc} {ls : Array Slot} (h : V_X12_tellEchoes_125_B G Q k_108 k_125 x0 x1 x3 x4 x7 x8 u) (hl : lv_has ls 9 [(0, .ref x0), (1, .int x1), (3, .int x3), (4, .int x4), (7, .int x7), (8, .int x8)]) (hP : Hp G u s H locs) : W p l e rm_X12_tellEchoes s m args below meth c H locs 0 0 (MQ below (Ev G Q) args s 0 0 (ag G)) (F0 m 125 ls []) := by
  have hx := C.1
  have hb := C.2.1
  unfold V_X12_tellEchoes_125_B at h
  refine lv_iload hx hb dX12_tellEchoes_125 (lv_at hl 5 rfl) ?_
  refine lv_aload_n hx hb dX12_tellEchoes_127 rfl (lv_at hl 0 rfl) ?_
  obtain ⟨g1, h⟩ := h
  obtain ⟨g2, h⟩ := h
  refine q_getR C hP (k := 2) (lay_X12 C.hA) rfl (by decide) g1 g2 (fl_X12_27 C.hA) dX12_tellEchoes_128 ?_
  refine lv_iload_n hx hb dX12_tellEchoes_131 rfl (lv_at hl 1 rfl) ?_
  obtain ⟨g3, h⟩ := h
  obtain ⟨g4, h⟩ := h
  refine q_iald C hP g3 g4 dX12_tellEchoes_132 ?_
  refine lv_icmp_ge (tgt := 154) hx hb dX12_tellEchoes_133 (by decide) (fun c133 => ?_) (fun c133 => ?_)
  · have h := h.1 c133
    obtain ⟨x7_154, ex7_154⟩ : ∃ y : Int32, y = x7 + (1 : Int32) := ⟨_, rfl⟩
    have h := h x7_154 ex7_154
    refine lv_iinc (v := x7_154) (lv' := [(7, .int x7_154), (0, .ref x0), (1, .int x1), (3, .int x3), (4, .int x4), (8, .int x8)]) hx hb dX12_tellEchoes_154 hl (k := 4) rfl (by rw [ex7_154]; rfl) (by decide) rfl (fun ls hl => ?_)
    refine lv_goto (tgt := 108) hx hb dX12_tellEchoes_157 (by decide) ?_
    exact hk_108 x0 x1 x3 x4 x7_154 u _ _ _ h (lv_sub hl [1, 2, 3, 4, 0] rfl) hP
  · have h := h.2 c133
    refine lv_aload_n hx hb dX12_tellEchoes_136 rfl (lv_at hl 0 rfl) ?_
    refine lv_iload_n hx hb dX12_tellEchoes_137 rfl (lv_at hl 1 rfl) ?_
    refine lv_iload hx hb dX12_tellEchoes_138 (lv_at hl 4 rfl) ?_
    refine lv_iload hx hb dX12_tellEchoes_140 (lv_at hl 5 rfl) ?_
    refine lv_iload_n hx hb dX12_tellEchoes_142 rfl (lv_at hl 2 rfl) ?_
    refine lv_iload hx hb dX12_tellEchoes_143 (lv_at hl 3 rfl) ?_
    refine q_calv (q_runV C hP (c_X12_secondOf h) (cd_X12_secondOf C.hA) (ini_X12 C.hA) (ml_X12_307 C.hA) (im_X12_secondOf C.hA) (sl_X12_secondOf C.hA) g1 (by decide) rfl hd_X12_secondOf ⟨rfl, rfl⟩ ⟨Nat.le_of_ble_eq_true rfl, Nat.le_of_ble_eq_true rfl⟩ ⟨Nat.le_of_ble_eq_true rfl, Nat.le_of_ble_eq_true rfl⟩ hl.1 rfl (Nat.le_of_ble_eq_true rfl) dX12_tellEchoes_145) hP (fun u_145 H locs h hP => ?_)
    obtain ⟨x8_148, ex8_148⟩ : ∃ y : Int32, y = x8 + (1 : Int32) := ⟨_, rfl⟩
    have h := h x8_148 ex8_148
    refine lv_iinc (v := x8_148) (lv' := [(8, .int x8_148), (0, .ref x0), (1, .int x1), (3, .int x3), (4, .int x4), (7, .int x7)]) hx hb dX12_tellEchoes_148 hl (k := 5) rfl (by rw [ex8_148]; rfl) (by decide) rfl (fun ls hl => ?_)
    refine lv_goto (tgt := 125) hx hb dX12_tellEchoes_151 (by decide) ?_
    exact hk_125 x0 x1 x3 x4 x7 x8_148 u_145 _ _ _ h (lv_sub hl [1, 2, 3, 4, 5, 0] rfl) hP
theorem l_X12_tellEchoes_125 {G : Gx} {Q : Mm → Prop} {p : Program} {l : Launch} {e : Env} {s : State} {m : MethodId} {args : Array Value} {below : List Frame} {meth : Method} {c : Code} (C : Cx G p s m c cX12_tellEchoes RX12 9) (hr : meth.sig.returnType = none) (hlk : meth.locks = false) {k_108 : Nat → Int32 → Int32 → Int32 → Int32 → Mm → Prop} (hk_108 : ∀ (x0 : Nat) (x1 : Int32) (x3 : Int32) (x4 : Int32) (x7 : Int32) (u : Mm) (H : Heap) (locs : List Loc) (ls : Array Slot), k_108 x0 x1 x3 x4 x7 u → lv_has ls 9 [(0, .ref x0), (1, .int x1), (3, .int x3), (4, .int x4), (7, .int x7)] → Hp G u s H locs → W p l e rm_X12_tellEchoes s m args below meth c H locs 0 0 (MQ below (Ev G Q) args s 0 0 (ag G)) (F0 m 108 ls [])) : ∀ (n : Nat) (x0 : Nat) (x1 : Int32) (x3 : Int32) (x4 : Int32) (x7 : Int32) (x8 : Int32) (u : Mm) (H : Heap) (locs : List Loc) (ls : Array Slot), V_X12_tellEchoes_125 G Q k_108 n x0 x1 x3 x4 x7 x8 u → lv_has ls 9 [(0, .ref x0), (1, .int x1), (3, .int x3), (4, .int x4), (7, .int x7), (8, .int x8)] → Hp G u s H locs → W p l e rm_X12_tellEchoes s m args below meth c H locs 0 0 (MQ below (Ev G Q) args s 0 0 (ag G)) (F0 m 125 ls []) := by
  intro n
  induction n with
  | zero => intro x0 x1 x3 x4 x7 x8 u H locs ls h; exact h.elim
  | succ n ih => intro x0 x1 x3 x4 x7 x8 u H locs ls h hl hP; exact b_X12_tellEchoes_125 C hr hlk hk_108 ih h hl hP
set_option maxHeartbeats 4000000 in
set_option maxRecDepth 100000 in
theorem b_X12_tellEchoes_108 {G : Gx} {Q : Mm → Prop} {p : Program} {l : Launch} {e : Env} {s : State} {m : MethodId} {args : Array Value} {below : List Frame} {meth : Method} {c : Code} (C : Cx G p s m c cX12_tellEchoes RX12 9) (hr : meth.sig.returnType = none) (hlk : meth.locks = false) {k_108 : Nat → Int32 → Int32 → Int32 → Int32 → Mm → Prop} (hk_108 : ∀ (x0 : Nat) (x1 : Int32) (x3 : Int32) (x4 : Int32) (x7 : Int32) (u : Mm) (H : Heap) (locs : List Loc) (ls : Array Slot), k_108 x0 x1 x3 x4 x7 u → lv_has ls 9 [(0, .ref x0), (1, .int x1), (3, .int x3), (4, .int x4), (7, .int x7)] → Hp G u s H locs → W p l e rm_X12_tellEchoes s m args below meth c H locs 0 0 (MQ below (Ev G Q) args s 0 0 (ag G)) (F0 m 108 ls [])) {x0 : Nat} {x1 : Int32} {x3 : Int32} {x4 : Int32} {x7 : Int32} {u : Mm} {H : Heap} {locs : List Loc} {ls : Array Slot} (h : V_X12_tellEchoes_108_B G Q k_108 x0 x1 x3 x4 x7 u) (hl : lv_has ls 9 [(0, .ref x0), (1, .int x1), (3, .int x3), (4, .int x4), (7, .int x7)]) (hP : Hp G u s H locs) : W p l e rm_X12_tellEchoes s m args below meth c H locs 0 0 (MQ below (Ev G Q) args s 0 0 (ag G)) (F0 m 108 ls []) := by
  have hx := C.1
  have hb := C.2.1
  unfold V_X12_tellEchoes_108_B at h
  refine lv_iload hx hb dX12_tellEchoes_108 (lv_at hl 4 rfl) ?_
  refine lv_aload_n hx hb dX12_tellEchoes_110 rfl (lv_at hl 0 rfl) ?_
  obtain ⟨g1, h⟩ := h
  obtain ⟨g2, h⟩ := h
  refine q_getR C hP (k := 2) (lay_X12 C.hA) rfl (by decide) g1 g2 (fl_X12_27 C.hA) dX12_tellEchoes_111 ?_
  refine lv_iload_n hx hb dX12_tellEchoes_114 rfl (lv_at hl 1 rfl) ?_
  obtain ⟨g3, h⟩ := h
  obtain ⟨g4, h⟩ := h
  refine q_iald C hP g3 g4 dX12_tellEchoes_115 ?_
  refine lv_icmp_ge (tgt := 160) hx hb dX12_tellEchoes_116 (by decide) (fun c116 => ?_) (fun c116 => ?_)
  · have h := h.1 c116
    exact q_vret C hr hlk hP h (by decide) (by decide) dX12_tellEchoes_160
  · have h := h.2 c116
    refine lv_iload hx hb dX12_tellEchoes_119 (lv_at hl 4 rfl) ?_
    refine lv_iconst (v := (1 : Int32)) hx hb dX12_tellEchoes_121 (by decide) ?_
    refine lv_iadd hx hb dX12_tellEchoes_122 ?_
    refine lv_topi (fun x8_123 ex8_123 => ?_)
    have h := h x8_123 ex8_123
    refine lv_istore (lv' := [(8, .int x8_123), (0, .ref x0), (1, .int x1), (3, .int x3), (4, .int x4), (7, .int x7)]) hx hb dX12_tellEchoes_123 hl (by decide) rfl (fun ls hl => ?_)
    obtain ⟨n, h⟩ := h
    exact l_X12_tellEchoes_125 C hr hlk hk_108 n x0 x1 x3 x4 x7 x8_123 u _ _ _ h (lv_sub hl [1, 2, 3, 4, 5, 0] rfl) hP
theorem l_X12_tellEchoes_108 {G : Gx} {Q : Mm → Prop} {p : Program} {l : Launch} {e : Env} {s : State} {m : MethodId} {args : Array Value} {below : List Frame} {meth : Method} {c : Code} (C : Cx G p s m c cX12_tellEchoes RX12 9) (hr : meth.sig.returnType = none) (hlk : meth.locks = false) : ∀ (n : Nat) (x0 : Nat) (x1 : Int32) (x3 : Int32) (x4 : Int32) (x7 : Int32) (u : Mm) (H : Heap) (locs : List Loc) (ls : Array Slot), V_X12_tellEchoes_108 G Q n x0 x1 x3 x4 x7 u → lv_has ls 9 [(0, .ref x0), (1, .int x1), (3, .int x3), (4, .int x4), (7, .int x7)] → Hp G u s H locs → W p l e rm_X12_tellEchoes s m args below meth c H locs 0 0 (MQ below (Ev G Q) args s 0 0 (ag G)) (F0 m 108 ls []) := by
  intro n
  induction n with
  | zero => intro x0 x1 x3 x4 x7 u H locs ls h; exact h.elim
  | succ n ih => intro x0 x1 x3 x4 x7 u H locs ls h hl hP; exact b_X12_tellEchoes_108 C hr hlk ih h hl hP
set_option maxHeartbeats 4000000 in
set_option maxRecDepth 100000 in
theorem b_X12_tellEchoes_73 {G : Gx} {Q : Mm → Prop} {p : Program} {l : Launch} {e : Env} {s : State} {m : MethodId} {args : Array Value} {below : List Frame} {meth : Method} {c : Code} (C : Cx G p s m c cX12_tellEchoes RX12 9) (hr : meth.sig.returnType = none) (hlk : meth.locks = false) {k_73 : Nat → Int32 → Int32 → Int32 → Int32 → Int32 → Int32 → Int32 → Mm → Prop} (hk_73 : ∀ (x0 : Nat) (x1 : Int32) (x2 : Int32) (x3 : Int32) (x4 : Int32) (x5 : Int32) (x6 : Int32) (x7 : Int32) (u : Mm) (H : Heap) (locs : List Loc) (ls : Array Slot), k_73 x0 x1 x2 x3 x4 x5 x6 x7 u → lv_has ls 9 [(0, .ref x0), (1, .int x1), (2, .int x2), (3, .int x3), (4, .int x4), (5, .int x5), (6, .int x6), (7, .int x7)] → Hp G u s H locs → W p l e rm_X12_tellEchoes s m args below meth c H locs 0 0 (MQ below (Ev G Q) args s 0 0 (ag G)) (F0 m 73 ls [])) {x0 : Nat} {x1 : Int32} {x2 : Int32} {x3 : Int32} {x4 : Int32} {x5 : Int32} {x6 : Int32} {x7 : Int32} {u : Mm} {H : Heap} {locs : List Loc} {ls : Array Slot} (h : V_X12_tellEchoes_73_B G Q k_73 x0 x1 x2 x3 x4 x5 x6 x7 u) (hl : lv_has ls 9 [(0, .ref x0), (1, .int x1), (2, .int x2), (3, .int x3), (4, .int x4), (5, .int x5), (6, .int x6), (7, .int x7)]) (hP : Hp G u s H locs) : W p l e rm_X12_tellEchoes s m args below meth c H locs 0 0 (MQ below (Ev G Q) args s 0 0 (ag G)) (F0 m 73 ls []) := by
  have hx := C.1
  have hb := C.2.1
  unfold V_X12_tellEchoes_73_B at h
  refine lv_iload hx hb dX12_tellEchoes_73 (lv_at hl 7 rfl) ?_
  refine lv_aload_n hx hb dX12_tellEchoes_75 rfl (lv_at hl 0 rfl) ?_
  obtain ⟨g1, h⟩ := h
  obtain ⟨g2, h⟩ := h
  refine q_getR C hP (k := 3) (lay_X12 C.hA) rfl (by decide) g1 g2 (fl_X12_31 C.hA) dX12_tellEchoes_76 ?_
  refine lv_iload_n hx hb dX12_tellEchoes_79 rfl (lv_at hl 1 rfl) ?_
  obtain ⟨g3, h⟩ := h
  obtain ⟨g4, h⟩ := h
  refine q_iald C hP g3 g4 dX12_tellEchoes_80 ?_
  refine lv_icmp_ge (tgt := 105) hx hb dX12_tellEchoes_81 (by decide) (fun c81 => ?_) (fun c81 => ?_)
  · have h := h.1 c81
    refine lv_iconst (v := (0 : Int32)) hx hb dX12_tellEchoes_105 (by decide) ?_
    refine lv_istore (lv' := [(7, .int (0 : Int32)), (0, .ref x0), (1, .int x1), (2, .int x2), (3, .int x3), (4, .int x4), (5, .int x5), (6, .int x6)]) hx hb dX12_tellEchoes_106 hl (by decide) rfl (fun ls hl => ?_)
    obtain ⟨n, h⟩ := h
    exact l_X12_tellEchoes_108 C hr hlk n x0 x1 x3 x4 (0 : Int32) u _ _ _ h (lv_sub hl [1, 2, 4, 5, 0] rfl) hP
  · have h := h.2 c81
    refine lv_aload_n hx hb dX12_tellEchoes_84 rfl (lv_at hl 0 rfl) ?_
    refine lv_iload_n hx hb dX12_tellEchoes_85 rfl (lv_at hl 1 rfl) ?_
    refine lv_iload_n hx hb dX12_tellEchoes_86 rfl (lv_at hl 2 rfl) ?_
    refine lv_iload hx hb dX12_tellEchoes_87 (lv_at hl 7 rfl) ?_
    refine lv_iload_n hx hb dX12_tellEchoes_89 rfl (lv_at hl 3 rfl) ?_
    refine lv_iload hx hb dX12_tellEchoes_90 (lv_at hl 4 rfl) ?_
    refine lv_iload hx hb dX12_tellEchoes_92 (lv_at hl 5 rfl) ?_
    refine lv_iload hx hb dX12_tellEchoes_94 (lv_at hl 6 rfl) ?_
    refine q_calv (q_runV C hP (c_X12_barnOf h) (cd_X12_barnOf C.hA) (ini_X12 C.hA) (ml_X12_303 C.hA) (im_X12_barnOf C.hA) (sl_X12_barnOf C.hA) g1 (by decide) rfl hd_X12_barnOf ⟨rfl, rfl⟩ ⟨Nat.le_of_ble_eq_true rfl, Nat.le_of_ble_eq_true rfl⟩ ⟨Nat.le_of_ble_eq_true rfl, Nat.le_of_ble_eq_true rfl⟩ hl.1 rfl (Nat.le_of_ble_eq_true rfl) dX12_tellEchoes_96) hP (fun u_96 H locs h hP => ?_)
    obtain ⟨x7_99, ex7_99⟩ : ∃ y : Int32, y = x7 + (1 : Int32) := ⟨_, rfl⟩
    have h := h x7_99 ex7_99
    refine lv_iinc (v := x7_99) (lv' := [(7, .int x7_99), (0, .ref x0), (1, .int x1), (2, .int x2), (3, .int x3), (4, .int x4), (5, .int x5), (6, .int x6)]) hx hb dX12_tellEchoes_99 hl (k := 7) rfl (by rw [ex7_99]; rfl) (by decide) rfl (fun ls hl => ?_)
    refine lv_goto (tgt := 73) hx hb dX12_tellEchoes_102 (by decide) ?_
    exact hk_73 x0 x1 x2 x3 x4 x5 x6 x7_99 u_96 _ _ _ h (lv_sub hl [1, 2, 3, 4, 5, 6, 7, 0] rfl) hP
theorem l_X12_tellEchoes_73 {G : Gx} {Q : Mm → Prop} {p : Program} {l : Launch} {e : Env} {s : State} {m : MethodId} {args : Array Value} {below : List Frame} {meth : Method} {c : Code} (C : Cx G p s m c cX12_tellEchoes RX12 9) (hr : meth.sig.returnType = none) (hlk : meth.locks = false) : ∀ (n : Nat) (x0 : Nat) (x1 : Int32) (x2 : Int32) (x3 : Int32) (x4 : Int32) (x5 : Int32) (x6 : Int32) (x7 : Int32) (u : Mm) (H : Heap) (locs : List Loc) (ls : Array Slot), V_X12_tellEchoes_73 G Q n x0 x1 x2 x3 x4 x5 x6 x7 u → lv_has ls 9 [(0, .ref x0), (1, .int x1), (2, .int x2), (3, .int x3), (4, .int x4), (5, .int x5), (6, .int x6), (7, .int x7)] → Hp G u s H locs → W p l e rm_X12_tellEchoes s m args below meth c H locs 0 0 (MQ below (Ev G Q) args s 0 0 (ag G)) (F0 m 73 ls []) := by
  intro n
  induction n with
  | zero => intro x0 x1 x2 x3 x4 x5 x6 x7 u H locs ls h; exact h.elim
  | succ n ih => intro x0 x1 x2 x3 x4 x5 x6 x7 u H locs ls h hl hP; exact b_X12_tellEchoes_73 C hr hlk ih h hl hP
set_option maxHeartbeats 4000000 in
set_option maxRecDepth 100000 in
theorem b_X12_tellEchoes_64 {G : Gx} {Q : Mm → Prop} {p : Program} {l : Launch} {e : Env} {s : State} {m : MethodId} {args : Array Value} {below : List Frame} {meth : Method} {c : Code} (C : Cx G p s m c cX12_tellEchoes RX12 9) (hr : meth.sig.returnType = none) (hlk : meth.locks = false) {k_27 : Nat → Int32 → Int32 → Int32 → Int32 → Int32 → Int32 → Int32 → Mm → Prop} (hk_27 : ∀ (x0 : Nat) (x1 : Int32) (x2 : Int32) (x3 : Int32) (x4 : Int32) (x5 : Int32) (x6 : Int32) (x7 : Int32) (u : Mm) (H : Heap) (locs : List Loc) (ls : Array Slot), k_27 x0 x1 x2 x3 x4 x5 x6 x7 u → lv_has ls 9 [(0, .ref x0), (1, .int x1), (2, .int x2), (3, .int x3), (4, .int x4), (5, .int x5), (6, .int x6), (7, .int x7)] → Hp G u s H locs → W p l e rm_X12_tellEchoes s m args below meth c H locs 0 0 (MQ below (Ev G Q) args s 0 0 (ag G)) (F0 m 27 ls [])) {x0 : Nat} {x1 : Int32} {x2 : Int32} {x3 : Int32} {x4 : Int32} {x5 : Int32} {x6 : Int32} {x7 : Int32} {u : Mm} {H : Heap} {locs : List Loc} {ls : Array Slot} (h : V_X12_tellEchoes_64 G Q k_27 x0 x1 x2 x3 x4 x5 x6 x7 u) (hl : lv_has ls 9 [(0, .ref x0), (1, .int x1), (2, .int x2), (3, .int x3), (4, .int x4), (5, .int x5), (6, .int x6), (7, .int x7)]) (hP : Hp G u s H locs) : W p l e rm_X12_tellEchoes s m args below meth c H locs 0 0 (MQ below (Ev G Q) args s 0 0 (ag G)) (F0 m 64 ls []) := by
  have hx := C.1
  have hb := C.2.1
  unfold V_X12_tellEchoes_64 at h
  obtain ⟨x7_64, ex7_64⟩ : ∃ y : Int32, y = x7 + (1 : Int32) := ⟨_, rfl⟩
  have h := h x7_64 ex7_64
  refine lv_iinc (v := x7_64) (lv' := [(7, .int x7_64), (0, .ref x0), (1, .int x1), (2, .int x2), (3, .int x3), (4, .int x4), (5, .int x5), (6, .int x6)]) hx hb dX12_tellEchoes_64 hl (k := 7) rfl (by rw [ex7_64]; rfl) (by decide) rfl (fun ls hl => ?_)
  refine lv_goto (tgt := 27) hx hb dX12_tellEchoes_67 (by decide) ?_
  exact hk_27 x0 x1 x2 x3 x4 x5 x6 x7_64 u _ _ _ h (lv_sub hl [1, 2, 3, 4, 5, 6, 7, 0] rfl) hP
set_option maxHeartbeats 4000000 in
set_option maxRecDepth 100000 in
theorem b_X12_tellEchoes_27 {G : Gx} {Q : Mm → Prop} {p : Program} {l : Launch} {e : Env} {s : State} {m : MethodId} {args : Array Value} {below : List Frame} {meth : Method} {c : Code} (C : Cx G p s m c cX12_tellEchoes RX12 9) (hr : meth.sig.returnType = none) (hlk : meth.locks = false) {k_27 : Nat → Int32 → Int32 → Int32 → Int32 → Int32 → Int32 → Int32 → Mm → Prop} (hk_27 : ∀ (x0 : Nat) (x1 : Int32) (x2 : Int32) (x3 : Int32) (x4 : Int32) (x5 : Int32) (x6 : Int32) (x7 : Int32) (u : Mm) (H : Heap) (locs : List Loc) (ls : Array Slot), k_27 x0 x1 x2 x3 x4 x5 x6 x7 u → lv_has ls 9 [(0, .ref x0), (1, .int x1), (2, .int x2), (3, .int x3), (4, .int x4), (5, .int x5), (6, .int x6), (7, .int x7)] → Hp G u s H locs → W p l e rm_X12_tellEchoes s m args below meth c H locs 0 0 (MQ below (Ev G Q) args s 0 0 (ag G)) (F0 m 27 ls [])) {x0 : Nat} {x1 : Int32} {x2 : Int32} {x3 : Int32} {x4 : Int32} {x5 : Int32} {x6 : Int32} {x7 : Int32} {u : Mm} {H : Heap} {locs : List Loc} {ls : Array Slot} (h : V_X12_tellEchoes_27_B G Q k_27 x0 x1 x2 x3 x4 x5 x6 x7 u) (hl : lv_has ls 9 [(0, .ref x0), (1, .int x1), (2, .int x2), (3, .int x3), (4, .int x4), (5, .int x5), (6, .int x6), (7, .int x7)]) (hP : Hp G u s H locs) : W p l e rm_X12_tellEchoes s m args below meth c H locs 0 0 (MQ below (Ev G Q) args s 0 0 (ag G)) (F0 m 27 ls []) := by
  have hx := C.1
  have hb := C.2.1
  unfold V_X12_tellEchoes_27_B at h
  refine lv_iload hx hb dX12_tellEchoes_27 (lv_at hl 7 rfl) ?_
  refine lv_aload_n hx hb dX12_tellEchoes_29 rfl (lv_at hl 0 rfl) ?_
  obtain ⟨g1, h⟩ := h
  obtain ⟨g2, h⟩ := h
  refine q_getR C hP (k := 2) (lay_X12 C.hA) rfl (by decide) g1 g2 (fl_X12_27 C.hA) dX12_tellEchoes_30 ?_
  refine lv_iload_n hx hb dX12_tellEchoes_33 rfl (lv_at hl 1 rfl) ?_
  obtain ⟨g3, h⟩ := h
  obtain ⟨g4, h⟩ := h
  refine q_iald C hP g3 g4 dX12_tellEchoes_34 ?_
  refine lv_icmp_ge (tgt := 70) hx hb dX12_tellEchoes_35 (by decide) (fun c35 => ?_) (fun c35 => ?_)
  · have h := h.1 c35
    refine lv_iconst (v := (0 : Int32)) hx hb dX12_tellEchoes_70 (by decide) ?_
    refine lv_istore (lv' := [(7, .int (0 : Int32)), (0, .ref x0), (1, .int x1), (2, .int x2), (3, .int x3), (4, .int x4), (5, .int x5), (6, .int x6)]) hx hb dX12_tellEchoes_71 hl (by decide) rfl (fun ls hl => ?_)
    obtain ⟨n, h⟩ := h
    exact l_X12_tellEchoes_73 C hr hlk n x0 x1 x2 x3 x4 x5 x6 (0 : Int32) u _ _ _ h (lv_sub hl [1, 2, 3, 4, 5, 6, 7, 0] rfl) hP
  · have h := h.2 c35
    refine lv_aload_n hx hb dX12_tellEchoes_38 rfl (lv_at hl 0 rfl) ?_
    refine lv_iload_n hx hb dX12_tellEchoes_39 rfl (lv_at hl 1 rfl) ?_
    refine lv_iload_n hx hb dX12_tellEchoes_40 rfl (lv_at hl 2 rfl) ?_
    refine lv_iload hx hb dX12_tellEchoes_41 (lv_at hl 7 rfl) ?_
    refine lv_iload_n hx hb dX12_tellEchoes_43 rfl (lv_at hl 3 rfl) ?_
    refine lv_iload hx hb dX12_tellEchoes_44 (lv_at hl 4 rfl) ?_
    refine q_cali (q_runV C hP (c_X12_isOut h) (cd_X12_isOut C.hA) (ini_X12 C.hA) (ml_X12_295 C.hA) (im_X12_isOut C.hA) (sl_X12_isOut C.hA) g1 (by decide) rfl hd_X12_isOut ⟨rfl, rfl⟩ ⟨Nat.le_of_ble_eq_true rfl, Nat.le_of_ble_eq_true rfl⟩ ⟨Nat.le_of_ble_eq_true rfl, Nat.le_of_ble_eq_true rfl⟩ hl.1 rfl (Nat.le_of_ble_eq_true rfl) dX12_tellEchoes_46) hP (fun v_46 u_46 H locs h hP => ?_)
    refine lv_if_ne (tgt := 64) hx hb dX12_tellEchoes_49 (by decide) (fun c49 => ?_) (fun c49 => ?_)
    · have h := h.2 c49
      exact b_X12_tellEchoes_64 C hr hlk hk_27 h (lv_sub hl [0, 1, 2, 3, 4, 5, 6, 7] rfl) hP
    · have h := h.1 c49
      refine lv_aload_n hx hb dX12_tellEchoes_52 rfl (lv_at hl 0 rfl) ?_
      refine lv_iload_n hx hb dX12_tellEchoes_53 rfl (lv_at hl 1 rfl) ?_
      refine lv_iload hx hb dX12_tellEchoes_54 (lv_at hl 7 rfl) ?_
      refine lv_iload_n hx hb dX12_tellEchoes_56 rfl (lv_at hl 3 rfl) ?_
      refine lv_iload hx hb dX12_tellEchoes_57 (lv_at hl 4 rfl) ?_
      refine lv_iload hx hb dX12_tellEchoes_59 (lv_at hl 6 rfl) ?_
      refine q_calv (q_runV C hP (c_X12_firstOf h) (cd_X12_firstOf C.hA) (ini_X12 C.hA) (ml_X12_299 C.hA) (im_X12_firstOf C.hA) (sl_X12_firstOf C.hA) g1 (by decide) rfl hd_X12_firstOf ⟨rfl, rfl⟩ ⟨Nat.le_of_ble_eq_true rfl, Nat.le_of_ble_eq_true rfl⟩ ⟨Nat.le_of_ble_eq_true rfl, Nat.le_of_ble_eq_true rfl⟩ hl.1 rfl (Nat.le_of_ble_eq_true rfl) dX12_tellEchoes_61) hP (fun u_61 H locs h hP => ?_)
      exact b_X12_tellEchoes_64 C hr hlk hk_27 h (lv_sub hl [0, 1, 2, 3, 4, 5, 6, 7] rfl) hP
theorem l_X12_tellEchoes_27 {G : Gx} {Q : Mm → Prop} {p : Program} {l : Launch} {e : Env} {s : State} {m : MethodId} {args : Array Value} {below : List Frame} {meth : Method} {c : Code} (C : Cx G p s m c cX12_tellEchoes RX12 9) (hr : meth.sig.returnType = none) (hlk : meth.locks = false) : ∀ (n : Nat) (x0 : Nat) (x1 : Int32) (x2 : Int32) (x3 : Int32) (x4 : Int32) (x5 : Int32) (x6 : Int32) (x7 : Int32) (u : Mm) (H : Heap) (locs : List Loc) (ls : Array Slot), V_X12_tellEchoes_27 G Q n x0 x1 x2 x3 x4 x5 x6 x7 u → lv_has ls 9 [(0, .ref x0), (1, .int x1), (2, .int x2), (3, .int x3), (4, .int x4), (5, .int x5), (6, .int x6), (7, .int x7)] → Hp G u s H locs → W p l e rm_X12_tellEchoes s m args below meth c H locs 0 0 (MQ below (Ev G Q) args s 0 0 (ag G)) (F0 m 27 ls []) := by
  intro n
  induction n with
  | zero => intro x0 x1 x2 x3 x4 x5 x6 x7 u H locs ls h; exact h.elim
  | succ n ih => intro x0 x1 x2 x3 x4 x5 x6 x7 u H locs ls h hl hP; exact b_X12_tellEchoes_27 C hr hlk ih h hl hP
set_option maxHeartbeats 4000000 in
set_option maxRecDepth 100000 in
theorem b_X12_tellEchoes_3 {G : Gx} {Q : Mm → Prop} {p : Program} {l : Launch} {e : Env} {s : State} {m : MethodId} {args : Array Value} {below : List Frame} {meth : Method} {c : Code} (C : Cx G p s m c cX12_tellEchoes RX12 9) (hr : meth.sig.returnType = none) (hlk : meth.locks = false) {k_3 : Nat → Int32 → Int32 → Int32 → Int32 → Int32 → Int32 → Int32 → Mm → Prop} (hk_3 : ∀ (x0 : Nat) (x1 : Int32) (x2 : Int32) (x3 : Int32) (x4 : Int32) (x5 : Int32) (x6 : Int32) (x7 : Int32) (u : Mm) (H : Heap) (locs : List Loc) (ls : Array Slot), k_3 x0 x1 x2 x3 x4 x5 x6 x7 u → lv_has ls 9 [(0, .ref x0), (1, .int x1), (2, .int x2), (3, .int x3), (4, .int x4), (5, .int x5), (6, .int x6), (7, .int x7)] → Hp G u s H locs → W p l e rm_X12_tellEchoes s m args below meth c H locs 0 0 (MQ below (Ev G Q) args s 0 0 (ag G)) (F0 m 3 ls [])) {x0 : Nat} {x1 : Int32} {x2 : Int32} {x3 : Int32} {x4 : Int32} {x5 : Int32} {x6 : Int32} {x7 : Int32} {u : Mm} {H : Heap} {locs : List Loc} {ls : Array Slot} (h : V_X12_tellEchoes_3_B G Q k_3 x0 x1 x2 x3 x4 x5 x6 x7 u) (hl : lv_has ls 9 [(0, .ref x0), (1, .int x1), (2, .int x2), (3, .int x3), (4, .int x4), (5, .int x5), (6, .int x6), (7, .int x7)]) (hP : Hp G u s H locs) : W p l e rm_X12_tellEchoes s m args below meth c H locs 0 0 (MQ below (Ev G Q) args s 0 0 (ag G)) (F0 m 3 ls []) := by
  have hx := C.1
  have hb := C.2.1
  unfold V_X12_tellEchoes_3_B at h
  refine lv_iload hx hb dX12_tellEchoes_3 (lv_at hl 7 rfl) ?_
  refine lv_bipush (v := (80 : Int32)) hx hb dX12_tellEchoes_5 (by decide) ?_
  refine lv_icmp_ge (tgt := 24) hx hb dX12_tellEchoes_7 (by decide) (fun c7 => ?_) (fun c7 => ?_)
  · have h := h.1 c7
    refine lv_iconst (v := (0 : Int32)) hx hb dX12_tellEchoes_24 (by decide) ?_
    refine lv_istore (lv' := [(7, .int (0 : Int32)), (0, .ref x0), (1, .int x1), (2, .int x2), (3, .int x3), (4, .int x4), (5, .int x5), (6, .int x6)]) hx hb dX12_tellEchoes_25 hl (by decide) rfl (fun ls hl => ?_)
    obtain ⟨n, h⟩ := h
    exact l_X12_tellEchoes_27 C hr hlk n x0 x1 x2 x3 x4 x5 x6 (0 : Int32) u _ _ _ h (lv_sub hl [1, 2, 3, 4, 5, 6, 7, 0] rfl) hP
  · have h := h.2 c7
    refine lv_aload_n hx hb dX12_tellEchoes_10 rfl (lv_at hl 0 rfl) ?_
    obtain ⟨g1, h⟩ := h
    obtain ⟨g2, h⟩ := h
    refine q_getR C hP (k := 22) (lay_X12 C.hA) rfl (by decide) g1 g2 (fl_X12_58 C.hA) dX12_tellEchoes_11 ?_
    refine lv_iload hx hb dX12_tellEchoes_14 (lv_at hl 7 rfl) ?_
    refine lv_iconst (v := (-1 : Int32)) hx hb dX12_tellEchoes_16 (by decide) ?_
    obtain ⟨g3, h⟩ := h
    obtain ⟨g4, h⟩ := h
    refine q_iast C hP g3 g4 dX12_tellEchoes_17 (fun H locs hP => ?_)
    obtain ⟨u_17, eu_17, hP⟩ := Hp.nm hP
    have h := h u_17 eu_17
    obtain ⟨x7_18, ex7_18⟩ : ∃ y : Int32, y = x7 + (1 : Int32) := ⟨_, rfl⟩
    have h := h x7_18 ex7_18
    refine lv_iinc (v := x7_18) (lv' := [(7, .int x7_18), (0, .ref x0), (1, .int x1), (2, .int x2), (3, .int x3), (4, .int x4), (5, .int x5), (6, .int x6)]) hx hb dX12_tellEchoes_18 hl (k := 7) rfl (by rw [ex7_18]; rfl) (by decide) rfl (fun ls hl => ?_)
    refine lv_goto (tgt := 3) hx hb dX12_tellEchoes_21 (by decide) ?_
    exact hk_3 x0 x1 x2 x3 x4 x5 x6 x7_18 u_17 _ _ _ h (lv_sub hl [1, 2, 3, 4, 5, 6, 7, 0] rfl) hP
theorem l_X12_tellEchoes_3 {G : Gx} {Q : Mm → Prop} {p : Program} {l : Launch} {e : Env} {s : State} {m : MethodId} {args : Array Value} {below : List Frame} {meth : Method} {c : Code} (C : Cx G p s m c cX12_tellEchoes RX12 9) (hr : meth.sig.returnType = none) (hlk : meth.locks = false) : ∀ (n : Nat) (x0 : Nat) (x1 : Int32) (x2 : Int32) (x3 : Int32) (x4 : Int32) (x5 : Int32) (x6 : Int32) (x7 : Int32) (u : Mm) (H : Heap) (locs : List Loc) (ls : Array Slot), V_X12_tellEchoes_3 G Q n x0 x1 x2 x3 x4 x5 x6 x7 u → lv_has ls 9 [(0, .ref x0), (1, .int x1), (2, .int x2), (3, .int x3), (4, .int x4), (5, .int x5), (6, .int x6), (7, .int x7)] → Hp G u s H locs → W p l e rm_X12_tellEchoes s m args below meth c H locs 0 0 (MQ below (Ev G Q) args s 0 0 (ag G)) (F0 m 3 ls []) := by
  intro n
  induction n with
  | zero => intro x0 x1 x2 x3 x4 x5 x6 x7 u H locs ls h; exact h.elim
  | succ n ih => intro x0 x1 x2 x3 x4 x5 x6 x7 u H locs ls h hl hP; exact b_X12_tellEchoes_3 C hr hlk ih h hl hP
set_option maxHeartbeats 4000000 in
set_option maxRecDepth 100000 in
theorem c_X12_tellEchoes {l : Launch} {G : Gx} {p0 : Nat} {p1 : Int32} {p2 : Int32} {p3 : Int32} {p4 : Int32} {p5 : Int32} {p6 : Int32} {u : Mm} {Q : Mm → Prop} (h : V_X12_tellEchoes G p0 p1 p2 p3 p4 p5 p6 u Q) : Met l yX12_tellEchoes [.code yX12_tellEchoes cX12_tellEchoes 9 none] rm_X12_tellEchoes (va_Pc [.ref p0, .int p1, .int p2, .int p3, .int p4, .int p5, .int p6] (Wd G u)) (Ev G Q) 0 0 (ag G) := by
  refine q_met (by decide) (Nat.le_of_ble_eq_true rfl) ?_
  intro p e s m below meth c ls C hr hlk hnm hl hP
  have hl : lv_has ls 9 [(0, .ref p0), (1, .int p1), (2, .int p2), (3, .int p3), (4, .int p4), (5, .int p5), (6, .int p6)] := hl
  generalize ([.ref p0, .int p1, .int p2, .int p3, .int p4, .int p5, .int p6] : List Value).toArray = args
  have hx := C.1
  have hb := C.2.1
  unfold V_X12_tellEchoes at h
  refine lv_iconst (v := (0 : Int32)) hx hb dX12_tellEchoes_0 (by decide) ?_
  refine lv_istore (lv' := [(7, .int (0 : Int32)), (0, .ref p0), (1, .int p1), (2, .int p2), (3, .int p3), (4, .int p4), (5, .int p5), (6, .int p6)]) hx hb dX12_tellEchoes_1 hl (by decide) rfl (fun ls hl => ?_)
  obtain ⟨n, h⟩ := h
  exact l_X12_tellEchoes_3 C hr hlk n p0 p1 p2 p3 p4 p5 p6 (0 : Int32) u _ _ _ h (lv_sub hl [1, 2, 3, 4, 5, 6, 7, 0] rfl) hP
-- X12_root
abbrev rm_X12_root : Room := { frames := 0, cells := 0, slots := 0, locals := 0 }
theorem hd_X12_root : yX12_root.cls ≠ "java/lang/invoke/MethodHandle" ∧ yX12_root.cls ≠ "java/lang/invoke/VarHandle" ∧ (parseMethodDescriptor yX12_root.desc).map (fun d => d.parameters.length) = some 1 := by decide +kernel
def V_X12_root_35 (G : Gx) (Q : Int32 → Mm → Prop) (k_6 : Int32 → Int32 → Int32 → Mm → Prop) (x0 : Int32) (x1 : Int32) (x2 : Int32) (u : Mm) : Prop :=
  k_6 x0 x1 x2 u
def V_X12_root_6_B (G : Gx) (Q : Int32 → Mm → Prop) (k_6 : Int32 → Int32 → Int32 → Mm → Prop) (x0 : Int32) (x1 : Int32) (x2 : Int32) (u : Mm) : Prop :=
  ((x2 ≤ x1 → Q x1 u) ∧ (¬ x2 ≤ x1 → ∀ x3_18 : Int32, x3_18 = (((x1 + x2) + (1 : Int32)) / (2 : Int32)) → ((x0 < (x3_18 * x3_18) → ∀ x2_34 : Int32, x2_34 = (x3_18 - (1 : Int32)) → V_X12_root_35 G Q k_6 x0 x1 x2_34 u) ∧ (¬ x0 < (x3_18 * x3_18) → V_X12_root_35 G Q k_6 x0 x3_18 x2 u))))
def V_X12_root_6 (G : Gx) (Q : Int32 → Mm → Prop) : Nat → (Int32 → Int32 → Int32 → Mm → Prop)
  | 0 => fun _ _ _ _ => False
  | n + 1 => fun x0 x1 x2 u => V_X12_root_6_B G Q (V_X12_root_6 G Q n) x0 x1 x2 u
def V_X12_root (G : Gx) (p0 : Int32) (u : Mm) (Q : Int32 → Mm → Prop) : Prop :=
  ∃ n : Nat, V_X12_root_6 G Q n p0 (0 : Int32) (32767 : Int32) u
set_option maxHeartbeats 4000000 in
set_option maxRecDepth 100000 in
theorem b_X12_root_35 {G : Gx} {Q : Int32 → Mm → Prop} {p : Program} {l : Launch} {e : Env} {s : State} {m : MethodId} {args : Array Value} {below : List Frame} {meth : Method} {c : Code} (C : Cx G p s m c cX12_root RX12 4) (hr : meth.sig.returnType = (some .int)) (hlk : meth.locks = false) {k_6 : Int32 → Int32 → Int32 → Mm → Prop} (hk_6 : ∀ (x0 : Int32) (x1 : Int32) (x2 : Int32) (u : Mm) (H : Heap) (locs : List Loc) (ls : Array Slot), k_6 x0 x1 x2 u → lv_has ls 4 [(0, .int x0), (1, .int x1), (2, .int x2)] → Hp G u s H locs → W p l e rm_X12_root s m args below meth c H locs 0 0 (MQ below (Ei G Q) args s 0 0 (ag G)) (F0 m 6 ls [])) {x0 : Int32} {x1 : Int32} {x2 : Int32} {u : Mm} {H : Heap} {locs : List Loc} {ls : Array Slot} (h : V_X12_root_35 G Q k_6 x0 x1 x2 u) (hl : lv_has ls 4 [(0, .int x0), (1, .int x1), (2, .int x2)]) (hP : Hp G u s H locs) : W p l e rm_X12_root s m args below meth c H locs 0 0 (MQ below (Ei G Q) args s 0 0 (ag G)) (F0 m 35 ls []) := by
  have hx := C.1
  have hb := C.2.1
  unfold V_X12_root_35 at h
  refine lv_goto (tgt := 6) hx hb dX12_root_35 (by decide) ?_
  exact hk_6 x0 x1 x2 u _ _ _ h (lv_sub hl [0, 1, 2] rfl) hP
set_option maxHeartbeats 4000000 in
set_option maxRecDepth 100000 in
theorem b_X12_root_6 {G : Gx} {Q : Int32 → Mm → Prop} {p : Program} {l : Launch} {e : Env} {s : State} {m : MethodId} {args : Array Value} {below : List Frame} {meth : Method} {c : Code} (C : Cx G p s m c cX12_root RX12 4) (hr : meth.sig.returnType = (some .int)) (hlk : meth.locks = false) {k_6 : Int32 → Int32 → Int32 → Mm → Prop} (hk_6 : ∀ (x0 : Int32) (x1 : Int32) (x2 : Int32) (u : Mm) (H : Heap) (locs : List Loc) (ls : Array Slot), k_6 x0 x1 x2 u → lv_has ls 4 [(0, .int x0), (1, .int x1), (2, .int x2)] → Hp G u s H locs → W p l e rm_X12_root s m args below meth c H locs 0 0 (MQ below (Ei G Q) args s 0 0 (ag G)) (F0 m 6 ls [])) {x0 : Int32} {x1 : Int32} {x2 : Int32} {u : Mm} {H : Heap} {locs : List Loc} {ls : Array Slot} (h : V_X12_root_6_B G Q k_6 x0 x1 x2 u) (hl : lv_has ls 4 [(0, .int x0), (1, .int x1), (2, .int x2)]) (hP : Hp G u s H locs) : W p l e rm_X12_root s m args below meth c H locs 0 0 (MQ below (Ei G Q) args s 0 0 (ag G)) (F0 m 6 ls []) := by
  have hx := C.1
  have hb := C.2.1
  unfold V_X12_root_6_B at h
  refine lv_iload_n hx hb dX12_root_6 rfl (lv_at hl 1 rfl) ?_
  refine lv_iload_n hx hb dX12_root_7 rfl (lv_at hl 2 rfl) ?_
  refine lv_icmp_ge (tgt := 38) hx hb dX12_root_8 (by decide) (fun c8 => ?_) (fun c8 => ?_)
  · have h := h.1 c8
    refine lv_iload_n hx hb dX12_root_38 rfl (lv_at hl 1 rfl) ?_
    exact q_iret C hr hlk hP h (by decide) (by decide) dX12_root_39
  · have h := h.2 c8
    refine lv_iload_n hx hb dX12_root_11 rfl (lv_at hl 1 rfl) ?_
    refine lv_iload_n hx hb dX12_root_12 rfl (lv_at hl 2 rfl) ?_
    refine lv_iadd hx hb dX12_root_13 ?_
    refine lv_iconst (v := (1 : Int32)) hx hb dX12_root_14 (by decide) ?_
    refine lv_iadd hx hb dX12_root_15 ?_
    refine lv_iconst (v := (2 : Int32)) hx hb dX12_root_16 (by decide) ?_
    refine lv_idiv hx hb dX12_root_17 (by decide) ?_
    refine lv_topi (fun x3_18 ex3_18 => ?_)
    have h := h x3_18 ex3_18
    refine lv_istore_n (lv' := [(3, .int x3_18), (0, .int x0), (1, .int x1), (2, .int x2)]) hx hb dX12_root_18 rfl hl (by decide) rfl (fun ls hl => ?_)
    refine lv_iload_n hx hb dX12_root_19 rfl (lv_at hl 0 rfl) ?_
    refine lv_iload_n hx hb dX12_root_20 rfl (lv_at hl 0 rfl) ?_
    refine lv_imul hx hb dX12_root_21 ?_
    refine lv_iload_n hx hb dX12_root_22 rfl (lv_at hl 1 rfl) ?_
    refine lv_icmp_gt (tgt := 31) hx hb dX12_root_23 (by decide) (fun c23 => ?_) (fun c23 => ?_)
    · have h := h.1 c23
      refine lv_iload_n hx hb dX12_root_31 rfl (lv_at hl 0 rfl) ?_
      refine lv_iconst (v := (1 : Int32)) hx hb dX12_root_32 (by decide) ?_
      refine lv_isub hx hb dX12_root_33 ?_
      refine lv_topi (fun x2_34 ex2_34 => ?_)
      have h := h x2_34 ex2_34
      refine lv_istore_n (lv' := [(2, .int x2_34), (3, .int x3_18), (0, .int x0), (1, .int x1)]) hx hb dX12_root_34 rfl hl (by decide) rfl (fun ls hl => ?_)
      exact b_X12_root_35 C hr hlk hk_6 h (lv_sub hl [2, 3, 0] rfl) hP
    · have h := h.2 c23
      refine lv_iload_n hx hb dX12_root_26 rfl (lv_at hl 0 rfl) ?_
      refine lv_istore_n (lv' := [(1, .int x3_18), (3, .int x3_18), (0, .int x0), (2, .int x2)]) hx hb dX12_root_27 rfl hl (by decide) rfl (fun ls hl => ?_)
      refine lv_goto (tgt := 35) hx hb dX12_root_28 (by decide) ?_
      exact b_X12_root_35 C hr hlk hk_6 h (lv_sub hl [2, 0, 3] rfl) hP
theorem l_X12_root_6 {G : Gx} {Q : Int32 → Mm → Prop} {p : Program} {l : Launch} {e : Env} {s : State} {m : MethodId} {args : Array Value} {below : List Frame} {meth : Method} {c : Code} (C : Cx G p s m c cX12_root RX12 4) (hr : meth.sig.returnType = (some .int)) (hlk : meth.locks = false) : ∀ (n : Nat) (x0 : Int32) (x1 : Int32) (x2 : Int32) (u : Mm) (H : Heap) (locs : List Loc) (ls : Array Slot), V_X12_root_6 G Q n x0 x1 x2 u → lv_has ls 4 [(0, .int x0), (1, .int x1), (2, .int x2)] → Hp G u s H locs → W p l e rm_X12_root s m args below meth c H locs 0 0 (MQ below (Ei G Q) args s 0 0 (ag G)) (F0 m 6 ls []) := by
  intro n
  induction n with
  | zero => intro x0 x1 x2 u H locs ls h; exact h.elim
  | succ n ih => intro x0 x1 x2 u H locs ls h hl hP; exact b_X12_root_6 C hr hlk ih h hl hP
set_option maxHeartbeats 4000000 in
set_option maxRecDepth 100000 in
theorem c_X12_root {l : Launch} {G : Gx} {p0 : Int32} {u : Mm} {Q : Int32 → Mm → Prop} (h : V_X12_root G p0 u Q) : Met l yX12_root [.code yX12_root cX12_root 4 (some .int)] rm_X12_root (va_Pc [.int p0] (Wd G u)) (Ei G Q) 0 0 (ag G) := by
  refine q_met (by decide) (Nat.le_of_ble_eq_true rfl) ?_
  intro p e s m below meth c ls C hr hlk hnm hl hP
  have hl : lv_has ls 4 [(0, .int p0)] := hl
  generalize ([.int p0] : List Value).toArray = args
  have hx := C.1
  have hb := C.2.1
  unfold V_X12_root at h
  refine lv_iconst (v := (0 : Int32)) hx hb dX12_root_0 (by decide) ?_
  refine lv_istore_n (lv' := [(1, .int (0 : Int32)), (0, .int p0)]) hx hb dX12_root_1 rfl hl (by decide) rfl (fun ls hl => ?_)
  refine lv_sipush (v := (32767 : Int32)) hx hb dX12_root_2 (by decide) ?_
  refine lv_istore_n (lv' := [(2, .int (32767 : Int32)), (1, .int (0 : Int32)), (0, .int p0)]) hx hb dX12_root_5 rfl hl (by decide) rfl (fun ls hl => ?_)
  obtain ⟨n, h⟩ := h
  exact l_X12_root_6 C hr hlk n p0 (0 : Int32) (32767 : Int32) u _ _ _ h (lv_sub hl [2, 1, 0] rfl) hP
-- X12_tickOf
abbrev rm_X12_tickOf : Room := { frames := 1, cells := 0, slots := 0, locals := 23 }
theorem hd_X12_tickOf : yX12_tickOf.cls ≠ "java/lang/invoke/MethodHandle" ∧ yX12_tickOf.cls ≠ "java/lang/invoke/VarHandle" ∧ (parseMethodDescriptor yX12_tickOf.desc).map (fun d => d.parameters.length) = some 2 := by decide +kernel
def V_X12_tickOf (G : Gx) (p0 : Nat) (p1 : Int32) (p2 : Int32) (u : Mm) (Q : Int32 → Mm → Prop) : Prop :=
  kd G p0 = 12 ∧ (gR u p0 23) ≠ 0 ∧ kd G (gR u p0 23) = 13 ∧ vp_in p1 (ln G (gR u p0 23)) ∧ V_X12_root G ((10000 : Int32) * (gI u (gR u p0 23) p1.toNatClampNeg)) u (fun (v_10 : Int32) (u_10 : Mm) => ¬ p2 = 0 ∧ Q (v_10 / p2) u_10)
set_option maxHeartbeats 4000000 in
set_option maxRecDepth 100000 in
theorem c_X12_tickOf {l : Launch} {G : Gx} {p0 : Nat} {p1 : Int32} {p2 : Int32} {u : Mm} {Q : Int32 → Mm → Prop} (h : V_X12_tickOf G p0 p1 p2 u Q) : Met l yX12_tickOf [.code yX12_tickOf cX12_tickOf 3 (some .int)] rm_X12_tickOf (va_Pc [.ref p0, .int p1, .int p2] (Wd G u)) (Ei G Q) 0 0 (ag G) := by
  refine q_met (by decide) (Nat.le_of_ble_eq_true rfl) ?_
  intro p e s m below meth c ls C hr hlk hnm hl hP
  have hl : lv_has ls 3 [(0, .ref p0), (1, .int p1), (2, .int p2)] := hl
  generalize ([.ref p0, .int p1, .int p2] : List Value).toArray = args
  have hx := C.1
  have hb := C.2.1
  unfold V_X12_tickOf at h
  refine lv_sipush (v := (10000 : Int32)) hx hb dX12_tickOf_0 (by decide) ?_
  refine lv_aload_n hx hb dX12_tickOf_3 rfl (lv_at hl 0 rfl) ?_
  obtain ⟨g1, h⟩ := h
  obtain ⟨g2, h⟩ := h
  refine q_getR C hP (k := 23) (lay_X12 C.hA) rfl (by decide) g1 g2 (fl_X12_61 C.hA) dX12_tickOf_4 ?_
  refine lv_iload_n hx hb dX12_tickOf_7 rfl (lv_at hl 1 rfl) ?_
  obtain ⟨g3, h⟩ := h
  obtain ⟨g4, h⟩ := h
  refine q_iald C hP g3 g4 dX12_tickOf_8 ?_
  refine lv_imul hx hb dX12_tickOf_9 ?_
  refine q_cali (q_runS C hP (c_X12_root h) (cd_X12_root C.hA) (ini_X12 C.hA) (ml_X12_310 C.hA) (st_X12_root C.hA) hd_X12_root ⟨rfl, rfl⟩ ⟨Nat.le_of_ble_eq_true rfl, Nat.le_of_ble_eq_true rfl⟩ ⟨Nat.le_of_ble_eq_true rfl, Nat.le_of_ble_eq_true rfl⟩ hl.1 rfl (Nat.le_of_ble_eq_true rfl) dX12_tickOf_10) hP (fun v_10 u_10 H locs h hP => ?_)
  refine lv_iload_n hx hb dX12_tickOf_13 rfl (lv_at hl 2 rfl) ?_
  obtain ⟨g5, h⟩ := h
  refine lv_idiv hx hb dX12_tickOf_14 g5 ?_
  exact q_iret C hr hlk hP h (by decide) (by decide) dX12_tickOf_15
