-- X12_clear
abbrev rm_X12_clear : Room := { frames := 0, cells := 0, slots := 0, locals := 0 }
theorem hd_X12_clear : yX12_clear.cls ≠ "java/lang/invoke/MethodHandle" ∧ yX12_clear.cls ≠ "java/lang/invoke/VarHandle" ∧ (parseMethodDescriptor yX12_clear.desc).map (fun d => d.parameters.length) = some 0 := by decide +kernel
def V_X12_clear (G : Gx) (p0 : Nat) (u : Mm) (Q : Mm → Prop) : Prop :=
  kd G p0 = 12 ∧ ∀ u_2 : Mm, u_2 = sI u p0 1 (0 : Int32) → ∀ u_7 : Mm, u_7 = sI u_2 p0 27 (0 : Int32) → ∀ u_12 : Mm, u_12 = sI u_7 p0 28 (0 : Int32) → Q u_12
set_option maxHeartbeats 4000000 in
set_option maxRecDepth 100000 in
theorem c_X12_clear {l : Launch} {G : Gx} {p0 : Nat} {u : Mm} {Q : Mm → Prop} (h : V_X12_clear G p0 u Q) : Met l yX12_clear [.code yX12_clear cX12_clear 1 none] rm_X12_clear (va_Pc [.ref p0] (Wd G u)) (Ev G Q) 0 0 (ag G) := by
  refine q_met (by decide) (Nat.le_of_ble_eq_true rfl) ?_
  intro p e s m below meth c ls C hr hlk hnm hl hP
  have hl : lv_has ls 1 [(0, .ref p0)] := hl
  generalize ([.ref p0] : List Value).toArray = args
  have hx := C.1
  have hb := C.2.1
  unfold V_X12_clear at h
  refine lv_aload_n hx hb dX12_clear_0 rfl (lv_at hl 0 rfl) ?_
  refine lv_iconst (v := (0 : Int32)) hx hb dX12_clear_1 (by decide) ?_
  obtain ⟨g1, h⟩ := h
  refine q_putI C hP (k := 1) tyX12_ok nmX12 (lay_X12 C.hA) rfl (by decide) rfl rfl rfl rfl g1 (fl_X12_147 C.hA) dX12_clear_2 (fun H locs hP => ?_)
  obtain ⟨u_2, eu_2, hP⟩ := Hp.nm hP
  have h := h u_2 eu_2
  refine lv_aload_n hx hb dX12_clear_5 rfl (lv_at hl 0 rfl) ?_
  refine lv_iconst (v := (0 : Int32)) hx hb dX12_clear_6 (by decide) ?_
  refine q_putI C hP (k := 27) tyX12_ok nmX12 (lay_X12 C.hA) rfl (by decide) rfl rfl rfl rfl g1 (fl_X12_255 C.hA) dX12_clear_7 (fun H locs hP => ?_)
  obtain ⟨u_7, eu_7, hP⟩ := Hp.nm hP
  have h := h u_7 eu_7
  refine lv_aload_n hx hb dX12_clear_10 rfl (lv_at hl 0 rfl) ?_
  refine lv_iconst (v := (0 : Int32)) hx hb dX12_clear_11 (by decide) ?_
  refine q_putI C hP (k := 28) tyX12_ok nmX12 (lay_X12 C.hA) rfl (by decide) rfl rfl rfl rfl g1 (fl_X12_258 C.hA) dX12_clear_12 (fun H locs hP => ?_)
  obtain ⟨u_12, eu_12, hP⟩ := Hp.nm hP
  have h := h u_12 eu_12
  exact q_vret C hr hlk hP h (by decide) (by decide) dX12_clear_15
-- X12_be
abbrev rm_X12_be : Room := { frames := 0, cells := 0, slots := 0, locals := 0 }
theorem hd_X12_be : yX12_be.cls ≠ "java/lang/invoke/MethodHandle" ∧ yX12_be.cls ≠ "java/lang/invoke/VarHandle" ∧ (parseMethodDescriptor yX12_be.desc).map (fun d => d.parameters.length) = some 2 := by decide +kernel
def V_X12_be_2_B (G : Gx) (Q : Mm → Prop) (k_2 : Nat → Nat → Int32 → Mm → Prop) (x0 : Nat) (x1 : Nat) (x2 : Int32) (u : Mm) : Prop :=
  kd G x0 = 13 ∧ (((nI (ln G x0)) ≤ x2 → Q u) ∧ (¬ (nI (ln G x0)) ≤ x2 → kd G x1 = 13 ∧ vp_in x2 (ln G x1) ∧ vp_in x2 (ln G x0) ∧ ∀ u_13 : Mm, u_13 = sI u x0 x2.toNatClampNeg (gI u x1 x2.toNatClampNeg) → ∀ x2_14 : Int32, x2_14 = x2 + (1 : Int32) → k_2 x0 x1 x2_14 u_13))
def V_X12_be_2 (G : Gx) (Q : Mm → Prop) : Nat → (Nat → Nat → Int32 → Mm → Prop)
  | 0 => fun _ _ _ _ => False
  | n + 1 => fun x0 x1 x2 u => V_X12_be_2_B G Q (V_X12_be_2 G Q n) x0 x1 x2 u
def V_X12_be (G : Gx) (p0 : Nat) (p1 : Nat) (u : Mm) (Q : Mm → Prop) : Prop :=
  ∃ n : Nat, V_X12_be_2 G Q n p0 p1 (0 : Int32) u
set_option maxHeartbeats 4000000 in
set_option maxRecDepth 100000 in
theorem b_X12_be_2 {G : Gx} {Q : Mm → Prop} {p : Program} {l : Launch} {e : Env} {s : State} {m : MethodId} {args : Array Value} {below : List Frame} {meth : Method} {c : Code} (C : Cx G p s m c cX12_be RX12 3) (hr : meth.sig.returnType = none) (hlk : meth.locks = false) {k_2 : Nat → Nat → Int32 → Mm → Prop} (hk_2 : ∀ (x0 : Nat) (x1 : Nat) (x2 : Int32) (u : Mm) (H : Heap) (locs : List Loc) (ls : Array Slot), k_2 x0 x1 x2 u → lv_has ls 3 [(0, .ref x0), (1, .ref x1), (2, .int x2)] → Hp G u s H locs → W p l e rm_X12_be s m args below meth c H locs 0 0 (MQ below (Ev G Q) args s 0 0 (ag G)) (F0 m 2 ls [])) {x0 : Nat} {x1 : Nat} {x2 : Int32} {u : Mm} {H : Heap} {locs : List Loc} {ls : Array Slot} (h : V_X12_be_2_B G Q k_2 x0 x1 x2 u) (hl : lv_has ls 3 [(0, .ref x0), (1, .ref x1), (2, .int x2)]) (hP : Hp G u s H locs) : W p l e rm_X12_be s m args below meth c H locs 0 0 (MQ below (Ev G Q) args s 0 0 (ag G)) (F0 m 2 ls []) := by
  have hx := C.1
  have hb := C.2.1
  unfold V_X12_be_2_B at h
  refine lv_iload_n hx hb dX12_be_2 rfl (lv_at hl 2 rfl) ?_
  refine lv_aload_n hx hb dX12_be_3 rfl (lv_at hl 0 rfl) ?_
  obtain ⟨g1, h⟩ := h
  refine q_alen C hP g1 (by decide) dX12_be_4 ?_
  refine lv_icmp_ge (tgt := 20) hx hb dX12_be_5 (by decide) (fun c5 => ?_) (fun c5 => ?_)
  · have h := h.1 c5
    exact q_vret C hr hlk hP h (by decide) (by decide) dX12_be_20
  · have h := h.2 c5
    refine lv_aload_n hx hb dX12_be_8 rfl (lv_at hl 0 rfl) ?_
    refine lv_iload_n hx hb dX12_be_9 rfl (lv_at hl 2 rfl) ?_
    refine lv_aload_n hx hb dX12_be_10 rfl (lv_at hl 1 rfl) ?_
    refine lv_iload_n hx hb dX12_be_11 rfl (lv_at hl 2 rfl) ?_
    obtain ⟨g2, h⟩ := h
    obtain ⟨g3, h⟩ := h
    refine q_iald C hP g2 g3 dX12_be_12 ?_
    obtain ⟨g4, h⟩ := h
    refine q_iast C hP g1 g4 dX12_be_13 (fun H locs hP => ?_)
    obtain ⟨u_13, eu_13, hP⟩ := Hp.nm hP
    have h := h u_13 eu_13
    obtain ⟨x2_14, ex2_14⟩ : ∃ y : Int32, y = x2 + (1 : Int32) := ⟨_, rfl⟩
    have h := h x2_14 ex2_14
    refine lv_iinc (v := x2_14) (lv' := [(2, .int x2_14), (0, .ref x0), (1, .ref x1)]) hx hb dX12_be_14 hl (k := 2) rfl (by rw [ex2_14]; rfl) (by decide) rfl (fun ls hl => ?_)
    refine lv_goto (tgt := 2) hx hb dX12_be_17 (by decide) ?_
    exact hk_2 x0 x1 x2_14 u_13 _ _ _ h (lv_sub hl [1, 2, 0] rfl) hP
theorem l_X12_be_2 {G : Gx} {Q : Mm → Prop} {p : Program} {l : Launch} {e : Env} {s : State} {m : MethodId} {args : Array Value} {below : List Frame} {meth : Method} {c : Code} (C : Cx G p s m c cX12_be RX12 3) (hr : meth.sig.returnType = none) (hlk : meth.locks = false) : ∀ (n : Nat) (x0 : Nat) (x1 : Nat) (x2 : Int32) (u : Mm) (H : Heap) (locs : List Loc) (ls : Array Slot), V_X12_be_2 G Q n x0 x1 x2 u → lv_has ls 3 [(0, .ref x0), (1, .ref x1), (2, .int x2)] → Hp G u s H locs → W p l e rm_X12_be s m args below meth c H locs 0 0 (MQ below (Ev G Q) args s 0 0 (ag G)) (F0 m 2 ls []) := by
  intro n
  induction n with
  | zero => intro x0 x1 x2 u H locs ls h; exact h.elim
  | succ n ih => intro x0 x1 x2 u H locs ls h hl hP; exact b_X12_be_2 C hr hlk ih h hl hP
set_option maxHeartbeats 4000000 in
set_option maxRecDepth 100000 in
theorem c_X12_be {l : Launch} {G : Gx} {p0 : Nat} {p1 : Nat} {u : Mm} {Q : Mm → Prop} (h : V_X12_be G p0 p1 u Q) : Met l yX12_be [.code yX12_be cX12_be 3 none] rm_X12_be (va_Pc [.ref p0, .ref p1] (Wd G u)) (Ev G Q) 0 0 (ag G) := by
  refine q_met (by decide) (Nat.le_of_ble_eq_true rfl) ?_
  intro p e s m below meth c ls C hr hlk hnm hl hP
  have hl : lv_has ls 3 [(0, .ref p0), (1, .ref p1)] := hl
  generalize ([.ref p0, .ref p1] : List Value).toArray = args
  have hx := C.1
  have hb := C.2.1
  unfold V_X12_be at h
  refine lv_iconst (v := (0 : Int32)) hx hb dX12_be_0 (by decide) ?_
  refine lv_istore_n (lv' := [(2, .int (0 : Int32)), (0, .ref p0), (1, .ref p1)]) hx hb dX12_be_1 rfl hl (by decide) rfl (fun ls hl => ?_)
  obtain ⟨n, h⟩ := h
  exact l_X12_be_2 C hr hlk n p0 p1 (0 : Int32) u _ _ _ h (lv_sub hl [1, 2, 0] rfl) hP
-- X12_image
abbrev rm_X12_image : Room := { frames := 1, cells := 0, slots := 0, locals := 22 }
theorem hd_X12_image : yX12_image.cls ≠ "java/lang/invoke/MethodHandle" ∧ yX12_image.cls ≠ "java/lang/invoke/VarHandle" ∧ (parseMethodDescriptor yX12_image.desc).map (fun d => d.parameters.length) = some 0 := by decide +kernel
def V_X12_image (G : Gx) (p0 : Nat) (u : Mm) (Q : Mm → Prop) : Prop :=
  kd G p0 = 12 ∧ ∀ u_2 : Mm, u_2 = sI u p0 1 (0 : Int32) → ∀ u_7 : Mm, u_7 = sI u_2 p0 45 (1 : Int32) → ∀ u_15 : Mm, u_15 = sI u_7 p0 46 (gI u_7 p0 27) → ∀ u_23 : Mm, u_23 = sI u_15 p0 47 (gI u_15 p0 28) → (gR u_23 p0 48) ≠ 0 ∧ (gR u_23 p0 29) ≠ 0 ∧ V_X12_be G (gR u_23 p0 48) (gR u_23 p0 29) u_23 (fun (u_34 : Mm) => (gR u_34 p0 49) ≠ 0 ∧ (gR u_34 p0 30) ≠ 0 ∧ V_X12_be G (gR u_34 p0 49) (gR u_34 p0 30) u_34 (fun (u_45 : Mm) => (gR u_45 p0 50) ≠ 0 ∧ (gR u_45 p0 31) ≠ 0 ∧ V_X12_be G (gR u_45 p0 50) (gR u_45 p0 31) u_45 (fun (u_56 : Mm) => (gR u_56 p0 51) ≠ 0 ∧ (gR u_56 p0 32) ≠ 0 ∧ V_X12_be G (gR u_56 p0 51) (gR u_56 p0 32) u_56 (fun (u_67 : Mm) => (gR u_67 p0 52) ≠ 0 ∧ (gR u_67 p0 33) ≠ 0 ∧ V_X12_be G (gR u_67 p0 52) (gR u_67 p0 33) u_67 (fun (u_78 : Mm) => (gR u_78 p0 53) ≠ 0 ∧ (gR u_78 p0 34) ≠ 0 ∧ V_X12_be G (gR u_78 p0 53) (gR u_78 p0 34) u_78 (fun (u_89 : Mm) => (gR u_89 p0 54) ≠ 0 ∧ (gR u_89 p0 35) ≠ 0 ∧ V_X12_be G (gR u_89 p0 54) (gR u_89 p0 35) u_89 (fun (u_100 : Mm) => (gR u_100 p0 55) ≠ 0 ∧ (gR u_100 p0 36) ≠ 0 ∧ V_X12_be G (gR u_100 p0 55) (gR u_100 p0 36) u_100 (fun (u_111 : Mm) => (gR u_111 p0 56) ≠ 0 ∧ (gR u_111 p0 37) ≠ 0 ∧ V_X12_be G (gR u_111 p0 56) (gR u_111 p0 37) u_111 (fun (u_122 : Mm) => (gR u_122 p0 57) ≠ 0 ∧ (gR u_122 p0 10) ≠ 0 ∧ V_X12_be G (gR u_122 p0 57) (gR u_122 p0 10) u_122 (fun (u_133 : Mm) => Q u_133))))))))))
set_option maxHeartbeats 4000000 in
set_option maxRecDepth 100000 in
theorem c_X12_image {l : Launch} {G : Gx} {p0 : Nat} {u : Mm} {Q : Mm → Prop} (h : V_X12_image G p0 u Q) : Met l yX12_image [.code yX12_image cX12_image 1 none] rm_X12_image (va_Pc [.ref p0] (Wd G u)) (Ev G Q) 0 0 (ag G) := by
  refine q_met (by decide) (Nat.le_of_ble_eq_true rfl) ?_
  intro p e s m below meth c ls C hr hlk hnm hl hP
  have hl : lv_has ls 1 [(0, .ref p0)] := hl
  generalize ([.ref p0] : List Value).toArray = args
  have hx := C.1
  have hb := C.2.1
  unfold V_X12_image at h
  refine lv_aload_n hx hb dX12_image_0 rfl (lv_at hl 0 rfl) ?_
  refine lv_iconst (v := (0 : Int32)) hx hb dX12_image_1 (by decide) ?_
  obtain ⟨g1, h⟩ := h
  refine q_putI C hP (k := 1) tyX12_ok nmX12 (lay_X12 C.hA) rfl (by decide) rfl rfl rfl rfl g1 (fl_X12_147 C.hA) dX12_image_2 (fun H locs hP => ?_)
  obtain ⟨u_2, eu_2, hP⟩ := Hp.nm hP
  have h := h u_2 eu_2
  refine lv_aload_n hx hb dX12_image_5 rfl (lv_at hl 0 rfl) ?_
  refine lv_iconst (v := (1 : Int32)) hx hb dX12_image_6 (by decide) ?_
  refine q_putI C hP (k := 45) tyX12_ok nmX12 (lay_X12 C.hA) rfl (by decide) rfl rfl (nb01 (by decide)) (fb01 (by decide)) g1 (fl_X12_392 C.hA) dX12_image_7 (fun H locs hP => ?_)
  obtain ⟨u_7, eu_7, hP⟩ := Hp.nm hP
  have h := h u_7 eu_7
  refine lv_aload_n hx hb dX12_image_10 rfl (lv_at hl 0 rfl) ?_
  refine lv_aload_n hx hb dX12_image_11 rfl (lv_at hl 0 rfl) ?_
  refine q_getI C hP (k := 27) (lay_X12 C.hA) rfl (by decide) g1 (fl_X12_255 C.hA) dX12_image_12 ?_
  refine q_putI C hP (k := 46) tyX12_ok nmX12 (lay_X12 C.hA) rfl (by decide) rfl rfl rfl rfl g1 (fl_X12_396 C.hA) dX12_image_15 (fun H locs hP => ?_)
  obtain ⟨u_15, eu_15, hP⟩ := Hp.nm hP
  have h := h u_15 eu_15
  refine lv_aload_n hx hb dX12_image_18 rfl (lv_at hl 0 rfl) ?_
  refine lv_aload_n hx hb dX12_image_19 rfl (lv_at hl 0 rfl) ?_
  refine q_getI C hP (k := 28) (lay_X12 C.hA) rfl (by decide) g1 (fl_X12_258 C.hA) dX12_image_20 ?_
  refine q_putI C hP (k := 47) tyX12_ok nmX12 (lay_X12 C.hA) rfl (by decide) rfl rfl rfl rfl g1 (fl_X12_399 C.hA) dX12_image_23 (fun H locs hP => ?_)
  obtain ⟨u_23, eu_23, hP⟩ := Hp.nm hP
  have h := h u_23 eu_23
  refine lv_aload_n hx hb dX12_image_26 rfl (lv_at hl 0 rfl) ?_
  obtain ⟨g2, h⟩ := h
  refine q_getR C hP (k := 48) (lay_X12 C.hA) rfl (by decide) g1 g2 (fl_X12_113 C.hA) dX12_image_27 ?_
  refine lv_aload_n hx hb dX12_image_30 rfl (lv_at hl 0 rfl) ?_
  obtain ⟨g3, h⟩ := h
  refine q_getR C hP (k := 29) (lay_X12 C.hA) rfl (by decide) g1 g3 (fl_X12_70 C.hA) dX12_image_31 ?_
  refine q_calv (q_runS C hP (c_X12_be h) (cd_X12_be C.hA) (ini_X12 C.hA) (ml_X12_402 C.hA) (st_X12_be C.hA) hd_X12_be ⟨rfl, rfl⟩ ⟨Nat.le_of_ble_eq_true rfl, Nat.le_of_ble_eq_true rfl⟩ ⟨Nat.le_of_ble_eq_true rfl, Nat.le_of_ble_eq_true rfl⟩ hl.1 rfl (Nat.le_of_ble_eq_true rfl) dX12_image_34) hP (fun u_34 H locs h hP => ?_)
  refine lv_aload_n hx hb dX12_image_37 rfl (lv_at hl 0 rfl) ?_
  obtain ⟨g4, h⟩ := h
  refine q_getR C hP (k := 49) (lay_X12 C.hA) rfl (by decide) g1 g4 (fl_X12_116 C.hA) dX12_image_38 ?_
  refine lv_aload_n hx hb dX12_image_41 rfl (lv_at hl 0 rfl) ?_
  obtain ⟨g5, h⟩ := h
  refine q_getR C hP (k := 30) (lay_X12 C.hA) rfl (by decide) g1 g5 (fl_X12_73 C.hA) dX12_image_42 ?_
  refine q_calv (q_runS C hP (c_X12_be h) (cd_X12_be C.hA) (ini_X12 C.hA) (ml_X12_402 C.hA) (st_X12_be C.hA) hd_X12_be ⟨rfl, rfl⟩ ⟨Nat.le_of_ble_eq_true rfl, Nat.le_of_ble_eq_true rfl⟩ ⟨Nat.le_of_ble_eq_true rfl, Nat.le_of_ble_eq_true rfl⟩ hl.1 rfl (Nat.le_of_ble_eq_true rfl) dX12_image_45) hP (fun u_45 H locs h hP => ?_)
  refine lv_aload_n hx hb dX12_image_48 rfl (lv_at hl 0 rfl) ?_
  obtain ⟨g6, h⟩ := h
  refine q_getR C hP (k := 50) (lay_X12 C.hA) rfl (by decide) g1 g6 (fl_X12_119 C.hA) dX12_image_49 ?_
  refine lv_aload_n hx hb dX12_image_52 rfl (lv_at hl 0 rfl) ?_
  obtain ⟨g7, h⟩ := h
  refine q_getR C hP (k := 31) (lay_X12 C.hA) rfl (by decide) g1 g7 (fl_X12_76 C.hA) dX12_image_53 ?_
  refine q_calv (q_runS C hP (c_X12_be h) (cd_X12_be C.hA) (ini_X12 C.hA) (ml_X12_402 C.hA) (st_X12_be C.hA) hd_X12_be ⟨rfl, rfl⟩ ⟨Nat.le_of_ble_eq_true rfl, Nat.le_of_ble_eq_true rfl⟩ ⟨Nat.le_of_ble_eq_true rfl, Nat.le_of_ble_eq_true rfl⟩ hl.1 rfl (Nat.le_of_ble_eq_true rfl) dX12_image_56) hP (fun u_56 H locs h hP => ?_)
  refine lv_aload_n hx hb dX12_image_59 rfl (lv_at hl 0 rfl) ?_
  obtain ⟨g8, h⟩ := h
  refine q_getR C hP (k := 51) (lay_X12 C.hA) rfl (by decide) g1 g8 (fl_X12_122 C.hA) dX12_image_60 ?_
  refine lv_aload_n hx hb dX12_image_63 rfl (lv_at hl 0 rfl) ?_
  obtain ⟨g9, h⟩ := h
  refine q_getR C hP (k := 32) (lay_X12 C.hA) rfl (by decide) g1 g9 (fl_X12_79 C.hA) dX12_image_64 ?_
  refine q_calv (q_runS C hP (c_X12_be h) (cd_X12_be C.hA) (ini_X12 C.hA) (ml_X12_402 C.hA) (st_X12_be C.hA) hd_X12_be ⟨rfl, rfl⟩ ⟨Nat.le_of_ble_eq_true rfl, Nat.le_of_ble_eq_true rfl⟩ ⟨Nat.le_of_ble_eq_true rfl, Nat.le_of_ble_eq_true rfl⟩ hl.1 rfl (Nat.le_of_ble_eq_true rfl) dX12_image_67) hP (fun u_67 H locs h hP => ?_)
  refine lv_aload_n hx hb dX12_image_70 rfl (lv_at hl 0 rfl) ?_
  obtain ⟨g10, h⟩ := h
  refine q_getR C hP (k := 52) (lay_X12 C.hA) rfl (by decide) g1 g10 (fl_X12_125 C.hA) dX12_image_71 ?_
  refine lv_aload_n hx hb dX12_image_74 rfl (lv_at hl 0 rfl) ?_
  obtain ⟨g11, h⟩ := h
  refine q_getR C hP (k := 33) (lay_X12 C.hA) rfl (by decide) g1 g11 (fl_X12_82 C.hA) dX12_image_75 ?_
  refine q_calv (q_runS C hP (c_X12_be h) (cd_X12_be C.hA) (ini_X12 C.hA) (ml_X12_402 C.hA) (st_X12_be C.hA) hd_X12_be ⟨rfl, rfl⟩ ⟨Nat.le_of_ble_eq_true rfl, Nat.le_of_ble_eq_true rfl⟩ ⟨Nat.le_of_ble_eq_true rfl, Nat.le_of_ble_eq_true rfl⟩ hl.1 rfl (Nat.le_of_ble_eq_true rfl) dX12_image_78) hP (fun u_78 H locs h hP => ?_)
  refine lv_aload_n hx hb dX12_image_81 rfl (lv_at hl 0 rfl) ?_
  obtain ⟨g12, h⟩ := h
  refine q_getR C hP (k := 53) (lay_X12 C.hA) rfl (by decide) g1 g12 (fl_X12_128 C.hA) dX12_image_82 ?_
  refine lv_aload_n hx hb dX12_image_85 rfl (lv_at hl 0 rfl) ?_
  obtain ⟨g13, h⟩ := h
  refine q_getR C hP (k := 34) (lay_X12 C.hA) rfl (by decide) g1 g13 (fl_X12_85 C.hA) dX12_image_86 ?_
  refine q_calv (q_runS C hP (c_X12_be h) (cd_X12_be C.hA) (ini_X12 C.hA) (ml_X12_402 C.hA) (st_X12_be C.hA) hd_X12_be ⟨rfl, rfl⟩ ⟨Nat.le_of_ble_eq_true rfl, Nat.le_of_ble_eq_true rfl⟩ ⟨Nat.le_of_ble_eq_true rfl, Nat.le_of_ble_eq_true rfl⟩ hl.1 rfl (Nat.le_of_ble_eq_true rfl) dX12_image_89) hP (fun u_89 H locs h hP => ?_)
  refine lv_aload_n hx hb dX12_image_92 rfl (lv_at hl 0 rfl) ?_
  obtain ⟨g14, h⟩ := h
  refine q_getR C hP (k := 54) (lay_X12 C.hA) rfl (by decide) g1 g14 (fl_X12_131 C.hA) dX12_image_93 ?_
  refine lv_aload_n hx hb dX12_image_96 rfl (lv_at hl 0 rfl) ?_
  obtain ⟨g15, h⟩ := h
  refine q_getR C hP (k := 35) (lay_X12 C.hA) rfl (by decide) g1 g15 (fl_X12_88 C.hA) dX12_image_97 ?_
  refine q_calv (q_runS C hP (c_X12_be h) (cd_X12_be C.hA) (ini_X12 C.hA) (ml_X12_402 C.hA) (st_X12_be C.hA) hd_X12_be ⟨rfl, rfl⟩ ⟨Nat.le_of_ble_eq_true rfl, Nat.le_of_ble_eq_true rfl⟩ ⟨Nat.le_of_ble_eq_true rfl, Nat.le_of_ble_eq_true rfl⟩ hl.1 rfl (Nat.le_of_ble_eq_true rfl) dX12_image_100) hP (fun u_100 H locs h hP => ?_)
  refine lv_aload_n hx hb dX12_image_103 rfl (lv_at hl 0 rfl) ?_
  obtain ⟨g16, h⟩ := h
  refine q_getR C hP (k := 55) (lay_X12 C.hA) rfl (by decide) g1 g16 (fl_X12_134 C.hA) dX12_image_104 ?_
  refine lv_aload_n hx hb dX12_image_107 rfl (lv_at hl 0 rfl) ?_
  obtain ⟨g17, h⟩ := h
  refine q_getR C hP (k := 36) (lay_X12 C.hA) rfl (by decide) g1 g17 (fl_X12_91 C.hA) dX12_image_108 ?_
  refine q_calv (q_runS C hP (c_X12_be h) (cd_X12_be C.hA) (ini_X12 C.hA) (ml_X12_402 C.hA) (st_X12_be C.hA) hd_X12_be ⟨rfl, rfl⟩ ⟨Nat.le_of_ble_eq_true rfl, Nat.le_of_ble_eq_true rfl⟩ ⟨Nat.le_of_ble_eq_true rfl, Nat.le_of_ble_eq_true rfl⟩ hl.1 rfl (Nat.le_of_ble_eq_true rfl) dX12_image_111) hP (fun u_111 H locs h hP => ?_)
  refine lv_aload_n hx hb dX12_image_114 rfl (lv_at hl 0 rfl) ?_
  obtain ⟨g18, h⟩ := h
  refine q_getR C hP (k := 56) (lay_X12 C.hA) rfl (by decide) g1 g18 (fl_X12_137 C.hA) dX12_image_115 ?_
  refine lv_aload_n hx hb dX12_image_118 rfl (lv_at hl 0 rfl) ?_
  obtain ⟨g19, h⟩ := h
  refine q_getR C hP (k := 37) (lay_X12 C.hA) rfl (by decide) g1 g19 (fl_X12_94 C.hA) dX12_image_119 ?_
  refine q_calv (q_runS C hP (c_X12_be h) (cd_X12_be C.hA) (ini_X12 C.hA) (ml_X12_402 C.hA) (st_X12_be C.hA) hd_X12_be ⟨rfl, rfl⟩ ⟨Nat.le_of_ble_eq_true rfl, Nat.le_of_ble_eq_true rfl⟩ ⟨Nat.le_of_ble_eq_true rfl, Nat.le_of_ble_eq_true rfl⟩ hl.1 rfl (Nat.le_of_ble_eq_true rfl) dX12_image_122) hP (fun u_122 H locs h hP => ?_)
  refine lv_aload_n hx hb dX12_image_125 rfl (lv_at hl 0 rfl) ?_
  obtain ⟨g20, h⟩ := h
  refine q_getR C hP (k := 57) (lay_X12 C.hA) rfl (by decide) g1 g20 (fl_X12_140 C.hA) dX12_image_126 ?_
  refine lv_aload_n hx hb dX12_image_129 rfl (lv_at hl 0 rfl) ?_
  obtain ⟨g21, h⟩ := h
  refine q_getR C hP (k := 10) (lay_X12 C.hA) rfl (by decide) g1 g21 (fl_X12_48 C.hA) dX12_image_130 ?_
  refine q_calv (q_runS C hP (c_X12_be h) (cd_X12_be C.hA) (ini_X12 C.hA) (ml_X12_402 C.hA) (st_X12_be C.hA) hd_X12_be ⟨rfl, rfl⟩ ⟨Nat.le_of_ble_eq_true rfl, Nat.le_of_ble_eq_true rfl⟩ ⟨Nat.le_of_ble_eq_true rfl, Nat.le_of_ble_eq_true rfl⟩ hl.1 rfl (Nat.le_of_ble_eq_true rfl) dX12_image_133) hP (fun u_133 H locs h hP => ?_)
  exact q_vret C hr hlk hP h (by decide) (by decide) dX12_image_136
-- X12_restore
abbrev rm_X12_restore : Room := { frames := 1, cells := 0, slots := 0, locals := 22 }
theorem hd_X12_restore : yX12_restore.cls ≠ "java/lang/invoke/MethodHandle" ∧ yX12_restore.cls ≠ "java/lang/invoke/VarHandle" ∧ (parseMethodDescriptor yX12_restore.desc).map (fun d => d.parameters.length) = some 0 := by decide +kernel
def V_X12_restore (G : Gx) (p0 : Nat) (u : Mm) (Q : Int32 → Mm → Prop) : Prop :=
  kd G p0 = 12 ∧ ∀ u_2 : Mm, u_2 = sI u p0 1 (0 : Int32) → (((gI u_2 p0 45) = 0 → Q (0 : Int32) u_2) ∧ (¬ (gI u_2 p0 45) = 0 → ∀ u_19 : Mm, u_19 = sI u_2 p0 27 (gI u_2 p0 46) → ∀ u_27 : Mm, u_27 = sI u_19 p0 28 (gI u_19 p0 47) → (gR u_27 p0 29) ≠ 0 ∧ (gR u_27 p0 48) ≠ 0 ∧ V_X12_be G (gR u_27 p0 29) (gR u_27 p0 48) u_27 (fun (u_38 : Mm) => (gR u_38 p0 30) ≠ 0 ∧ (gR u_38 p0 49) ≠ 0 ∧ V_X12_be G (gR u_38 p0 30) (gR u_38 p0 49) u_38 (fun (u_49 : Mm) => (gR u_49 p0 31) ≠ 0 ∧ (gR u_49 p0 50) ≠ 0 ∧ V_X12_be G (gR u_49 p0 31) (gR u_49 p0 50) u_49 (fun (u_60 : Mm) => (gR u_60 p0 32) ≠ 0 ∧ (gR u_60 p0 51) ≠ 0 ∧ V_X12_be G (gR u_60 p0 32) (gR u_60 p0 51) u_60 (fun (u_71 : Mm) => (gR u_71 p0 33) ≠ 0 ∧ (gR u_71 p0 52) ≠ 0 ∧ V_X12_be G (gR u_71 p0 33) (gR u_71 p0 52) u_71 (fun (u_82 : Mm) => (gR u_82 p0 34) ≠ 0 ∧ (gR u_82 p0 53) ≠ 0 ∧ V_X12_be G (gR u_82 p0 34) (gR u_82 p0 53) u_82 (fun (u_93 : Mm) => (gR u_93 p0 35) ≠ 0 ∧ (gR u_93 p0 54) ≠ 0 ∧ V_X12_be G (gR u_93 p0 35) (gR u_93 p0 54) u_93 (fun (u_104 : Mm) => (gR u_104 p0 36) ≠ 0 ∧ (gR u_104 p0 55) ≠ 0 ∧ V_X12_be G (gR u_104 p0 36) (gR u_104 p0 55) u_104 (fun (u_115 : Mm) => (gR u_115 p0 37) ≠ 0 ∧ (gR u_115 p0 56) ≠ 0 ∧ V_X12_be G (gR u_115 p0 37) (gR u_115 p0 56) u_115 (fun (u_126 : Mm) => (gR u_126 p0 10) ≠ 0 ∧ (gR u_126 p0 57) ≠ 0 ∧ V_X12_be G (gR u_126 p0 10) (gR u_126 p0 57) u_126 (fun (u_137 : Mm) => Q (1 : Int32) u_137))))))))))))
set_option maxHeartbeats 4000000 in
set_option maxRecDepth 100000 in
theorem c_X12_restore {l : Launch} {G : Gx} {p0 : Nat} {u : Mm} {Q : Int32 → Mm → Prop} (h : V_X12_restore G p0 u Q) : Met l yX12_restore [.code yX12_restore cX12_restore 1 (some .boolean)] rm_X12_restore (va_Pc [.ref p0] (Wd G u)) (Ei G Q) 0 0 (ag G) := by
  refine q_met (by decide) (Nat.le_of_ble_eq_true rfl) ?_
  intro p e s m below meth c ls C hr hlk hnm hl hP
  have hl : lv_has ls 1 [(0, .ref p0)] := hl
  generalize ([.ref p0] : List Value).toArray = args
  have hx := C.1
  have hb := C.2.1
  unfold V_X12_restore at h
  refine lv_aload_n hx hb dX12_restore_0 rfl (lv_at hl 0 rfl) ?_
  refine lv_iconst (v := (0 : Int32)) hx hb dX12_restore_1 (by decide) ?_
  obtain ⟨g1, h⟩ := h
  refine q_putI C hP (k := 1) tyX12_ok nmX12 (lay_X12 C.hA) rfl (by decide) rfl rfl rfl rfl g1 (fl_X12_147 C.hA) dX12_restore_2 (fun H locs hP => ?_)
  obtain ⟨u_2, eu_2, hP⟩ := Hp.nm hP
  have h := h u_2 eu_2
  refine lv_aload_n hx hb dX12_restore_5 rfl (lv_at hl 0 rfl) ?_
  refine q_getI C hP (k := 45) (lay_X12 C.hA) rfl (by decide) g1 (fl_X12_392 C.hA) dX12_restore_6 ?_
  refine lv_if_ne (tgt := 14) hx hb dX12_restore_9 (by decide) (fun c9 => ?_) (fun c9 => ?_)
  · have h := h.2 c9
    refine lv_aload_n hx hb dX12_restore_14 rfl (lv_at hl 0 rfl) ?_
    refine lv_aload_n hx hb dX12_restore_15 rfl (lv_at hl 0 rfl) ?_
    refine q_getI C hP (k := 46) (lay_X12 C.hA) rfl (by decide) g1 (fl_X12_396 C.hA) dX12_restore_16 ?_
    refine q_putI C hP (k := 27) tyX12_ok nmX12 (lay_X12 C.hA) rfl (by decide) rfl rfl rfl rfl g1 (fl_X12_255 C.hA) dX12_restore_19 (fun H locs hP => ?_)
    obtain ⟨u_19, eu_19, hP⟩ := Hp.nm hP
    have h := h u_19 eu_19
    refine lv_aload_n hx hb dX12_restore_22 rfl (lv_at hl 0 rfl) ?_
    refine lv_aload_n hx hb dX12_restore_23 rfl (lv_at hl 0 rfl) ?_
    refine q_getI C hP (k := 47) (lay_X12 C.hA) rfl (by decide) g1 (fl_X12_399 C.hA) dX12_restore_24 ?_
    refine q_putI C hP (k := 28) tyX12_ok nmX12 (lay_X12 C.hA) rfl (by decide) rfl rfl rfl rfl g1 (fl_X12_258 C.hA) dX12_restore_27 (fun H locs hP => ?_)
    obtain ⟨u_27, eu_27, hP⟩ := Hp.nm hP
    have h := h u_27 eu_27
    refine lv_aload_n hx hb dX12_restore_30 rfl (lv_at hl 0 rfl) ?_
    obtain ⟨g2, h⟩ := h
    refine q_getR C hP (k := 29) (lay_X12 C.hA) rfl (by decide) g1 g2 (fl_X12_70 C.hA) dX12_restore_31 ?_
    refine lv_aload_n hx hb dX12_restore_34 rfl (lv_at hl 0 rfl) ?_
    obtain ⟨g3, h⟩ := h
    refine q_getR C hP (k := 48) (lay_X12 C.hA) rfl (by decide) g1 g3 (fl_X12_113 C.hA) dX12_restore_35 ?_
    refine q_calv (q_runS C hP (c_X12_be h) (cd_X12_be C.hA) (ini_X12 C.hA) (ml_X12_402 C.hA) (st_X12_be C.hA) hd_X12_be ⟨rfl, rfl⟩ ⟨Nat.le_of_ble_eq_true rfl, Nat.le_of_ble_eq_true rfl⟩ ⟨Nat.le_of_ble_eq_true rfl, Nat.le_of_ble_eq_true rfl⟩ hl.1 rfl (Nat.le_of_ble_eq_true rfl) dX12_restore_38) hP (fun u_38 H locs h hP => ?_)
    refine lv_aload_n hx hb dX12_restore_41 rfl (lv_at hl 0 rfl) ?_
    obtain ⟨g4, h⟩ := h
    refine q_getR C hP (k := 30) (lay_X12 C.hA) rfl (by decide) g1 g4 (fl_X12_73 C.hA) dX12_restore_42 ?_
    refine lv_aload_n hx hb dX12_restore_45 rfl (lv_at hl 0 rfl) ?_
    obtain ⟨g5, h⟩ := h
    refine q_getR C hP (k := 49) (lay_X12 C.hA) rfl (by decide) g1 g5 (fl_X12_116 C.hA) dX12_restore_46 ?_
    refine q_calv (q_runS C hP (c_X12_be h) (cd_X12_be C.hA) (ini_X12 C.hA) (ml_X12_402 C.hA) (st_X12_be C.hA) hd_X12_be ⟨rfl, rfl⟩ ⟨Nat.le_of_ble_eq_true rfl, Nat.le_of_ble_eq_true rfl⟩ ⟨Nat.le_of_ble_eq_true rfl, Nat.le_of_ble_eq_true rfl⟩ hl.1 rfl (Nat.le_of_ble_eq_true rfl) dX12_restore_49) hP (fun u_49 H locs h hP => ?_)
    refine lv_aload_n hx hb dX12_restore_52 rfl (lv_at hl 0 rfl) ?_
    obtain ⟨g6, h⟩ := h
    refine q_getR C hP (k := 31) (lay_X12 C.hA) rfl (by decide) g1 g6 (fl_X12_76 C.hA) dX12_restore_53 ?_
    refine lv_aload_n hx hb dX12_restore_56 rfl (lv_at hl 0 rfl) ?_
    obtain ⟨g7, h⟩ := h
    refine q_getR C hP (k := 50) (lay_X12 C.hA) rfl (by decide) g1 g7 (fl_X12_119 C.hA) dX12_restore_57 ?_
    refine q_calv (q_runS C hP (c_X12_be h) (cd_X12_be C.hA) (ini_X12 C.hA) (ml_X12_402 C.hA) (st_X12_be C.hA) hd_X12_be ⟨rfl, rfl⟩ ⟨Nat.le_of_ble_eq_true rfl, Nat.le_of_ble_eq_true rfl⟩ ⟨Nat.le_of_ble_eq_true rfl, Nat.le_of_ble_eq_true rfl⟩ hl.1 rfl (Nat.le_of_ble_eq_true rfl) dX12_restore_60) hP (fun u_60 H locs h hP => ?_)
    refine lv_aload_n hx hb dX12_restore_63 rfl (lv_at hl 0 rfl) ?_
    obtain ⟨g8, h⟩ := h
    refine q_getR C hP (k := 32) (lay_X12 C.hA) rfl (by decide) g1 g8 (fl_X12_79 C.hA) dX12_restore_64 ?_
    refine lv_aload_n hx hb dX12_restore_67 rfl (lv_at hl 0 rfl) ?_
    obtain ⟨g9, h⟩ := h
    refine q_getR C hP (k := 51) (lay_X12 C.hA) rfl (by decide) g1 g9 (fl_X12_122 C.hA) dX12_restore_68 ?_
    refine q_calv (q_runS C hP (c_X12_be h) (cd_X12_be C.hA) (ini_X12 C.hA) (ml_X12_402 C.hA) (st_X12_be C.hA) hd_X12_be ⟨rfl, rfl⟩ ⟨Nat.le_of_ble_eq_true rfl, Nat.le_of_ble_eq_true rfl⟩ ⟨Nat.le_of_ble_eq_true rfl, Nat.le_of_ble_eq_true rfl⟩ hl.1 rfl (Nat.le_of_ble_eq_true rfl) dX12_restore_71) hP (fun u_71 H locs h hP => ?_)
    refine lv_aload_n hx hb dX12_restore_74 rfl (lv_at hl 0 rfl) ?_
    obtain ⟨g10, h⟩ := h
    refine q_getR C hP (k := 33) (lay_X12 C.hA) rfl (by decide) g1 g10 (fl_X12_82 C.hA) dX12_restore_75 ?_
    refine lv_aload_n hx hb dX12_restore_78 rfl (lv_at hl 0 rfl) ?_
    obtain ⟨g11, h⟩ := h
    refine q_getR C hP (k := 52) (lay_X12 C.hA) rfl (by decide) g1 g11 (fl_X12_125 C.hA) dX12_restore_79 ?_
    refine q_calv (q_runS C hP (c_X12_be h) (cd_X12_be C.hA) (ini_X12 C.hA) (ml_X12_402 C.hA) (st_X12_be C.hA) hd_X12_be ⟨rfl, rfl⟩ ⟨Nat.le_of_ble_eq_true rfl, Nat.le_of_ble_eq_true rfl⟩ ⟨Nat.le_of_ble_eq_true rfl, Nat.le_of_ble_eq_true rfl⟩ hl.1 rfl (Nat.le_of_ble_eq_true rfl) dX12_restore_82) hP (fun u_82 H locs h hP => ?_)
    refine lv_aload_n hx hb dX12_restore_85 rfl (lv_at hl 0 rfl) ?_
    obtain ⟨g12, h⟩ := h
    refine q_getR C hP (k := 34) (lay_X12 C.hA) rfl (by decide) g1 g12 (fl_X12_85 C.hA) dX12_restore_86 ?_
    refine lv_aload_n hx hb dX12_restore_89 rfl (lv_at hl 0 rfl) ?_
    obtain ⟨g13, h⟩ := h
    refine q_getR C hP (k := 53) (lay_X12 C.hA) rfl (by decide) g1 g13 (fl_X12_128 C.hA) dX12_restore_90 ?_
    refine q_calv (q_runS C hP (c_X12_be h) (cd_X12_be C.hA) (ini_X12 C.hA) (ml_X12_402 C.hA) (st_X12_be C.hA) hd_X12_be ⟨rfl, rfl⟩ ⟨Nat.le_of_ble_eq_true rfl, Nat.le_of_ble_eq_true rfl⟩ ⟨Nat.le_of_ble_eq_true rfl, Nat.le_of_ble_eq_true rfl⟩ hl.1 rfl (Nat.le_of_ble_eq_true rfl) dX12_restore_93) hP (fun u_93 H locs h hP => ?_)
    refine lv_aload_n hx hb dX12_restore_96 rfl (lv_at hl 0 rfl) ?_
    obtain ⟨g14, h⟩ := h
    refine q_getR C hP (k := 35) (lay_X12 C.hA) rfl (by decide) g1 g14 (fl_X12_88 C.hA) dX12_restore_97 ?_
    refine lv_aload_n hx hb dX12_restore_100 rfl (lv_at hl 0 rfl) ?_
    obtain ⟨g15, h⟩ := h
    refine q_getR C hP (k := 54) (lay_X12 C.hA) rfl (by decide) g1 g15 (fl_X12_131 C.hA) dX12_restore_101 ?_
    refine q_calv (q_runS C hP (c_X12_be h) (cd_X12_be C.hA) (ini_X12 C.hA) (ml_X12_402 C.hA) (st_X12_be C.hA) hd_X12_be ⟨rfl, rfl⟩ ⟨Nat.le_of_ble_eq_true rfl, Nat.le_of_ble_eq_true rfl⟩ ⟨Nat.le_of_ble_eq_true rfl, Nat.le_of_ble_eq_true rfl⟩ hl.1 rfl (Nat.le_of_ble_eq_true rfl) dX12_restore_104) hP (fun u_104 H locs h hP => ?_)
    refine lv_aload_n hx hb dX12_restore_107 rfl (lv_at hl 0 rfl) ?_
    obtain ⟨g16, h⟩ := h
    refine q_getR C hP (k := 36) (lay_X12 C.hA) rfl (by decide) g1 g16 (fl_X12_91 C.hA) dX12_restore_108 ?_
    refine lv_aload_n hx hb dX12_restore_111 rfl (lv_at hl 0 rfl) ?_
    obtain ⟨g17, h⟩ := h
    refine q_getR C hP (k := 55) (lay_X12 C.hA) rfl (by decide) g1 g17 (fl_X12_134 C.hA) dX12_restore_112 ?_
    refine q_calv (q_runS C hP (c_X12_be h) (cd_X12_be C.hA) (ini_X12 C.hA) (ml_X12_402 C.hA) (st_X12_be C.hA) hd_X12_be ⟨rfl, rfl⟩ ⟨Nat.le_of_ble_eq_true rfl, Nat.le_of_ble_eq_true rfl⟩ ⟨Nat.le_of_ble_eq_true rfl, Nat.le_of_ble_eq_true rfl⟩ hl.1 rfl (Nat.le_of_ble_eq_true rfl) dX12_restore_115) hP (fun u_115 H locs h hP => ?_)
    refine lv_aload_n hx hb dX12_restore_118 rfl (lv_at hl 0 rfl) ?_
    obtain ⟨g18, h⟩ := h
    refine q_getR C hP (k := 37) (lay_X12 C.hA) rfl (by decide) g1 g18 (fl_X12_94 C.hA) dX12_restore_119 ?_
    refine lv_aload_n hx hb dX12_restore_122 rfl (lv_at hl 0 rfl) ?_
    obtain ⟨g19, h⟩ := h
    refine q_getR C hP (k := 56) (lay_X12 C.hA) rfl (by decide) g1 g19 (fl_X12_137 C.hA) dX12_restore_123 ?_
    refine q_calv (q_runS C hP (c_X12_be h) (cd_X12_be C.hA) (ini_X12 C.hA) (ml_X12_402 C.hA) (st_X12_be C.hA) hd_X12_be ⟨rfl, rfl⟩ ⟨Nat.le_of_ble_eq_true rfl, Nat.le_of_ble_eq_true rfl⟩ ⟨Nat.le_of_ble_eq_true rfl, Nat.le_of_ble_eq_true rfl⟩ hl.1 rfl (Nat.le_of_ble_eq_true rfl) dX12_restore_126) hP (fun u_126 H locs h hP => ?_)
    refine lv_aload_n hx hb dX12_restore_129 rfl (lv_at hl 0 rfl) ?_
    obtain ⟨g20, h⟩ := h
    refine q_getR C hP (k := 10) (lay_X12 C.hA) rfl (by decide) g1 g20 (fl_X12_48 C.hA) dX12_restore_130 ?_
    refine lv_aload_n hx hb dX12_restore_133 rfl (lv_at hl 0 rfl) ?_
    obtain ⟨g21, h⟩ := h
    refine q_getR C hP (k := 57) (lay_X12 C.hA) rfl (by decide) g1 g21 (fl_X12_140 C.hA) dX12_restore_134 ?_
    refine q_calv (q_runS C hP (c_X12_be h) (cd_X12_be C.hA) (ini_X12 C.hA) (ml_X12_402 C.hA) (st_X12_be C.hA) hd_X12_be ⟨rfl, rfl⟩ ⟨Nat.le_of_ble_eq_true rfl, Nat.le_of_ble_eq_true rfl⟩ ⟨Nat.le_of_ble_eq_true rfl, Nat.le_of_ble_eq_true rfl⟩ hl.1 rfl (Nat.le_of_ble_eq_true rfl) dX12_restore_137) hP (fun u_137 H locs h hP => ?_)
    refine lv_iconst (v := (1 : Int32)) hx hb dX12_restore_140 (by decide) ?_
    exact q_zret C hr hlk hP (by decide) h (by decide) (by decide) dX12_restore_141
  · have h := h.1 c9
    refine lv_iconst (v := (0 : Int32)) hx hb dX12_restore_12 (by decide) ?_
    exact q_zret C hr hlk hP (by decide) h (by decide) (by decide) dX12_restore_13
