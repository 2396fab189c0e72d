-- X6_lookAtWall
abbrev rm_X6_lookAtWall : Room := { frames := 1, cells := 0, slots := 0, locals := 21 }
theorem hd_X6_lookAtWall : yX6_lookAtWall.cls ≠ "java/lang/invoke/MethodHandle" ∧ yX6_lookAtWall.cls ≠ "java/lang/invoke/VarHandle" ∧ (parseMethodDescriptor yX6_lookAtWall.desc).map (fun d => d.parameters.length) = some 2 := by decide +kernel
def V_X6_lookAtWall_96 (G : Gx) (Q : Mm → Prop) (x0 : Nat) (x2 : Int32) (x3 : Int32) (t0 : Nat) (t1 : Int32) (t2 : Int32) (u : Mm) : Prop :=
  kd G t0 = 13 ∧ vp_in t1 (ln G t0) ∧ ∀ u_96 : Mm, u_96 = sI u t0 t1.toNatClampNeg t2 → kd G x0 = 6 ∧ (gR u_96 x0 4) ≠ 0 ∧ kd G (gR u_96 x0 4) = 13 ∧ vp_in x2 (ln G (gR u_96 x0 4)) ∧ ∀ u_106 : Mm, u_106 = sI u_96 (gR u_96 x0 4) x2.toNatClampNeg (ab x3) → Q u_106
def V_X6_lookAtWall_53 (G : Gx) (Q : Mm → Prop) (x0 : Nat) (x2 : Int32) (u : Mm) : Prop :=
  kd G x0 = 6 ∧ (gR u x0 3) ≠ 0 ∧ kd G (gR u x0 3) = 13 ∧ vp_in x2 (ln G (gR u x0 3)) ∧ ∀ u_59 : Mm, u_59 = sI u (gR u x0 3) x2.toNatClampNeg (-1 : Int32) → Q u_59
def V_X6_lookAtWall_47 (G : Gx) (Q : Mm → Prop) (x0 : Nat) (x1 : Nat) (x2 : Int32) (x3 : Int32) (t0 : Nat) (t1 : Int32) (u : Mm) : Prop :=
  kd G t0 = 9 ∧ V_X9_holds G t0 t1 u (fun (v_47 : Int32) (u_47 : Mm) => ((v_47 = 0 → V_X6_lookAtWall_53 G Q x0 x2 u_47) ∧ (¬ v_47 = 0 → kd G x0 = 6 ∧ (gR u_47 x0 3) ≠ 0 ∧ kd G x1 = 9 ∧ (((gI u_47 x1 0) = 0 → ((0 ≤ x3 → V_X6_lookAtWall_96 G Q x0 x2 x3 (gR u_47 x0 3) x2 (3 : Int32) u_47) ∧ (¬ 0 ≤ x3 → V_X6_lookAtWall_96 G Q x0 x2 x3 (gR u_47 x0 3) x2 (2 : Int32) u_47))) ∧ (¬ (gI u_47 x1 0) = 0 → ((0 ≤ x3 → V_X6_lookAtWall_96 G Q x0 x2 x3 (gR u_47 x0 3) x2 (1 : Int32) u_47) ∧ (¬ 0 ≤ x3 → V_X6_lookAtWall_96 G Q x0 x2 x3 (gR u_47 x0 3) x2 (0 : Int32) u_47)))))))
def V_X6_lookAtWall_22 (G : Gx) (Q : Mm → Prop) (x0 : Nat) (x1 : Nat) (x2 : Int32) (t0 : Int32) (t1 : Int32) (u : Mm) : Prop :=
  ∀ x3_23 : Int32, x3_23 = (t0 - t1) → ((x3_23 = 0 → V_X6_lookAtWall_53 G Q x0 x2 u) ∧ (¬ x3_23 = 0 → kd G x1 = 9 ∧ (((gI u x1 0) = 0 → kd G x0 = 6 ∧ V_X6_lookAtWall_47 G Q x0 x1 x2 x3_23 x1 (gI u x0 0) u) ∧ (¬ (gI u x1 0) = 0 → kd G x0 = 6 ∧ V_X6_lookAtWall_47 G Q x0 x1 x2 x3_23 x1 (gI u x0 1) u))))
def V_X6_lookAtWall (G : Gx) (p0 : Nat) (p1 : Nat) (p2 : Int32) (u : Mm) (Q : Mm → Prop) : Prop :=
  kd G p1 = 9 ∧ (((gI u p1 0) = 0 → kd G p0 = 6 ∧ V_X6_lookAtWall_22 G Q p0 p1 p2 (gI u p1 1) (gI u p0 1) u) ∧ (¬ (gI u p1 0) = 0 → kd G p0 = 6 ∧ V_X6_lookAtWall_22 G Q p0 p1 p2 (gI u p1 1) (gI u p0 0) u))
set_option maxHeartbeats 4000000 in
set_option maxRecDepth 100000 in
theorem b_X6_lookAtWall_96 {G : Gx} {Q : Mm → Prop} {p : Program} {l : Launch} {e : Env} {s : State} {m : MethodId} {args : Array Value} {below : List Frame} {meth : Method} {c : Code} (C : Cx G p s m c cX6_lookAtWall RX6 4) (hr : meth.sig.returnType = none) (hlk : meth.locks = false) {x0 : Nat} {x2 : Int32} {x3 : Int32} {t0 : Nat} {t1 : Int32} {t2 : Int32} {u : Mm} {H : Heap} {locs : List Loc} {ls : Array Slot} (h : V_X6_lookAtWall_96 G Q x0 x2 x3 t0 t1 t2 u) (hl : lv_has ls 4 [(0, .ref x0), (2, .int x2), (3, .int x3)]) (hP : Hp G u s H locs) : W p l e rm_X6_lookAtWall s m args below meth c H locs 0 0 (MQ below (Ev G Q) args s 0 0 (ag G)) (F0 m 96 ls [.int t2, .int t1, .ref t0]) := by
  have hx := C.1
  have hb := C.2.1
  unfold V_X6_lookAtWall_96 at h
  obtain ⟨g1, h⟩ := h
  obtain ⟨g2, h⟩ := h
  refine q_iast C hP g1 g2 dX6_lookAtWall_96 (fun H locs hP => ?_)
  obtain ⟨u_96, eu_96, hP⟩ := Hp.nm hP
  have h := h u_96 eu_96
  refine lv_aload_n hx hb dX6_lookAtWall_97 rfl (lv_at hl 0 rfl) ?_
  obtain ⟨g3, h⟩ := h
  obtain ⟨g4, h⟩ := h
  refine q_getR C hP (k := 4) (lay_X6 C.hA) rfl (by decide) g3 g4 (fl_X6_15 C.hA) dX6_lookAtWall_98 ?_
  refine lv_iload_n hx hb dX6_lookAtWall_101 rfl (lv_at hl 1 rfl) ?_
  refine lv_iload_n hx hb dX6_lookAtWall_102 rfl (lv_at hl 2 rfl) ?_
  refine va_mabs hx hb (C.2.2.2.1.trans hl.1.symm) C.2.2.1 (ml_X6_90 C.hA) (st_J9_abs_0f7a4 C.hA) (ini_J9 C.hA) (cd_J9_abs_0f7a4 C.hA) (Nat.le_of_ble_eq_true rfl) (Nat.le_of_ble_eq_true rfl) (Nat.le_of_ble_eq_true rfl) (Nat.le_of_ble_eq_true rfl) dX6_lookAtWall_103 ?_
  obtain ⟨g5, h⟩ := h
  obtain ⟨g6, h⟩ := h
  refine q_iast C hP g5 g6 dX6_lookAtWall_106 (fun H locs hP => ?_)
  obtain ⟨u_106, eu_106, hP⟩ := Hp.nm hP
  have h := h u_106 eu_106
  exact q_vret C hr hlk hP h (by decide) (by decide) dX6_lookAtWall_107
set_option maxHeartbeats 4000000 in
set_option maxRecDepth 100000 in
theorem b_X6_lookAtWall_53 {G : Gx} {Q : Mm → Prop} {p : Program} {l : Launch} {e : Env} {s : State} {m : MethodId} {args : Array Value} {below : List Frame} {meth : Method} {c : Code} (C : Cx G p s m c cX6_lookAtWall RX6 4) (hr : meth.sig.returnType = none) (hlk : meth.locks = false) {x0 : Nat} {x2 : Int32} {u : Mm} {H : Heap} {locs : List Loc} {ls : Array Slot} (h : V_X6_lookAtWall_53 G Q x0 x2 u) (hl : lv_has ls 4 [(0, .ref x0), (2, .int x2)]) (hP : Hp G u s H locs) : W p l e rm_X6_lookAtWall s m args below meth c H locs 0 0 (MQ below (Ev G Q) args s 0 0 (ag G)) (F0 m 53 ls []) := by
  have hx := C.1
  have hb := C.2.1
  unfold V_X6_lookAtWall_53 at h
  refine lv_aload_n hx hb dX6_lookAtWall_53 rfl (lv_at hl 0 rfl) ?_
  obtain ⟨g1, h⟩ := h
  obtain ⟨g2, h⟩ := h
  refine q_getR C hP (k := 3) (lay_X6 C.hA) rfl (by decide) g1 g2 (fl_X6_9 C.hA) dX6_lookAtWall_54 ?_
  refine lv_iload_n hx hb dX6_lookAtWall_57 rfl (lv_at hl 1 rfl) ?_
  refine lv_iconst (v := (-1 : Int32)) hx hb dX6_lookAtWall_58 (by decide) ?_
  obtain ⟨g3, h⟩ := h
  obtain ⟨g4, h⟩ := h
  refine q_iast C hP g3 g4 dX6_lookAtWall_59 (fun H locs hP => ?_)
  obtain ⟨u_59, eu_59, hP⟩ := Hp.nm hP
  have h := h u_59 eu_59
  refine lv_goto (tgt := 107) hx hb dX6_lookAtWall_60 (by decide) ?_
  exact q_vret C hr hlk hP h (by decide) (by decide) dX6_lookAtWall_107
set_option maxHeartbeats 4000000 in
set_option maxRecDepth 100000 in
theorem b_X6_lookAtWall_47 {G : Gx} {Q : Mm → Prop} {p : Program} {l : Launch} {e : Env} {s : State} {m : MethodId} {args : Array Value} {below : List Frame} {meth : Method} {c : Code} (C : Cx G p s m c cX6_lookAtWall RX6 4) (hr : meth.sig.returnType = none) (hlk : meth.locks = false) {x0 : Nat} {x1 : Nat} {x2 : Int32} {x3 : Int32} {t0 : Nat} {t1 : Int32} {u : Mm} {H : Heap} {locs : List Loc} {ls : Array Slot} (h : V_X6_lookAtWall_47 G Q x0 x1 x2 x3 t0 t1 u) (hl : lv_has ls 4 [(0, .ref x0), (1, .ref x1), (2, .int x2), (3, .int x3)]) (hP : Hp G u s H locs) : W p l e rm_X6_lookAtWall s m args below meth c H locs 0 0 (MQ below (Ev G Q) args s 0 0 (ag G)) (F0 m 47 ls [.int t1, .ref t0]) := by
  have hx := C.1
  have hb := C.2.1
  unfold V_X6_lookAtWall_47 at h
  obtain ⟨g1, h⟩ := h
  refine q_cali (q_runVN C hP (c_X9_holds h) (cd_X9_holds C.hA) (ini_X9 C.hA) (mn_X6_86 C.hA) (im_X9_holds C.hA) (sl_X9_holds C.hA) g1 (by decide) rfl hd_X9_holds ⟨rfl, rfl⟩ ⟨Nat.le_of_ble_eq_true rfl, Nat.le_of_ble_eq_true rfl⟩ ⟨Nat.le_of_ble_eq_true rfl, Nat.le_of_ble_eq_true rfl⟩ hl.1 rfl (Nat.le_of_ble_eq_true rfl) dX6_lookAtWall_47) hP (fun v_47 u_47 H locs h hP => ?_)
  refine lv_if_ne (tgt := 63) hx hb dX6_lookAtWall_50 (by decide) (fun c50 => ?_) (fun c50 => ?_)
  · have h := h.2 c50
    refine lv_aload_n hx hb dX6_lookAtWall_63 rfl (lv_at hl 0 rfl) ?_
    obtain ⟨g2, h⟩ := h
    obtain ⟨g3, h⟩ := h
    refine q_getR C hP (k := 3) (lay_X6 C.hA) rfl (by decide) g2 g3 (fl_X6_9 C.hA) dX6_lookAtWall_64 ?_
    refine lv_iload_n hx hb dX6_lookAtWall_67 rfl (lv_at hl 2 rfl) ?_
    refine lv_aload_n hx hb dX6_lookAtWall_68 rfl (lv_at hl 1 rfl) ?_
    obtain ⟨g4, h⟩ := h
    refine q_getIN C hP (k := 0) (lay_X9 C.hA) rfl (by decide) g4 (fn_X6_82 C.hA) dX6_lookAtWall_69 ?_
    refine lv_if_eq (tgt := 87) hx hb dX6_lookAtWall_72 (by decide) (fun c72 => ?_) (fun c72 => ?_)
    · have h := h.1 c72
      refine lv_iload_n hx hb dX6_lookAtWall_87 rfl (lv_at hl 3 rfl) ?_
      refine lv_if_ge (tgt := 95) hx hb dX6_lookAtWall_88 (by decide) (fun c88 => ?_) (fun c88 => ?_)
      · have h := h.1 c88
        refine lv_iconst (v := (3 : Int32)) hx hb dX6_lookAtWall_95 (by decide) ?_
        exact b_X6_lookAtWall_96 C hr hlk h (lv_sub hl [0, 2, 3] rfl) hP
      · have h := h.2 c88
        refine lv_iconst (v := (2 : Int32)) hx hb dX6_lookAtWall_91 (by decide) ?_
        refine lv_goto (tgt := 96) hx hb dX6_lookAtWall_92 (by decide) ?_
        exact b_X6_lookAtWall_96 C hr hlk h (lv_sub hl [0, 2, 3] rfl) hP
    · have h := h.2 c72
      refine lv_iload_n hx hb dX6_lookAtWall_75 rfl (lv_at hl 3 rfl) ?_
      refine lv_if_ge (tgt := 83) hx hb dX6_lookAtWall_76 (by decide) (fun c76 => ?_) (fun c76 => ?_)
      · have h := h.1 c76
        refine lv_iconst (v := (1 : Int32)) hx hb dX6_lookAtWall_83 (by decide) ?_
        refine lv_goto (tgt := 96) hx hb dX6_lookAtWall_84 (by decide) ?_
        exact b_X6_lookAtWall_96 C hr hlk h (lv_sub hl [0, 2, 3] rfl) hP
      · have h := h.2 c76
        refine lv_iconst (v := (0 : Int32)) hx hb dX6_lookAtWall_79 (by decide) ?_
        refine lv_goto (tgt := 96) hx hb dX6_lookAtWall_80 (by decide) ?_
        exact b_X6_lookAtWall_96 C hr hlk h (lv_sub hl [0, 2, 3] rfl) hP
  · have h := h.1 c50
    exact b_X6_lookAtWall_53 C hr hlk h (lv_sub hl [0, 2] rfl) hP
set_option maxHeartbeats 4000000 in
set_option maxRecDepth 100000 in
theorem b_X6_lookAtWall_22 {G : Gx} {Q : Mm → Prop} {p : Program} {l : Launch} {e : Env} {s : State} {m : MethodId} {args : Array Value} {below : List Frame} {meth : Method} {c : Code} (C : Cx G p s m c cX6_lookAtWall RX6 4) (hr : meth.sig.returnType = none) (hlk : meth.locks = false) {x0 : Nat} {x1 : Nat} {x2 : Int32} {t0 : Int32} {t1 : Int32} {u : Mm} {H : Heap} {locs : List Loc} {ls : Array Slot} (h : V_X6_lookAtWall_22 G Q x0 x1 x2 t0 t1 u) (hl : lv_has ls 4 [(0, .ref x0), (1, .ref x1), (2, .int x2)]) (hP : Hp G u s H locs) : W p l e rm_X6_lookAtWall s m args below meth c H locs 0 0 (MQ below (Ev G Q) args s 0 0 (ag G)) (F0 m 22 ls [.int t1, .int t0]) := by
  have hx := C.1
  have hb := C.2.1
  unfold V_X6_lookAtWall_22 at h
  refine lv_isub hx hb dX6_lookAtWall_22 ?_
  refine lv_topi (fun x3_23 ex3_23 => ?_)
  have h := h x3_23 ex3_23
  refine lv_istore_n (lv' := [(3, .int x3_23), (0, .ref x0), (1, .ref x1), (2, .int x2)]) hx hb dX6_lookAtWall_23 rfl hl (by decide) rfl (fun ls hl => ?_)
  refine lv_iload_n hx hb dX6_lookAtWall_24 rfl (lv_at hl 0 rfl) ?_
  refine lv_if_eq (tgt := 53) hx hb dX6_lookAtWall_25 (by decide) (fun c25 => ?_) (fun c25 => ?_)
  · have h := h.1 c25
    exact b_X6_lookAtWall_53 C hr hlk h (lv_sub hl [1, 3] rfl) hP
  · have h := h.2 c25
    refine lv_aload_n hx hb dX6_lookAtWall_28 rfl (lv_at hl 2 rfl) ?_
    refine lv_aload_n hx hb dX6_lookAtWall_29 rfl (lv_at hl 2 rfl) ?_
    obtain ⟨g1, h⟩ := h
    refine q_getIN C hP (k := 0) (lay_X9 C.hA) rfl (by decide) g1 (fn_X6_82 C.hA) dX6_lookAtWall_30 ?_
    refine lv_if_eq (tgt := 43) hx hb dX6_lookAtWall_33 (by decide) (fun c33 => ?_) (fun c33 => ?_)
    · have h := h.1 c33
      refine lv_aload_n hx hb dX6_lookAtWall_43 rfl (lv_at hl 1 rfl) ?_
      obtain ⟨g2, h⟩ := h
      refine q_getI C hP (k := 0) (lay_X6 C.hA) rfl (by decide) g2 (fl_X6_30 C.hA) dX6_lookAtWall_44 ?_
      exact b_X6_lookAtWall_47 C hr hlk h (lv_sub hl [1, 2, 3, 0] rfl) hP
    · have h := h.2 c33
      refine lv_aload_n hx hb dX6_lookAtWall_36 rfl (lv_at hl 1 rfl) ?_
      obtain ⟨g3, h⟩ := h
      refine q_getI C hP (k := 1) (lay_X6 C.hA) rfl (by decide) g3 (fl_X6_34 C.hA) dX6_lookAtWall_37 ?_
      refine lv_goto (tgt := 47) hx hb dX6_lookAtWall_40 (by decide) ?_
      exact b_X6_lookAtWall_47 C hr hlk h (lv_sub hl [1, 2, 3, 0] rfl) hP
set_option maxHeartbeats 4000000 in
set_option maxRecDepth 100000 in
theorem c_X6_lookAtWall {l : Launch} {G : Gx} {p0 : Nat} {p1 : Nat} {p2 : Int32} {u : Mm} {Q : Mm → Prop} (h : V_X6_lookAtWall G p0 p1 p2 u Q) : Met l yX6_lookAtWall [.code yX6_lookAtWall cX6_lookAtWall 4 none] rm_X6_lookAtWall (va_Pc [.ref p0, .ref p1, .int p2] (Wd G u)) (Ev G Q) 0 0 (ag G) := by
  refine q_met (by decide) (Nat.le_of_ble_eq_true rfl) ?_
  intro p e s m below meth c ls C hr hlk hnm hl hP
  have hl : lv_has ls 4 [(0, .ref p0), (1, .ref p1), (2, .int p2)] := hl
  generalize ([.ref p0, .ref p1, .int p2] : List Value).toArray = args
  have hx := C.1
  have hb := C.2.1
  unfold V_X6_lookAtWall at h
  refine lv_aload_n hx hb dX6_lookAtWall_0 rfl (lv_at hl 1 rfl) ?_
  obtain ⟨g1, h⟩ := h
  refine q_getIN C hP (k := 1) (lay_X9 C.hA) rfl (by decide) g1 (fn_X6_77 C.hA) dX6_lookAtWall_1 ?_
  refine lv_aload_n hx hb dX6_lookAtWall_4 rfl (lv_at hl 1 rfl) ?_
  refine q_getIN C hP (k := 0) (lay_X9 C.hA) rfl (by decide) g1 (fn_X6_82 C.hA) dX6_lookAtWall_5 ?_
  refine lv_if_eq (tgt := 18) hx hb dX6_lookAtWall_8 (by decide) (fun c8 => ?_) (fun c8 => ?_)
  · have h := h.1 c8
    refine lv_aload_n hx hb dX6_lookAtWall_18 rfl (lv_at hl 0 rfl) ?_
    obtain ⟨g2, h⟩ := h
    refine q_getI C hP (k := 1) (lay_X6 C.hA) rfl (by decide) g2 (fl_X6_34 C.hA) dX6_lookAtWall_19 ?_
    exact b_X6_lookAtWall_22 C hr hlk h (lv_sub hl [0, 1, 2] rfl) hP
  · have h := h.2 c8
    refine lv_aload_n hx hb dX6_lookAtWall_11 rfl (lv_at hl 0 rfl) ?_
    obtain ⟨g3, h⟩ := h
    refine q_getI C hP (k := 0) (lay_X6 C.hA) rfl (by decide) g3 (fl_X6_30 C.hA) dX6_lookAtWall_12 ?_
    refine lv_goto (tgt := 22) hx hb dX6_lookAtWall_15 (by decide) ?_
    exact b_X6_lookAtWall_22 C hr hlk h (lv_sub hl [0, 1, 2] rfl) hP
-- X6_look
abbrev rm_X6_look : Room := { frames := 3, cells := 0, slots := 0, locals := 71 }
theorem hd_X6_look : yX6_look.cls ≠ "java/lang/invoke/MethodHandle" ∧ yX6_look.cls ≠ "java/lang/invoke/VarHandle" ∧ (parseMethodDescriptor yX6_look.desc).map (fun d => d.parameters.length) = some 5 := by decide +kernel
def V_X6_look_190 (G : Gx) (Q : Mm → Prop) (k_58 : Nat → Nat → Int32 → Int32 → Mm → Prop) (x0 : Nat) (x1 : Nat) (x4 : Int32) (x6 : Int32) (t0 : Nat) (t1 : Int32) (t2 : Int32) (u : Mm) : Prop :=
  kd G t0 = 13 ∧ vp_in t1 (ln G t0) ∧ ∀ u_190 : Mm, u_190 = sI u t0 t1.toNatClampNeg t2 → ∀ x6_191 : Int32, x6_191 = x6 + (1 : Int32) → k_58 x0 x1 x4 x6_191 u_190
def V_X6_look_147 (G : Gx) (Q : Mm → Prop) (k_58 : Nat → Nat → Int32 → Int32 → Mm → Prop) (x0 : Nat) (x1 : Nat) (x4 : Int32) (x6 : Int32) (x7 : Nat) (t0 : Nat) (t1 : Int32) (t2 : Int32) (u : Mm) : Prop :=
  kd G t0 = 13 ∧ vp_in t1 (ln G t0) ∧ ∀ u_147 : Mm, u_147 = sI u t0 t1.toNatClampNeg t2 → kd G x0 = 6 ∧ (gR u_147 x0 6) ≠ 0 ∧ (gR u_147 x0 5) ≠ 0 ∧ kd G (gR u_147 x0 5) = 13 ∧ vp_in x6 (ln G (gR u_147 x0 5)) ∧ (((gI u_147 (gR u_147 x0 5) x6.toNatClampNeg) = 0 → V_X6_look_190 G Q k_58 x0 x1 x4 x6 (gR u_147 x0 6) x6 (0 : Int32) u_147) ∧ (¬ (gI u_147 (gR u_147 x0 5) x6.toNatClampNeg) = 0 → kd G x7 = 0 ∧ kd G x1 = 4 ∧ V_X4_hidersBetween G x1 (gI u_147 x0 0) (gI u_147 x0 1) (gI u_147 x7 0) (gI u_147 x7 1) u_147 (fun (v_187 : Int32) (u_187 : Mm) => V_X6_look_190 G Q k_58 x0 x1 x4 x6 (gR u_147 x0 6) x6 v_187 u_187)))
def V_X6_look_101 (G : Gx) (Q : Mm → Prop) (k_58 : Nat → Nat → Int32 → Int32 → Mm → Prop) (x0 : Nat) (x1 : Nat) (x4 : Int32) (x6 : Int32) (x7 : Nat) (t0 : Int32) (u : Mm) : Prop :=
  kd G x0 = 6 ∧ (gR u x0 8) ≠ 0 ∧ kd G (gR u x0 8) = 13 ∧ vp_in x6 (ln G (gR u x0 8)) ∧ ∀ u_110 : Mm, u_110 = sI u (gR u x0 8) x6.toNatClampNeg (-1 : Int32) → (gR u_110 x0 5) ≠ 0 ∧ ((t0 = 0 → V_X6_look_147 G Q k_58 x0 x1 x4 x6 x7 (gR u_110 x0 5) x6 (0 : Int32) u_110) ∧ (¬ t0 = 0 → kd G x7 = 0 ∧ V_X11_distanceSquare G (gI u_110 x0 0) (gI u_110 x0 1) (gI u_110 x7 0) (gI u_110 x7 1) u_110 (fun (v_140 : Int32) (u_140 : Mm) => V_X6_look_147 G Q k_58 x0 x1 x4 x6 x7 (gR u_110 x0 5) x6 v_140 u_140)))
def V_X6_look_100 (G : Gx) (Q : Mm → Prop) (k_58 : Nat → Nat → Int32 → Int32 → Mm → Prop) (x0 : Nat) (x1 : Nat) (x4 : Int32) (x6 : Int32) (x7 : Nat) (u : Mm) : Prop :=
  V_X6_look_101 G Q k_58 x0 x1 x4 x6 x7 (0 : Int32) u
def V_X6_look_58_B (G : Gx) (Q : Mm → Prop) (k_58 : Nat → Nat → Int32 → Int32 → Mm → Prop) (x0 : Nat) (x1 : Nat) (x4 : Int32) (x6 : Int32) (u : Mm) : Prop :=
  kd G x1 = 4 ∧ (((gI u x1 4) ≤ x6 → Q u) ∧ (¬ (gI u x1 4) ≤ x6 → (gR u x1 1) ≠ 0 ∧ kd G (gR u x1 1) = 18 ∧ vp_in x6 (ln G (gR u x1 1)) ∧ (gR u (gR u x1 1) x6.toNatClampNeg) ≠ 0 ∧ ∀ x7_74 : Nat, x7_74 = (gR u (gR u x1 1) x6.toNatClampNeg) → kd G x7_74 = 0 ∧ ((x4 < (gI u x7_74 3) → V_X6_look_100 G Q k_58 x0 x1 x4 x6 x7_74 u) ∧ (¬ x4 < (gI u x7_74 3) → (((gI u x7_74 4) < x4 → V_X6_look_100 G Q k_58 x0 x1 x4 x6 x7_74 u) ∧ (¬ (gI u x7_74 4) < x4 → V_X6_look_101 G Q k_58 x0 x1 x4 x6 x7_74 (1 : Int32) u))))))
def V_X6_look_58 (G : Gx) (Q : Mm → Prop) : Nat → (Nat → Nat → Int32 → Int32 → Mm → Prop)
  | 0 => fun _ _ _ _ _ => False
  | n + 1 => fun x0 x1 x4 x6 u => V_X6_look_58_B G Q (V_X6_look_58 G Q n) x0 x1 x4 x6 u
def V_X6_look_19_B (G : Gx) (Q : Mm → Prop) (k_19 : Nat → Nat → Int32 → Int32 → Mm → Prop) (x0 : Nat) (x1 : Nat) (x4 : Int32) (x6 : Int32) (u : Mm) : Prop :=
  kd G x1 = 4 ∧ (((gI u x1 3) ≤ x6 → ∃ n : Nat, V_X6_look_58 G Q n x0 x1 x4 (0 : Int32) u) ∧ (¬ (gI u x1 3) ≤ x6 → kd G x0 = 6 ∧ (gR u x0 7) ≠ 0 ∧ kd G (gR u x0 7) = 13 ∧ vp_in x6 (ln G (gR u x0 7)) ∧ ∀ u_35 : Mm, u_35 = sI u (gR u x0 7) x6.toNatClampNeg (-1 : Int32) → (gR u_35 x1 0) ≠ 0 ∧ kd G (gR u_35 x1 0) = 17 ∧ vp_in x6 (ln G (gR u_35 x1 0)) ∧ (gR u_35 (gR u_35 x1 0) x6.toNatClampNeg) ≠ 0 ∧ V_X6_lookAtWall G x0 (gR u_35 (gR u_35 x1 0) x6.toNatClampNeg) x6 u_35 (fun (u_46 : Mm) => ∀ x6_49 : Int32, x6_49 = x6 + (1 : Int32) → k_19 x0 x1 x4 x6_49 u_46)))
def V_X6_look_19 (G : Gx) (Q : Mm → Prop) : Nat → (Nat → Nat → Int32 → Int32 → Mm → Prop)
  | 0 => fun _ _ _ _ _ => False
  | n + 1 => fun x0 x1 x4 x6 u => V_X6_look_19_B G Q (V_X6_look_19 G Q n) x0 x1 x4 x6 u
def V_X6_look (G : Gx) (p0 : Nat) (p1 : Nat) (p2 : Int32) (p3 : Int32) (p4 : Int32) (p5 : Int32) (u : Mm) (Q : Mm → Prop) : Prop :=
  kd G p0 = 6 ∧ ∀ u_2 : Mm, u_2 = sI u p0 0 p2 → ∀ u_7 : Mm, u_7 = sI u_2 p0 1 p3 → ∀ u_13 : Mm, u_13 = sI u_7 p0 2 p5 → ∃ n : Nat, V_X6_look_19 G Q n p0 p1 p4 (0 : Int32) u_13
set_option maxHeartbeats 4000000 in
set_option maxRecDepth 100000 in
theorem b_X6_look_190 {G : Gx} {Q : Mm → Prop} {p : Program} {l : Launch} {e : Env} {s : State} {m : MethodId} {args : Array Value} {below : List Frame} {meth : Method} {c : Code} (C : Cx G p s m c cX6_look RX6 9) (hr : meth.sig.returnType = none) (hlk : meth.locks = false) {k_58 : Nat → Nat → Int32 → Int32 → Mm → Prop} (hk_58 : ∀ (x0 : Nat) (x1 : Nat) (x4 : Int32) (x6 : Int32) (u : Mm) (H : Heap) (locs : List Loc) (ls : Array Slot), k_58 x0 x1 x4 x6 u → lv_has ls 9 [(0, .ref x0), (1, .ref x1), (4, .int x4), (6, .int x6)] → Hp G u s H locs → W p l e rm_X6_look s m args below meth c H locs 0 0 (MQ below (Ev G Q) args s 0 0 (ag G)) (F0 m 58 ls [])) {x0 : Nat} {x1 : Nat} {x4 : Int32} {x6 : Int32} {t0 : Nat} {t1 : Int32} {t2 : Int32} {u : Mm} {H : Heap} {locs : List Loc} {ls : Array Slot} (h : V_X6_look_190 G Q k_58 x0 x1 x4 x6 t0 t1 t2 u) (hl : lv_has ls 9 [(0, .ref x0), (1, .ref x1), (4, .int x4), (6, .int x6)]) (hP : Hp G u s H locs) : W p l e rm_X6_look s m args below meth c H locs 0 0 (MQ below (Ev G Q) args s 0 0 (ag G)) (F0 m 190 ls [.int t2, .int t1, .ref t0]) := by
  have hx := C.1
  have hb := C.2.1
  unfold V_X6_look_190 at h
  obtain ⟨g1, h⟩ := h
  obtain ⟨g2, h⟩ := h
  refine q_iast C hP g1 g2 dX6_look_190 (fun H locs hP => ?_)
  obtain ⟨u_190, eu_190, hP⟩ := Hp.nm hP
  have h := h u_190 eu_190
  obtain ⟨x6_191, ex6_191⟩ : ∃ y : Int32, y = x6 + (1 : Int32) := ⟨_, rfl⟩
  have h := h x6_191 ex6_191
  refine lv_iinc (v := x6_191) (lv' := [(6, .int x6_191), (0, .ref x0), (1, .ref x1), (4, .int x4)]) hx hb dX6_look_191 hl (k := 3) rfl (by rw [ex6_191]; rfl) (by decide) rfl (fun ls hl => ?_)
  refine lv_goto (tgt := 58) hx hb dX6_look_194 (by decide) ?_
  exact hk_58 x0 x1 x4 x6_191 u_190 _ _ _ h (lv_sub hl [1, 2, 3, 0] rfl) hP
set_option maxHeartbeats 4000000 in
set_option maxRecDepth 100000 in
theorem b_X6_look_147 {G : Gx} {Q : Mm → Prop} {p : Program} {l : Launch} {e : Env} {s : State} {m : MethodId} {args : Array Value} {below : List Frame} {meth : Method} {c : Code} (C : Cx G p s m c cX6_look RX6 9) (hr : meth.sig.returnType = none) (hlk : meth.locks = false) {k_58 : Nat → Nat → Int32 → Int32 → Mm → Prop} (hk_58 : ∀ (x0 : Nat) (x1 : Nat) (x4 : Int32) (x6 : Int32) (u : Mm) (H : Heap) (locs : List Loc) (ls : Array Slot), k_58 x0 x1 x4 x6 u → lv_has ls 9 [(0, .ref x0), (1, .ref x1), (4, .int x4), (6, .int x6)] → Hp G u s H locs → W p l e rm_X6_look s m args below meth c H locs 0 0 (MQ below (Ev G Q) args s 0 0 (ag G)) (F0 m 58 ls [])) {x0 : Nat} {x1 : Nat} {x4 : Int32} {x6 : Int32} {x7 : Nat} {t0 : Nat} {t1 : Int32} {t2 : Int32} {u : Mm} {H : Heap} {locs : List Loc} {ls : Array Slot} (h : V_X6_look_147 G Q k_58 x0 x1 x4 x6 x7 t0 t1 t2 u) (hl : lv_has ls 9 [(0, .ref x0), (1, .ref x1), (4, .int x4), (6, .int x6), (7, .ref x7)]) (hP : Hp G u s H locs) : W p l e rm_X6_look s m args below meth c H locs 0 0 (MQ below (Ev G Q) args s 0 0 (ag G)) (F0 m 147 ls [.int t2, .int t1, .ref t0]) := by
  have hx := C.1
  have hb := C.2.1
  unfold V_X6_look_147 at h
  obtain ⟨g1, h⟩ := h
  obtain ⟨g2, h⟩ := h
  refine q_iast C hP g1 g2 dX6_look_147 (fun H locs hP => ?_)
  obtain ⟨u_147, eu_147, hP⟩ := Hp.nm hP
  have h := h u_147 eu_147
  refine lv_aload_n hx hb dX6_look_148 rfl (lv_at hl 0 rfl) ?_
  obtain ⟨g3, h⟩ := h
  obtain ⟨g4, h⟩ := h
  refine q_getR C hP (k := 6) (lay_X6 C.hA) rfl (by decide) g3 g4 (fl_X6_21 C.hA) dX6_look_149 ?_
  refine lv_iload hx hb dX6_look_152 (lv_at hl 3 rfl) ?_
  refine lv_aload_n hx hb dX6_look_154 rfl (lv_at hl 0 rfl) ?_
  obtain ⟨g5, h⟩ := h
  refine q_getR C hP (k := 5) (lay_X6 C.hA) rfl (by decide) g3 g5 (fl_X6_18 C.hA) dX6_look_155 ?_
  refine lv_iload hx hb dX6_look_158 (lv_at hl 3 rfl) ?_
  obtain ⟨g6, h⟩ := h
  obtain ⟨g7, h⟩ := h
  refine q_iald C hP g6 g7 dX6_look_160 ?_
  refine lv_if_ne (tgt := 168) hx hb dX6_look_161 (by decide) (fun c161 => ?_) (fun c161 => ?_)
  · have h := h.2 c161
    refine lv_aload_n hx hb dX6_look_168 rfl (lv_at hl 1 rfl) ?_
    refine lv_aload_n hx hb dX6_look_169 rfl (lv_at hl 0 rfl) ?_
    refine q_getI C hP (k := 0) (lay_X6 C.hA) rfl (by decide) g3 (fl_X6_30 C.hA) dX6_look_170 ?_
    refine lv_aload_n hx hb dX6_look_173 rfl (lv_at hl 0 rfl) ?_
    refine q_getI C hP (k := 1) (lay_X6 C.hA) rfl (by decide) g3 (fl_X6_34 C.hA) dX6_look_174 ?_
    refine lv_aload hx hb dX6_look_177 (lv_at hl 4 rfl) ?_
    obtain ⟨g8, h⟩ := h
    refine q_getIN C hP (k := 0) (lay_X0 C.hA) rfl (by decide) g8 (fn_X6_68 C.hA) dX6_look_179 ?_
    refine lv_aload hx hb dX6_look_182 (lv_at hl 4 rfl) ?_
    refine q_getIN C hP (k := 1) (lay_X0 C.hA) rfl (by decide) g8 (fn_X6_69 C.hA) dX6_look_184 ?_
    obtain ⟨g9, h⟩ := h
    refine q_cali (q_runVN C hP (c_X4_hidersBetween h) (cd_X4_hidersBetween C.hA) (ini_X4 C.hA) (mn_X6_74 C.hA) (im_X4_hidersBetween C.hA) (sl_X4_hidersBetween C.hA) g9 (by decide) rfl hd_X4_hidersBetween ⟨rfl, rfl⟩ ⟨Nat.le_of_ble_eq_true rfl, Nat.le_of_ble_eq_true rfl⟩ ⟨Nat.le_of_ble_eq_true rfl, Nat.le_of_ble_eq_true rfl⟩ hl.1 rfl (Nat.le_of_ble_eq_true rfl) dX6_look_187) hP (fun v_187 u_187 H locs h hP => ?_)
    exact b_X6_look_190 C hr hlk hk_58 h (lv_sub hl [0, 1, 2, 3] rfl) hP
  · have h := h.1 c161
    refine lv_iconst (v := (0 : Int32)) hx hb dX6_look_164 (by decide) ?_
    refine lv_goto (tgt := 190) hx hb dX6_look_165 (by decide) ?_
    exact b_X6_look_190 C hr hlk hk_58 h (lv_sub hl [0, 1, 2, 3] rfl) hP
set_option maxHeartbeats 4000000 in
set_option maxRecDepth 100000 in
theorem b_X6_look_101 {G : Gx} {Q : Mm → Prop} {p : Program} {l : Launch} {e : Env} {s : State} {m : MethodId} {args : Array Value} {below : List Frame} {meth : Method} {c : Code} (C : Cx G p s m c cX6_look RX6 9) (hr : meth.sig.returnType = none) (hlk : meth.locks = false) {k_58 : Nat → Nat → Int32 → Int32 → Mm → Prop} (hk_58 : ∀ (x0 : Nat) (x1 : Nat) (x4 : Int32) (x6 : Int32) (u : Mm) (H : Heap) (locs : List Loc) (ls : Array Slot), k_58 x0 x1 x4 x6 u → lv_has ls 9 [(0, .ref x0), (1, .ref x1), (4, .int x4), (6, .int x6)] → Hp G u s H locs → W p l e rm_X6_look s m args below meth c H locs 0 0 (MQ below (Ev G Q) args s 0 0 (ag G)) (F0 m 58 ls [])) {x0 : Nat} {x1 : Nat} {x4 : Int32} {x6 : Int32} {x7 : Nat} {t0 : Int32} {u : Mm} {H : Heap} {locs : List Loc} {ls : Array Slot} (h : V_X6_look_101 G Q k_58 x0 x1 x4 x6 x7 t0 u) (hl : lv_has ls 9 [(0, .ref x0), (1, .ref x1), (4, .int x4), (6, .int x6), (7, .ref x7)]) (hP : Hp G u s H locs) : W p l e rm_X6_look s m args below meth c H locs 0 0 (MQ below (Ev G Q) args s 0 0 (ag G)) (F0 m 101 ls [.int t0]) := by
  have hx := C.1
  have hb := C.2.1
  unfold V_X6_look_101 at h
  refine lv_istore (lv' := [(8, .int t0), (0, .ref x0), (1, .ref x1), (4, .int x4), (6, .int x6), (7, .ref x7)]) hx hb dX6_look_101 hl (by decide) rfl (fun ls hl => ?_)
  refine lv_aload_n hx hb dX6_look_103 rfl (lv_at hl 1 rfl) ?_
  obtain ⟨g1, h⟩ := h
  obtain ⟨g2, h⟩ := h
  refine q_getR C hP (k := 8) (lay_X6 C.hA) rfl (by decide) g1 g2 (fl_X6_27 C.hA) dX6_look_104 ?_
  refine lv_iload hx hb dX6_look_107 (lv_at hl 4 rfl) ?_
  refine lv_iconst (v := (-1 : Int32)) hx hb dX6_look_109 (by decide) ?_
  obtain ⟨g3, h⟩ := h
  obtain ⟨g4, h⟩ := h
  refine q_iast C hP g3 g4 dX6_look_110 (fun H locs hP => ?_)
  obtain ⟨u_110, eu_110, hP⟩ := Hp.nm hP
  have h := h u_110 eu_110
  refine lv_aload_n hx hb dX6_look_111 rfl (lv_at hl 1 rfl) ?_
  obtain ⟨g5, h⟩ := h
  refine q_getR C hP (k := 5) (lay_X6 C.hA) rfl (by decide) g1 g5 (fl_X6_18 C.hA) dX6_look_112 ?_
  refine lv_iload hx hb dX6_look_115 (lv_at hl 4 rfl) ?_
  refine lv_iload hx hb dX6_look_117 (lv_at hl 0 rfl) ?_
  refine lv_if_eq (tgt := 146) hx hb dX6_look_119 (by decide) (fun c119 => ?_) (fun c119 => ?_)
  · have h := h.1 c119
    refine lv_iconst (v := (0 : Int32)) hx hb dX6_look_146 (by decide) ?_
    exact b_X6_look_147 C hr hlk hk_58 h (lv_sub hl [1, 2, 3, 4, 5] rfl) hP
  · have h := h.2 c119
    refine lv_aload_n hx hb dX6_look_122 rfl (lv_at hl 1 rfl) ?_
    refine q_getI C hP (k := 0) (lay_X6 C.hA) rfl (by decide) g1 (fl_X6_30 C.hA) dX6_look_123 ?_
    refine lv_aload_n hx hb dX6_look_126 rfl (lv_at hl 1 rfl) ?_
    refine q_getI C hP (k := 1) (lay_X6 C.hA) rfl (by decide) g1 (fl_X6_34 C.hA) dX6_look_127 ?_
    refine lv_aload hx hb dX6_look_130 (lv_at hl 5 rfl) ?_
    obtain ⟨g6, h⟩ := h
    refine q_getIN C hP (k := 0) (lay_X0 C.hA) rfl (by decide) g6 (fn_X6_68 C.hA) dX6_look_132 ?_
    refine lv_aload hx hb dX6_look_135 (lv_at hl 5 rfl) ?_
    refine q_getIN C hP (k := 1) (lay_X0 C.hA) rfl (by decide) g6 (fn_X6_69 C.hA) dX6_look_137 ?_
    refine q_cali (q_runSN C hP (c_X11_distanceSquare h) (cd_X11_distanceSquare C.hA) (ini_X11 C.hA) (mn_X6_70 C.hA) (st_X11_distanceSquare C.hA) hd_X11_distanceSquare ⟨rfl, rfl⟩ ⟨Nat.le_of_ble_eq_true rfl, Nat.le_of_ble_eq_true rfl⟩ ⟨Nat.le_of_ble_eq_true rfl, Nat.le_of_ble_eq_true rfl⟩ hl.1 rfl (Nat.le_of_ble_eq_true rfl) dX6_look_140) hP (fun v_140 u_140 H locs h hP => ?_)
    refine lv_goto (tgt := 147) hx hb dX6_look_143 (by decide) ?_
    exact b_X6_look_147 C hr hlk hk_58 h (lv_sub hl [1, 2, 3, 4, 5] rfl) hP
set_option maxHeartbeats 4000000 in
set_option maxRecDepth 100000 in
theorem b_X6_look_100 {G : Gx} {Q : Mm → Prop} {p : Program} {l : Launch} {e : Env} {s : State} {m : MethodId} {args : Array Value} {below : List Frame} {meth : Method} {c : Code} (C : Cx G p s m c cX6_look RX6 9) (hr : meth.sig.returnType = none) (hlk : meth.locks = false) {k_58 : Nat → Nat → Int32 → Int32 → Mm → Prop} (hk_58 : ∀ (x0 : Nat) (x1 : Nat) (x4 : Int32) (x6 : Int32) (u : Mm) (H : Heap) (locs : List Loc) (ls : Array Slot), k_58 x0 x1 x4 x6 u → lv_has ls 9 [(0, .ref x0), (1, .ref x1), (4, .int x4), (6, .int x6)] → Hp G u s H locs → W p l e rm_X6_look s m args below meth c H locs 0 0 (MQ below (Ev G Q) args s 0 0 (ag G)) (F0 m 58 ls [])) {x0 : Nat} {x1 : Nat} {x4 : Int32} {x6 : Int32} {x7 : Nat} {u : Mm} {H : Heap} {locs : List Loc} {ls : Array Slot} (h : V_X6_look_100 G Q k_58 x0 x1 x4 x6 x7 u) (hl : lv_has ls 9 [(0, .ref x0), (1, .ref x1), (4, .int x4), (6, .int x6), (7, .ref x7)]) (hP : Hp G u s H locs) : W p l e rm_X6_look s m args below meth c H locs 0 0 (MQ below (Ev G Q) args s 0 0 (ag G)) (F0 m 100 ls []) := by
  have hx := C.1
  have hb := C.2.1
  unfold V_X6_look_100 at h
  refine lv_iconst (v := (0 : Int32)) hx hb dX6_look_100 (by decide) ?_
  exact b_X6_look_101 C hr hlk hk_58 h (lv_sub hl [0, 1, 2, 3, 4] rfl) hP
set_option maxHeartbeats 4000000 in
set_option maxRecDepth 100000 in
theorem b_X6_look_58 {G : Gx} {Q : Mm → Prop} {p : Program} {l : Launch} {e : Env} {s : State} {m : MethodId} {args : Array Value} {below : List Frame} {meth : Method} {c : Code} (C : Cx G p s m c cX6_look RX6 9) (hr : meth.sig.returnType = none) (hlk : meth.locks = false) {k_58 : Nat → Nat → Int32 → Int32 → Mm → Prop} (hk_58 : ∀ (x0 : Nat) (x1 : Nat) (x4 : Int32) (x6 : Int32) (u : Mm) (H : Heap) (locs : List Loc) (ls : Array Slot), k_58 x0 x1 x4 x6 u → lv_has ls 9 [(0, .ref x0), (1, .ref x1), (4, .int x4), (6, .int x6)] → Hp G u s H locs → W p l e rm_X6_look s m args below meth c H locs 0 0 (MQ below (Ev G Q) args s 0 0 (ag G)) (F0 m 58 ls [])) {x0 : Nat} {x1 : Nat} {x4 : Int32} {x6 : Int32} {u : Mm} {H : Heap} {locs : List Loc} {ls : Array Slot} (h : V_X6_look_58_B G Q k_58 x0 x1 x4 x6 u) (hl : lv_has ls 9 [(0, .ref x0), (1, .ref x1), (4, .int x4), (6, .int x6)]) (hP : Hp G u s H locs) : W p l e rm_X6_look s m args below meth c H locs 0 0 (MQ below (Ev G Q) args s 0 0 (ag G)) (F0 m 58 ls []) := by
  have hx := C.1
  have hb := C.2.1
  unfold V_X6_look_58_B at h
  refine lv_iload hx hb dX6_look_58 (lv_at hl 3 rfl) ?_
  refine lv_aload_n hx hb dX6_look_60 rfl (lv_at hl 1 rfl) ?_
  obtain ⟨g1, h⟩ := h
  refine q_getIN C hP (k := 4) (lay_X4 C.hA) rfl (by decide) g1 (fn_X6_53 C.hA) dX6_look_61 ?_
  refine lv_icmp_ge (tgt := 197) hx hb dX6_look_64 (by decide) (fun c64 => ?_) (fun c64 => ?_)
  · have h := h.1 c64
    exact q_vret C hr hlk hP h (by decide) (by decide) dX6_look_197
  · have h := h.2 c64
    refine lv_aload_n hx hb dX6_look_67 rfl (lv_at hl 1 rfl) ?_
    obtain ⟨g2, h⟩ := h
    refine q_getRN C hP (k := 1) (lay_X4 C.hA) rfl (by decide) g1 g2 (fn_X6_56 C.hA) dX6_look_68 ?_
    refine lv_iload hx hb dX6_look_71 (lv_at hl 3 rfl) ?_
    obtain ⟨g3, h⟩ := h
    obtain ⟨g4, h⟩ := h
    obtain ⟨g5, h⟩ := h
    refine q_aald C hP g3 (by decide) rfl g4 g5 dX6_look_73 ?_
    refine q_topr (fun x7_74 ex7_74 => ?_)
    have h := h x7_74 ex7_74
    refine lv_astore (lv' := [(7, .ref x7_74), (0, .ref x0), (1, .ref x1), (4, .int x4), (6, .int x6)]) hx hb dX6_look_74 hl (by decide) rfl (fun ls hl => ?_)
    refine lv_iload hx hb dX6_look_76 (lv_at hl 3 rfl) ?_
    refine lv_aload hx hb dX6_look_78 (lv_at hl 0 rfl) ?_
    obtain ⟨g6, h⟩ := h
    refine q_getIN C hP (k := 3) (lay_X0 C.hA) rfl (by decide) g6 (fn_X6_60 C.hA) dX6_look_80 ?_
    refine lv_icmp_lt (tgt := 100) hx hb dX6_look_83 (by decide) (fun c83 => ?_) (fun c83 => ?_)
    · have h := h.1 c83
      exact b_X6_look_100 C hr hlk hk_58 h (lv_sub hl [1, 2, 3, 4, 0] rfl) hP
    · have h := h.2 c83
      refine lv_iload hx hb dX6_look_86 (lv_at hl 3 rfl) ?_
      refine lv_aload hx hb dX6_look_88 (lv_at hl 0 rfl) ?_
      refine q_getIN C hP (k := 4) (lay_X0 C.hA) rfl (by decide) g6 (fn_X6_65 C.hA) dX6_look_90 ?_
      refine lv_icmp_gt (tgt := 100) hx hb dX6_look_93 (by decide) (fun c93 => ?_) (fun c93 => ?_)
      · have h := h.1 c93
        exact b_X6_look_100 C hr hlk hk_58 h (lv_sub hl [1, 2, 3, 4, 0] rfl) hP
      · have h := h.2 c93
        refine lv_iconst (v := (1 : Int32)) hx hb dX6_look_96 (by decide) ?_
        refine lv_goto (tgt := 101) hx hb dX6_look_97 (by decide) ?_
        exact b_X6_look_101 C hr hlk hk_58 h (lv_sub hl [1, 2, 3, 4, 0] rfl) hP
theorem l_X6_look_58 {G : Gx} {Q : Mm → Prop} {p : Program} {l : Launch} {e : Env} {s : State} {m : MethodId} {args : Array Value} {below : List Frame} {meth : Method} {c : Code} (C : Cx G p s m c cX6_look RX6 9) (hr : meth.sig.returnType = none) (hlk : meth.locks = false) : ∀ (n : Nat) (x0 : Nat) (x1 : Nat) (x4 : Int32) (x6 : Int32) (u : Mm) (H : Heap) (locs : List Loc) (ls : Array Slot), V_X6_look_58 G Q n x0 x1 x4 x6 u → lv_has ls 9 [(0, .ref x0), (1, .ref x1), (4, .int x4), (6, .int x6)] → Hp G u s H locs → W p l e rm_X6_look s m args below meth c H locs 0 0 (MQ below (Ev G Q) args s 0 0 (ag G)) (F0 m 58 ls []) := by
  intro n
  induction n with
  | zero => intro x0 x1 x4 x6 u H locs ls h; exact h.elim
  | succ n ih => intro x0 x1 x4 x6 u H locs ls h hl hP; exact b_X6_look_58 C hr hlk ih h hl hP
set_option maxHeartbeats 4000000 in
set_option maxRecDepth 100000 in
theorem b_X6_look_19 {G : Gx} {Q : Mm → Prop} {p : Program} {l : Launch} {e : Env} {s : State} {m : MethodId} {args : Array Value} {below : List Frame} {meth : Method} {c : Code} (C : Cx G p s m c cX6_look RX6 9) (hr : meth.sig.returnType = none) (hlk : meth.locks = false) {k_19 : Nat → Nat → Int32 → Int32 → Mm → Prop} (hk_19 : ∀ (x0 : Nat) (x1 : Nat) (x4 : Int32) (x6 : Int32) (u : Mm) (H : Heap) (locs : List Loc) (ls : Array Slot), k_19 x0 x1 x4 x6 u → lv_has ls 9 [(0, .ref x0), (1, .ref x1), (4, .int x4), (6, .int x6)] → Hp G u s H locs → W p l e rm_X6_look s m args below meth c H locs 0 0 (MQ below (Ev G Q) args s 0 0 (ag G)) (F0 m 19 ls [])) {x0 : Nat} {x1 : Nat} {x4 : Int32} {x6 : Int32} {u : Mm} {H : Heap} {locs : List Loc} {ls : Array Slot} (h : V_X6_look_19_B G Q k_19 x0 x1 x4 x6 u) (hl : lv_has ls 9 [(0, .ref x0), (1, .ref x1), (4, .int x4), (6, .int x6)]) (hP : Hp G u s H locs) : W p l e rm_X6_look s m args below meth c H locs 0 0 (MQ below (Ev G Q) args s 0 0 (ag G)) (F0 m 19 ls []) := by
  have hx := C.1
  have hb := C.2.1
  unfold V_X6_look_19_B at h
  refine lv_iload hx hb dX6_look_19 (lv_at hl 3 rfl) ?_
  refine lv_aload_n hx hb dX6_look_21 rfl (lv_at hl 1 rfl) ?_
  obtain ⟨g1, h⟩ := h
  refine q_getIN C hP (k := 3) (lay_X4 C.hA) rfl (by decide) g1 (fn_X6_40 C.hA) dX6_look_22 ?_
  refine lv_icmp_ge (tgt := 55) hx hb dX6_look_25 (by decide) (fun c25 => ?_) (fun c25 => ?_)
  · have h := h.1 c25
    refine lv_iconst (v := (0 : Int32)) hx hb dX6_look_55 (by decide) ?_
    refine lv_istore (lv' := [(6, .int (0 : Int32)), (0, .ref x0), (1, .ref x1), (4, .int x4)]) hx hb dX6_look_56 hl (by decide) rfl (fun ls hl => ?_)
    obtain ⟨n, h⟩ := h
    exact l_X6_look_58 C hr hlk n x0 x1 x4 (0 : Int32) u _ _ _ h (lv_sub hl [1, 2, 3, 0] rfl) hP
  · have h := h.2 c25
    refine lv_aload_n hx hb dX6_look_28 rfl (lv_at hl 0 rfl) ?_
    obtain ⟨g2, h⟩ := h
    obtain ⟨g3, h⟩ := h
    refine q_getR C hP (k := 7) (lay_X6 C.hA) rfl (by decide) g2 g3 (fl_X6_24 C.hA) dX6_look_29 ?_
    refine lv_iload hx hb dX6_look_32 (lv_at hl 3 rfl) ?_
    refine lv_iconst (v := (-1 : Int32)) hx hb dX6_look_34 (by decide) ?_
    obtain ⟨g4, h⟩ := h
    obtain ⟨g5, h⟩ := h
    refine q_iast C hP g4 g5 dX6_look_35 (fun H locs hP => ?_)
    obtain ⟨u_35, eu_35, hP⟩ := Hp.nm hP
    have h := h u_35 eu_35
    refine lv_aload_n hx hb dX6_look_36 rfl (lv_at hl 0 rfl) ?_
    refine lv_aload_n hx hb dX6_look_37 rfl (lv_at hl 1 rfl) ?_
    obtain ⟨g6, h⟩ := h
    refine q_getRN C hP (k := 0) (lay_X4 C.hA) rfl (by decide) g1 g6 (fn_X6_45 C.hA) dX6_look_38 ?_
    refine lv_iload hx hb dX6_look_41 (lv_at hl 3 rfl) ?_
    obtain ⟨g7, h⟩ := h
    obtain ⟨g8, h⟩ := h
    obtain ⟨g9, h⟩ := h
    refine q_aald C hP g7 (by decide) rfl g8 g9 dX6_look_43 ?_
    refine lv_iload hx hb dX6_look_44 (lv_at hl 3 rfl) ?_
    refine q_calv (q_runV C hP (c_X6_lookAtWall h) (cd_X6_lookAtWall C.hA) (ini_X6 C.hA) (ml_X6_49 C.hA) (im_X6_lookAtWall C.hA) (sl_X6_lookAtWall C.hA) g2 (by decide) rfl hd_X6_lookAtWall ⟨rfl, rfl⟩ ⟨Nat.le_of_ble_eq_true rfl, Nat.le_of_ble_eq_true rfl⟩ ⟨Nat.le_of_ble_eq_true rfl, Nat.le_of_ble_eq_true rfl⟩ hl.1 rfl (Nat.le_of_ble_eq_true rfl) dX6_look_46) hP (fun u_46 H locs h hP => ?_)
    obtain ⟨x6_49, ex6_49⟩ : ∃ y : Int32, y = x6 + (1 : Int32) := ⟨_, rfl⟩
    have h := h x6_49 ex6_49
    refine lv_iinc (v := x6_49) (lv' := [(6, .int x6_49), (0, .ref x0), (1, .ref x1), (4, .int x4)]) hx hb dX6_look_49 hl (k := 3) rfl (by rw [ex6_49]; rfl) (by decide) rfl (fun ls hl => ?_)
    refine lv_goto (tgt := 19) hx hb dX6_look_52 (by decide) ?_
    exact hk_19 x0 x1 x4 x6_49 u_46 _ _ _ h (lv_sub hl [1, 2, 3, 0] rfl) hP
theorem l_X6_look_19 {G : Gx} {Q : Mm → Prop} {p : Program} {l : Launch} {e : Env} {s : State} {m : MethodId} {args : Array Value} {below : List Frame} {meth : Method} {c : Code} (C : Cx G p s m c cX6_look RX6 9) (hr : meth.sig.returnType = none) (hlk : meth.locks = false) : ∀ (n : Nat) (x0 : Nat) (x1 : Nat) (x4 : Int32) (x6 : Int32) (u : Mm) (H : Heap) (locs : List Loc) (ls : Array Slot), V_X6_look_19 G Q n x0 x1 x4 x6 u → lv_has ls 9 [(0, .ref x0), (1, .ref x1), (4, .int x4), (6, .int x6)] → Hp G u s H locs → W p l e rm_X6_look s m args below meth c H locs 0 0 (MQ below (Ev G Q) args s 0 0 (ag G)) (F0 m 19 ls []) := by
  intro n
  induction n with
  | zero => intro x0 x1 x4 x6 u H locs ls h; exact h.elim
  | succ n ih => intro x0 x1 x4 x6 u H locs ls h hl hP; exact b_X6_look_19 C hr hlk ih h hl hP
set_option maxHeartbeats 4000000 in
set_option maxRecDepth 100000 in
theorem c_X6_look {l : Launch} {G : Gx} {p0 : Nat} {p1 : Nat} {p2 : Int32} {p3 : Int32} {p4 : Int32} {p5 : Int32} {u : Mm} {Q : Mm → Prop} (h : V_X6_look G p0 p1 p2 p3 p4 p5 u Q) : Met l yX6_look [.code yX6_look cX6_look 9 none] rm_X6_look (va_Pc [.ref p0, .ref p1, .int p2, .int p3, .int p4, .int p5] (Wd G u)) (Ev G Q) 0 0 (ag G) := by
  refine q_met (by decide) (Nat.le_of_ble_eq_true rfl) ?_
  intro p e s m below meth c ls C hr hlk hnm hl hP
  have hl : lv_has ls 9 [(0, .ref p0), (1, .ref p1), (2, .int p2), (3, .int p3), (4, .int p4), (5, .int p5)] := hl
  generalize ([.ref p0, .ref p1, .int p2, .int p3, .int p4, .int p5] : List Value).toArray = args
  have hx := C.1
  have hb := C.2.1
  unfold V_X6_look at h
  refine lv_aload_n hx hb dX6_look_0 rfl (lv_at hl 0 rfl) ?_
  refine lv_iload_n hx hb dX6_look_1 rfl (lv_at hl 2 rfl) ?_
  obtain ⟨g1, h⟩ := h
  refine q_putI C hP (k := 0) tyX6_ok nmX6 (lay_X6 C.hA) rfl (by decide) rfl rfl rfl rfl g1 (fl_X6_30 C.hA) dX6_look_2 (fun H locs hP => ?_)
  obtain ⟨u_2, eu_2, hP⟩ := Hp.nm hP
  have h := h u_2 eu_2
  refine lv_aload_n hx hb dX6_look_5 rfl (lv_at hl 0 rfl) ?_
  refine lv_iload_n hx hb dX6_look_6 rfl (lv_at hl 3 rfl) ?_
  refine q_putI C hP (k := 1) tyX6_ok nmX6 (lay_X6 C.hA) rfl (by decide) rfl rfl rfl rfl g1 (fl_X6_34 C.hA) dX6_look_7 (fun H locs hP => ?_)
  obtain ⟨u_7, eu_7, hP⟩ := Hp.nm hP
  have h := h u_7 eu_7
  refine lv_aload_n hx hb dX6_look_10 rfl (lv_at hl 0 rfl) ?_
  refine lv_iload hx hb dX6_look_11 (lv_at hl 5 rfl) ?_
  refine q_putI C hP (k := 2) tyX6_ok nmX6 (lay_X6 C.hA) rfl (by decide) rfl rfl rfl rfl g1 (fl_X6_37 C.hA) dX6_look_13 (fun H locs hP => ?_)
  obtain ⟨u_13, eu_13, hP⟩ := Hp.nm hP
  have h := h u_13 eu_13
  refine lv_iconst (v := (0 : Int32)) hx hb dX6_look_16 (by decide) ?_
  refine lv_istore (lv' := [(6, .int (0 : Int32)), (0, .ref p0), (1, .ref p1), (2, .int p2), (3, .int p3), (4, .int p4), (5, .int p5)]) hx hb dX6_look_17 hl (by decide) rfl (fun ls hl => ?_)
  obtain ⟨n, h⟩ := h
  exact l_X6_look_19 C hr hlk n p0 p1 p4 (0 : Int32) u_13 _ _ _ h (lv_sub hl [1, 2, 5, 0] rfl) hP
-- X3_findNearest
abbrev rm_X3_findNearest : Room := { frames := 0, cells := 0, slots := 0, locals := 0 }
theorem hd_X3_findNearest : yX3_findNearest.cls ≠ "java/lang/invoke/MethodHandle" ∧ yX3_findNearest.cls ≠ "java/lang/invoke/VarHandle" ∧ (parseMethodDescriptor yX3_findNearest.desc).map (fun d => d.parameters.length) = some 3 := by decide +kernel
def V_X3_findNearest_97 (G : Gx) (Q : Mm → Prop) (k_26 : Nat → Nat → Int32 → Int32 → Int32 → Mm → Prop) (x0 : Nat) (x1 : Nat) (x2 : Int32) (x3 : Int32) (x4 : Int32) (u : Mm) : Prop :=
  ∀ x4_97 : Int32, x4_97 = x4 + (1 : Int32) → k_26 x0 x1 x2 x3 x4_97 u
def V_X3_findNearest_88 (G : Gx) (Q : Mm → Prop) (k_26 : Nat → Nat → Int32 → Int32 → Int32 → Mm → Prop) (x0 : Nat) (x1 : Nat) (x2 : Int32) (x3 : Int32) (x4 : Int32) (x5 : Int32) (u : Mm) : Prop :=
  kd G x0 = 3 ∧ (gR u x0 4) ≠ 0 ∧ kd G (gR u x0 4) = 13 ∧ vp_in x5 (ln G (gR u x0 4)) ∧ ∀ u_96 : Mm, u_96 = sI u (gR u x0 4) x5.toNatClampNeg x4 → V_X3_findNearest_97 G Q k_26 x0 x1 x2 x3 x4 u_96
def V_X3_findNearest_26_B (G : Gx) (Q : Mm → Prop) (k_26 : Nat → Nat → Int32 → Int32 → Int32 → Mm → Prop) (x0 : Nat) (x1 : Nat) (x2 : Int32) (x3 : Int32) (x4 : Int32) (u : Mm) : Prop :=
  ((x2 ≤ x4 → Q u) ∧ (¬ x2 ≤ x4 → kd G x1 = 6 ∧ (gR u x1 3) ≠ 0 ∧ kd G (gR u x1 3) = 13 ∧ vp_in x4 (ln G (gR u x1 3)) ∧ ∀ x5_39 : Int32, x5_39 = (gI u (gR u x1 3) x4.toNatClampNeg) → ((x5_39 = (-1 : Int32) → V_X3_findNearest_97 G Q k_26 x0 x1 x2 x3 x4 u) ∧ (¬ x5_39 = (-1 : Int32) → ((((ush x3 x4) &&& (1 : Int32)) = 0 → kd G x0 = 3 ∧ (gR u x0 4) ≠ 0 ∧ kd G (gR u x0 4) = 13 ∧ vp_in x5_39 (ln G (gR u x0 4)) ∧ ∀ x6_63 : Int32, x6_63 = (gI u (gR u x0 4) x5_39.toNatClampNeg) → ((x6_63 = (-1 : Int32) → V_X3_findNearest_88 G Q k_26 x0 x1 x2 x3 x4 x5_39 u) ∧ (¬ x6_63 = (-1 : Int32) → (gR u x1 4) ≠ 0 ∧ kd G (gR u x1 4) = 13 ∧ vp_in x4 (ln G (gR u x1 4)) ∧ vp_in x6_63 (ln G (gR u x1 4)) ∧ (((gI u (gR u x1 4) x6_63.toNatClampNeg) ≤ (gI u (gR u x1 4) x4.toNatClampNeg) → V_X3_findNearest_97 G Q k_26 x0 x1 x2 x3 x4 u) ∧ (¬ (gI u (gR u x1 4) x6_63.toNatClampNeg) ≤ (gI u (gR u x1 4) x4.toNatClampNeg) → V_X3_findNearest_88 G Q k_26 x0 x1 x2 x3 x4 x5_39 u))))) ∧ (¬ ((ush x3 x4) &&& (1 : Int32)) = 0 → V_X3_findNearest_97 G Q k_26 x0 x1 x2 x3 x4 u))))))
def V_X3_findNearest_26 (G : Gx) (Q : Mm → Prop) : Nat → (Nat → Nat → Int32 → Int32 → Int32 → Mm → Prop)
  | 0 => fun _ _ _ _ _ _ => False
  | n + 1 => fun x0 x1 x2 x3 x4 u => V_X3_findNearest_26_B G Q (V_X3_findNearest_26 G Q n) x0 x1 x2 x3 x4 u
def V_X3_findNearest_3_B (G : Gx) (Q : Mm → Prop) (k_3 : Nat → Nat → Int32 → Int32 → Int32 → Mm → Prop) (x0 : Nat) (x1 : Nat) (x2 : Int32) (x3 : Int32) (x4 : Int32) (u : Mm) : Prop :=
  (((4 : Int32) ≤ x4 → ∃ n : Nat, V_X3_findNearest_26 G Q n x0 x1 x2 x3 (0 : Int32) u) ∧ (¬ (4 : Int32) ≤ x4 → kd G x0 = 3 ∧ (gR u x0 4) ≠ 0 ∧ kd G (gR u x0 4) = 13 ∧ vp_in x4 (ln G (gR u x0 4)) ∧ ∀ u_16 : Mm, u_16 = sI u (gR u x0 4) x4.toNatClampNeg (-1 : Int32) → ∀ x4_17 : Int32, x4_17 = x4 + (1 : Int32) → k_3 x0 x1 x2 x3 x4_17 u_16))
def V_X3_findNearest_3 (G : Gx) (Q : Mm → Prop) : Nat → (Nat → Nat → Int32 → Int32 → Int32 → Mm → Prop)
  | 0 => fun _ _ _ _ _ _ => False
  | n + 1 => fun x0 x1 x2 x3 x4 u => V_X3_findNearest_3_B G Q (V_X3_findNearest_3 G Q n) x0 x1 x2 x3 x4 u
def V_X3_findNearest (G : Gx) (p0 : Nat) (p1 : Nat) (p2 : Int32) (p3 : Int32) (u : Mm) (Q : Mm → Prop) : Prop :=
  ∃ n : Nat, V_X3_findNearest_3 G Q n p0 p1 p2 p3 (0 : Int32) u
set_option maxHeartbeats 4000000 in
set_option maxRecDepth 100000 in
theorem b_X3_findNearest_97 {G : Gx} {Q : Mm → Prop} {p : Program} {l : Launch} {e : Env} {s : State} {m : MethodId} {args : Array Value} {below : List Frame} {meth : Method} {c : Code} (C : Cx G p s m c cX3_findNearest RX3 7) (hr : meth.sig.returnType = none) (hlk : meth.locks = false) {k_26 : Nat → Nat → Int32 → Int32 → Int32 → Mm → Prop} (hk_26 : ∀ (x0 : Nat) (x1 : Nat) (x2 : Int32) (x3 : Int32) (x4 : Int32) (u : Mm) (H : Heap) (locs : List Loc) (ls : Array Slot), k_26 x0 x1 x2 x3 x4 u → lv_has ls 7 [(0, .ref x0), (1, .ref x1), (2, .int x2), (3, .int x3), (4, .int x4)] → Hp G u s H locs → W p l e rm_X3_findNearest s m args below meth c H locs 0 0 (MQ below (Ev G Q) args s 0 0 (ag G)) (F0 m 26 ls [])) {x0 : Nat} {x1 : Nat} {x2 : Int32} {x3 : Int32} {x4 : Int32} {u : Mm} {H : Heap} {locs : List Loc} {ls : Array Slot} (h : V_X3_findNearest_97 G Q k_26 x0 x1 x2 x3 x4 u) (hl : lv_has ls 7 [(0, .ref x0), (1, .ref x1), (2, .int x2), (3, .int x3), (4, .int x4)]) (hP : Hp G u s H locs) : W p l e rm_X3_findNearest s m args below meth c H locs 0 0 (MQ below (Ev G Q) args s 0 0 (ag G)) (F0 m 97 ls []) := by
  have hx := C.1
  have hb := C.2.1
  unfold V_X3_findNearest_97 at h
  obtain ⟨x4_97, ex4_97⟩ : ∃ y : Int32, y = x4 + (1 : Int32) := ⟨_, rfl⟩
  have h := h x4_97 ex4_97
  refine lv_iinc (v := x4_97) (lv' := [(4, .int x4_97), (0, .ref x0), (1, .ref x1), (2, .int x2), (3, .int x3)]) hx hb dX3_findNearest_97 hl (k := 4) rfl (by rw [ex4_97]; rfl) (by decide) rfl (fun ls hl => ?_)
  refine lv_goto (tgt := 26) hx hb dX3_findNearest_100 (by decide) ?_
  exact hk_26 x0 x1 x2 x3 x4_97 u _ _ _ h (lv_sub hl [1, 2, 3, 4, 0] rfl) hP
set_option maxHeartbeats 4000000 in
set_option maxRecDepth 100000 in
theorem b_X3_findNearest_88 {G : Gx} {Q : Mm → Prop} {p : Program} {l : Launch} {e : Env} {s : State} {m : MethodId} {args : Array Value} {below : List Frame} {meth : Method} {c : Code} (C : Cx G p s m c cX3_findNearest RX3 7) (hr : meth.sig.returnType = none) (hlk : meth.locks = false) {k_26 : Nat → Nat → Int32 → Int32 → Int32 → Mm → Prop} (hk_26 : ∀ (x0 : Nat) (x1 : Nat) (x2 : Int32) (x3 : Int32) (x4 : Int32) (u : Mm) (H : Heap) (locs : List Loc) (ls : Array Slot), k_26 x0 x1 x2 x3 x4 u → lv_has ls 7 [(0, .ref x0), (1, .ref x1), (2, .int x2), (3, .int x3), (4, .int x4)] → Hp G u s H locs → W p l e rm_X3_findNearest s m args below meth c H locs 0 0 (MQ below (Ev G Q) args s 0 0 (ag G)) (F0 m 26 ls [])) {x0 : Nat} {x1 : Nat} {x2 : Int32} {x3 : Int32} {x4 : Int32} {x5 : Int32} {u : Mm} {H : Heap} {locs : List Loc} {ls : Array Slot} (h : V_X3_findNearest_88 G Q k_26 x0 x1 x2 x3 x4 x5 u) (hl : lv_has ls 7 [(0, .ref x0), (1, .ref x1), (2, .int x2), (3, .int x3), (4, .int x4), (5, .int x5)]) (hP : Hp G u s H locs) : W p l e rm_X3_findNearest s m args below meth c H locs 0 0 (MQ below (Ev G Q) args s 0 0 (ag G)) (F0 m 88 ls []) := by
  have hx := C.1
  have hb := C.2.1
  unfold V_X3_findNearest_88 at h
  refine lv_aload_n hx hb dX3_findNearest_88 rfl (lv_at hl 0 rfl) ?_
  obtain ⟨g1, h⟩ := h
  obtain ⟨g2, h⟩ := h
  refine q_getR C hP (k := 4) (lay_X3 C.hA) rfl (by decide) g1 g2 (fl_X3_23 C.hA) dX3_findNearest_89 ?_
  refine lv_iload hx hb dX3_findNearest_92 (lv_at hl 5 rfl) ?_
  refine lv_iload hx hb dX3_findNearest_94 (lv_at hl 4 rfl) ?_
  obtain ⟨g3, h⟩ := h
  obtain ⟨g4, h⟩ := h
  refine q_iast C hP g3 g4 dX3_findNearest_96 (fun H locs hP => ?_)
  obtain ⟨u_96, eu_96, hP⟩ := Hp.nm hP
  have h := h u_96 eu_96
  exact b_X3_findNearest_97 C hr hlk hk_26 h (lv_sub hl [0, 1, 2, 3, 4] rfl) hP
set_option maxHeartbeats 4000000 in
set_option maxRecDepth 100000 in
theorem b_X3_findNearest_26 {G : Gx} {Q : Mm → Prop} {p : Program} {l : Launch} {e : Env} {s : State} {m : MethodId} {args : Array Value} {below : List Frame} {meth : Method} {c : Code} (C : Cx G p s m c cX3_findNearest RX3 7) (hr : meth.sig.returnType = none) (hlk : meth.locks = false) {k_26 : Nat → Nat → Int32 → Int32 → Int32 → Mm → Prop} (hk_26 : ∀ (x0 : Nat) (x1 : Nat) (x2 : Int32) (x3 : Int32) (x4 : Int32) (u : Mm) (H : Heap) (locs : List Loc) (ls : Array Slot), k_26 x0 x1 x2 x3 x4 u → lv_has ls 7 [(0, .ref x0), (1, .ref x1), (2, .int x2), (3, .int x3), (4, .int x4)] → Hp G u s H locs → W p l e rm_X3_findNearest s m args below meth c H locs 0 0 (MQ below (Ev G Q) args s 0 0 (ag G)) (F0 m 26 ls [])) {x0 : Nat} {x1 : Nat} {x2 : Int32} {x3 : Int32} {x4 : Int32} {u : Mm} {H : Heap} {locs : List Loc} {ls : Array Slot} (h : V_X3_findNearest_26_B G Q k_26 x0 x1 x2 x3 x4 u) (hl : lv_has ls 7 [(0, .ref x0), (1, .ref x1), (2, .int x2), (3, .int x3), (4, .int x4)]) (hP : Hp G u s H locs) : W p l e rm_X3_findNearest s m args below meth c H locs 0 0 (MQ below (Ev G Q) args s 0 0 (ag G)) (F0 m 26 ls []) := by
  have hx := C.1
  have hb := C.2.1
  unfold V_X3_findNearest_26_B at h
  refine lv_iload hx hb dX3_findNearest_26 (lv_at hl 4 rfl) ?_
  refine lv_iload_n hx hb dX3_findNearest_28 rfl (lv_at hl 2 rfl) ?_
  refine lv_icmp_ge (tgt := 103) hx hb dX3_findNearest_29 (by decide) (fun c29 => ?_) (fun c29 => ?_)
  · have h := h.1 c29
    exact q_vret C hr hlk hP h (by decide) (by decide) dX3_findNearest_103
  · have h := h.2 c29
    refine lv_aload_n hx hb dX3_findNearest_32 rfl (lv_at hl 1 rfl) ?_
    obtain ⟨g1, h⟩ := h
    obtain ⟨g2, h⟩ := h
    refine q_getRN C hP (k := 3) (lay_X6 C.hA) rfl (by decide) g1 g2 (fn_X3_72 C.hA) dX3_findNearest_33 ?_
    refine lv_iload hx hb dX3_findNearest_36 (lv_at hl 4 rfl) ?_
    obtain ⟨g3, h⟩ := h
    obtain ⟨g4, h⟩ := h
    refine q_iald C hP g3 g4 dX3_findNearest_38 ?_
    refine lv_topi (fun x5_39 ex5_39 => ?_)
    have h := h x5_39 ex5_39
    refine lv_istore (lv' := [(5, .int x5_39), (0, .ref x0), (1, .ref x1), (2, .int x2), (3, .int x3), (4, .int x4)]) hx hb dX3_findNearest_39 hl (by decide) rfl (fun ls hl => ?_)
    refine lv_iload hx hb dX3_findNearest_41 (lv_at hl 0 rfl) ?_
    refine lv_iconst (v := (-1 : Int32)) hx hb dX3_findNearest_43 (by decide) ?_
    refine lv_icmp_eq (tgt := 97) hx hb dX3_findNearest_44 (by decide) (fun c44 => ?_) (fun c44 => ?_)
    · have h := h.1 c44
      exact b_X3_findNearest_97 C hr hlk hk_26 h (lv_sub hl [1, 2, 3, 4, 5] rfl) hP
    · have h := h.2 c44
      refine lv_iload_n hx hb dX3_findNearest_47 rfl (lv_at hl 4 rfl) ?_
      refine lv_iload hx hb dX3_findNearest_48 (lv_at hl 5 rfl) ?_
      refine lv_iushr (v := ush x3 x4) hx hb dX3_findNearest_50 rfl ?_
      refine lv_iconst (v := (1 : Int32)) hx hb dX3_findNearest_51 (by decide) ?_
      refine lv_iand hx hb dX3_findNearest_52 ?_
      refine lv_if_ne (tgt := 97) hx hb dX3_findNearest_53 (by decide) (fun c53 => ?_) (fun c53 => ?_)
      · have h := h.2 c53
        exact b_X3_findNearest_97 C hr hlk hk_26 h (lv_sub hl [1, 2, 3, 4, 5] rfl) hP
      · have h := h.1 c53
        refine lv_aload_n hx hb dX3_findNearest_56 rfl (lv_at hl 1 rfl) ?_
        obtain ⟨g5, h⟩ := h
        obtain ⟨g6, h⟩ := h
        refine q_getR C hP (k := 4) (lay_X3 C.hA) rfl (by decide) g5 g6 (fl_X3_23 C.hA) dX3_findNearest_57 ?_
        refine lv_iload hx hb dX3_findNearest_60 (lv_at hl 0 rfl) ?_
        obtain ⟨g7, h⟩ := h
        obtain ⟨g8, h⟩ := h
        refine q_iald C hP g7 g8 dX3_findNearest_62 ?_
        refine lv_topi (fun x6_63 ex6_63 => ?_)
        have h := h x6_63 ex6_63
        refine lv_istore (lv' := [(6, .int x6_63), (5, .int x5_39), (0, .ref x0), (1, .ref x1), (2, .int x2), (3, .int x3), (4, .int x4)]) hx hb dX3_findNearest_63 hl (by decide) rfl (fun ls hl => ?_)
        refine lv_iload hx hb dX3_findNearest_65 (lv_at hl 0 rfl) ?_
        refine lv_iconst (v := (-1 : Int32)) hx hb dX3_findNearest_67 (by decide) ?_
        refine lv_icmp_eq (tgt := 88) hx hb dX3_findNearest_68 (by decide) (fun c68 => ?_) (fun c68 => ?_)
        · have h := h.1 c68
          exact b_X3_findNearest_88 C hr hlk hk_26 h (lv_sub hl [2, 3, 4, 5, 6, 1] rfl) hP
        · have h := h.2 c68
          refine lv_aload_n hx hb dX3_findNearest_71 rfl (lv_at hl 3 rfl) ?_
          obtain ⟨g9, h⟩ := h
          refine q_getRN C hP (k := 4) (lay_X6 C.hA) rfl (by decide) g1 g9 (fn_X3_42 C.hA) dX3_findNearest_72 ?_
          refine lv_iload hx hb dX3_findNearest_75 (lv_at hl 6 rfl) ?_
          obtain ⟨g10, h⟩ := h
          obtain ⟨g11, h⟩ := h
          refine q_iald C hP g10 g11 dX3_findNearest_77 ?_
          refine lv_aload_n hx hb dX3_findNearest_78 rfl (lv_at hl 3 rfl) ?_
          refine q_getRN C hP (k := 4) (lay_X6 C.hA) rfl (by decide) g1 g9 (fn_X3_42 C.hA) dX3_findNearest_79 ?_
          refine lv_iload hx hb dX3_findNearest_82 (lv_at hl 0 rfl) ?_
          obtain ⟨g12, h⟩ := h
          refine q_iald C hP g10 g12 dX3_findNearest_84 ?_
          refine lv_icmp_ge (tgt := 97) hx hb dX3_findNearest_85 (by decide) (fun c85 => ?_) (fun c85 => ?_)
          · have h := h.1 c85
            exact b_X3_findNearest_97 C hr hlk hk_26 h (lv_sub hl [2, 3, 4, 5, 6] rfl) hP
          · have h := h.2 c85
            exact b_X3_findNearest_88 C hr hlk hk_26 h (lv_sub hl [2, 3, 4, 5, 6, 1] rfl) hP
theorem l_X3_findNearest_26 {G : Gx} {Q : Mm → Prop} {p : Program} {l : Launch} {e : Env} {s : State} {m : MethodId} {args : Array Value} {below : List Frame} {meth : Method} {c : Code} (C : Cx G p s m c cX3_findNearest RX3 7) (hr : meth.sig.returnType = none) (hlk : meth.locks = false) : ∀ (n : Nat) (x0 : Nat) (x1 : Nat) (x2 : Int32) (x3 : Int32) (x4 : Int32) (u : Mm) (H : Heap) (locs : List Loc) (ls : Array Slot), V_X3_findNearest_26 G Q n x0 x1 x2 x3 x4 u → lv_has ls 7 [(0, .ref x0), (1, .ref x1), (2, .int x2), (3, .int x3), (4, .int x4)] → Hp G u s H locs → W p l e rm_X3_findNearest s m args below meth c H locs 0 0 (MQ below (Ev G Q) args s 0 0 (ag G)) (F0 m 26 ls []) := by
  intro n
  induction n with
  | zero => intro x0 x1 x2 x3 x4 u H locs ls h; exact h.elim
  | succ n ih => intro x0 x1 x2 x3 x4 u H locs ls h hl hP; exact b_X3_findNearest_26 C hr hlk ih h hl hP
set_option maxHeartbeats 4000000 in
set_option maxRecDepth 100000 in
theorem b_X3_findNearest_3 {G : Gx} {Q : Mm → Prop} {p : Program} {l : Launch} {e : Env} {s : State} {m : MethodId} {args : Array Value} {below : List Frame} {meth : Method} {c : Code} (C : Cx G p s m c cX3_findNearest RX3 7) (hr : meth.sig.returnType = none) (hlk : meth.locks = false) {k_3 : Nat → Nat → Int32 → Int32 → Int32 → Mm → Prop} (hk_3 : ∀ (x0 : Nat) (x1 : Nat) (x2 : Int32) (x3 : Int32) (x4 : Int32) (u : Mm) (H : Heap) (locs : List Loc) (ls : Array Slot), k_3 x0 x1 x2 x3 x4 u → lv_has ls 7 [(0, .ref x0), (1, .ref x1), (2, .int x2), (3, .int x3), (4, .int x4)] → Hp G u s H locs → W p l e rm_X3_findNearest s m args below meth c H locs 0 0 (MQ below (Ev G Q) args s 0 0 (ag G)) (F0 m 3 ls [])) {x0 : Nat} {x1 : Nat} {x2 : Int32} {x3 : Int32} {x4 : Int32} {u : Mm} {H : Heap} {locs : List Loc} {ls : Array Slot} (h : V_X3_findNearest_3_B G Q k_3 x0 x1 x2 x3 x4 u) (hl : lv_has ls 7 [(0, .ref x0), (1, .ref x1), (2, .int x2), (3, .int x3), (4, .int x4)]) (hP : Hp G u s H locs) : W p l e rm_X3_findNearest s m args below meth c H locs 0 0 (MQ below (Ev G Q) args s 0 0 (ag G)) (F0 m 3 ls []) := by
  have hx := C.1
  have hb := C.2.1
  unfold V_X3_findNearest_3_B at h
  refine lv_iload hx hb dX3_findNearest_3 (lv_at hl 4 rfl) ?_
  refine lv_iconst (v := (4 : Int32)) hx hb dX3_findNearest_5 (by decide) ?_
  refine lv_icmp_ge (tgt := 23) hx hb dX3_findNearest_6 (by decide) (fun c6 => ?_) (fun c6 => ?_)
  · have h := h.1 c6
    refine lv_iconst (v := (0 : Int32)) hx hb dX3_findNearest_23 (by decide) ?_
    refine lv_istore (lv' := [(4, .int (0 : Int32)), (0, .ref x0), (1, .ref x1), (2, .int x2), (3, .int x3)]) hx hb dX3_findNearest_24 hl (by decide) rfl (fun ls hl => ?_)
    obtain ⟨n, h⟩ := h
    exact l_X3_findNearest_26 C hr hlk n x0 x1 x2 x3 (0 : Int32) u _ _ _ h (lv_sub hl [1, 2, 3, 4, 0] rfl) hP
  · have h := h.2 c6
    refine lv_aload_n hx hb dX3_findNearest_9 rfl (lv_at hl 0 rfl) ?_
    obtain ⟨g1, h⟩ := h
    obtain ⟨g2, h⟩ := h
    refine q_getR C hP (k := 4) (lay_X3 C.hA) rfl (by decide) g1 g2 (fl_X3_23 C.hA) dX3_findNearest_10 ?_
    refine lv_iload hx hb dX3_findNearest_13 (lv_at hl 4 rfl) ?_
    refine lv_iconst (v := (-1 : Int32)) hx hb dX3_findNearest_15 (by decide) ?_
    obtain ⟨g3, h⟩ := h
    obtain ⟨g4, h⟩ := h
    refine q_iast C hP g3 g4 dX3_findNearest_16 (fun H locs hP => ?_)
    obtain ⟨u_16, eu_16, hP⟩ := Hp.nm hP
    have h := h u_16 eu_16
    obtain ⟨x4_17, ex4_17⟩ : ∃ y : Int32, y = x4 + (1 : Int32) := ⟨_, rfl⟩
    have h := h x4_17 ex4_17
    refine lv_iinc (v := x4_17) (lv' := [(4, .int x4_17), (0, .ref x0), (1, .ref x1), (2, .int x2), (3, .int x3)]) hx hb dX3_findNearest_17 hl (k := 4) rfl (by rw [ex4_17]; rfl) (by decide) rfl (fun ls hl => ?_)
    refine lv_goto (tgt := 3) hx hb dX3_findNearest_20 (by decide) ?_
    exact hk_3 x0 x1 x2 x3 x4_17 u_16 _ _ _ h (lv_sub hl [1, 2, 3, 4, 0] rfl) hP
theorem l_X3_findNearest_3 {G : Gx} {Q : Mm → Prop} {p : Program} {l : Launch} {e : Env} {s : State} {m : MethodId} {args : Array Value} {below : List Frame} {meth : Method} {c : Code} (C : Cx G p s m c cX3_findNearest RX3 7) (hr : meth.sig.returnType = none) (hlk : meth.locks = false) : ∀ (n : Nat) (x0 : Nat) (x1 : Nat) (x2 : Int32) (x3 : Int32) (x4 : Int32) (u : Mm) (H : Heap) (locs : List Loc) (ls : Array Slot), V_X3_findNearest_3 G Q n x0 x1 x2 x3 x4 u → lv_has ls 7 [(0, .ref x0), (1, .ref x1), (2, .int x2), (3, .int x3), (4, .int x4)] → Hp G u s H locs → W p l e rm_X3_findNearest s m args below meth c H locs 0 0 (MQ below (Ev G Q) args s 0 0 (ag G)) (F0 m 3 ls []) := by
  intro n
  induction n with
  | zero => intro x0 x1 x2 x3 x4 u H locs ls h; exact h.elim
  | succ n ih => intro x0 x1 x2 x3 x4 u H locs ls h hl hP; exact b_X3_findNearest_3 C hr hlk ih h hl hP
set_option maxHeartbeats 4000000 in
set_option maxRecDepth 100000 in
theorem c_X3_findNearest {l : Launch} {G : Gx} {p0 : Nat} {p1 : Nat} {p2 : Int32} {p3 : Int32} {u : Mm} {Q : Mm → Prop} (h : V_X3_findNearest G p0 p1 p2 p3 u Q) : Met l yX3_findNearest [.code yX3_findNearest cX3_findNearest 7 none] rm_X3_findNearest (va_Pc [.ref p0, .ref p1, .int p2, .int p3] (Wd G u)) (Ev G Q) 0 0 (ag G) := by
  refine q_met (by decide) (Nat.le_of_ble_eq_true rfl) ?_
  intro p e s m below meth c ls C hr hlk hnm hl hP
  have hl : lv_has ls 7 [(0, .ref p0), (1, .ref p1), (2, .int p2), (3, .int p3)] := hl
  generalize ([.ref p0, .ref p1, .int p2, .int p3] : List Value).toArray = args
  have hx := C.1
  have hb := C.2.1
  unfold V_X3_findNearest at h
  refine lv_iconst (v := (0 : Int32)) hx hb dX3_findNearest_0 (by decide) ?_
  refine lv_istore (lv' := [(4, .int (0 : Int32)), (0, .ref p0), (1, .ref p1), (2, .int p2), (3, .int p3)]) hx hb dX3_findNearest_1 hl (by decide) rfl (fun ls hl => ?_)
  obtain ⟨n, h⟩ := h
  exact l_X3_findNearest_3 C hr hlk n p0 p1 p2 p3 (0 : Int32) u _ _ _ h (lv_sub hl [1, 2, 3, 4, 0] rfl) hP
-- X3_square
abbrev rm_X3_square : Room := { frames := 0, cells := 0, slots := 0, locals := 0 }
theorem hd_X3_square : yX3_square.cls ≠ "java/lang/invoke/MethodHandle" ∧ yX3_square.cls ≠ "java/lang/invoke/VarHandle" ∧ (parseMethodDescriptor yX3_square.desc).map (fun d => d.parameters.length) = some 1 := by decide +kernel
def V_X3_square (G : Gx) (p0 : Int32) (u : Mm) (Q : Int32 → Mm → Prop) : Prop :=
  Q (p0 * p0) u
set_option maxHeartbeats 4000000 in
set_option maxRecDepth 100000 in
theorem c_X3_square {l : Launch} {G : Gx} {p0 : Int32} {u : Mm} {Q : Int32 → Mm → Prop} (h : V_X3_square G p0 u Q) : Met l yX3_square [.code yX3_square cX3_square 1 (some .int)] rm_X3_square (va_Pc [.int p0] (Wd G u)) (Ei G Q) 0 0 (ag G) := by
  refine q_met (by decide) (Nat.le_of_ble_eq_true rfl) ?_
  intro p e s m below meth c ls C hr hlk hnm hl hP
  have hl : lv_has ls 1 [(0, .int p0)] := hl
  generalize ([.int p0] : List Value).toArray = args
  have hx := C.1
  have hb := C.2.1
  unfold V_X3_square at h
  refine lv_iload_n hx hb dX3_square_0 rfl (lv_at hl 0 rfl) ?_
  refine lv_iload_n hx hb dX3_square_1 rfl (lv_at hl 0 rfl) ?_
  refine lv_imul hx hb dX3_square_2 ?_
  exact q_iret C hr hlk hP h (by decide) (by decide) dX3_square_3
-- X6_wallStrength
abbrev rm_X6_wallStrength : Room := { frames := 3, cells := 0, slots := 0, locals := 74 }
theorem hd_X6_wallStrength : yX6_wallStrength.cls ≠ "java/lang/invoke/MethodHandle" ∧ yX6_wallStrength.cls ≠ "java/lang/invoke/VarHandle" ∧ (parseMethodDescriptor yX6_wallStrength.desc).map (fun d => d.parameters.length) = some 2 := by decide +kernel
def V_X6_wallStrength_60 (G : Gx) (Q : Int32 → Mm → Prop) (x0 : Nat) (x2 : Int32) (u : Mm) : Prop :=
  kd G x0 = 6 ∧ (gR u x0 7) ≠ 0 ∧ kd G (gR u x0 7) = 13 ∧ vp_in x2 (ln G (gR u x0 7)) ∧ Q (gI u (gR u x0 7) x2.toNatClampNeg) u
def V_X6_wallStrength (G : Gx) (p0 : Nat) (p1 : Nat) (p2 : Int32) (u : Mm) (Q : Int32 → Mm → Prop) : Prop :=
  kd G p0 = 6 ∧ (gR u p0 7) ≠ 0 ∧ kd G (gR u p0 7) = 13 ∧ vp_in p2 (ln G (gR u p0 7)) ∧ (((gI u (gR u p0 7) p2.toNatClampNeg) = (-1 : Int32) → kd G p1 = 4 ∧ (gR u p1 0) ≠ 0 ∧ kd G (gR u p1 0) = 17 ∧ vp_in p2 (ln G (gR u p1 0)) ∧ (gR u (gR u p1 0) p2.toNatClampNeg) ≠ 0 ∧ ∀ x3_16 : Nat, x3_16 = (gR u (gR u p1 0) p2.toNatClampNeg) → kd G x3_16 = 9 ∧ V_X9_footX G x3_16 (gI u p0 0) u (fun (v_40 : Int32) (u_40 : Mm) => V_X9_footY G x3_16 (gI u_40 p0 1) u_40 (fun (v_48 : Int32) (u_48 : Mm) => V_X4_strengthAlong G p1 (gI u x3_16 4) (gI u p0 0) (gI u p0 1) v_40 v_48 (gI u_48 p0 2) (2 : Int32) u_48 (fun (v_56 : Int32) (u_56 : Mm) => ∀ u_59 : Mm, u_59 = sI u_56 (gR u p0 7) p2.toNatClampNeg v_56 → V_X6_wallStrength_60 G Q p0 p2 u_59)))) ∧ (¬ (gI u (gR u p0 7) p2.toNatClampNeg) = (-1 : Int32) → V_X6_wallStrength_60 G Q p0 p2 u))
set_option maxHeartbeats 4000000 in
set_option maxRecDepth 100000 in
theorem b_X6_wallStrength_60 {G : Gx} {Q : Int32 → Mm → Prop} {p : Program} {l : Launch} {e : Env} {s : State} {m : MethodId} {args : Array Value} {below : List Frame} {meth : Method} {c : Code} (C : Cx G p s m c cX6_wallStrength RX6 4) (hr : meth.sig.returnType = (some .int)) (hlk : meth.locks = false) {x0 : Nat} {x2 : Int32} {u : Mm} {H : Heap} {locs : List Loc} {ls : Array Slot} (h : V_X6_wallStrength_60 G Q x0 x2 u) (hl : lv_has ls 4 [(0, .ref x0), (2, .int x2)]) (hP : Hp G u s H locs) : W p l e rm_X6_wallStrength s m args below meth c H locs 0 0 (MQ below (Ei G Q) args s 0 0 (ag G)) (F0 m 60 ls []) := by
  have hx := C.1
  have hb := C.2.1
  unfold V_X6_wallStrength_60 at h
  refine lv_aload_n hx hb dX6_wallStrength_60 rfl (lv_at hl 0 rfl) ?_
  obtain ⟨g1, h⟩ := h
  obtain ⟨g2, h⟩ := h
  refine q_getR C hP (k := 7) (lay_X6 C.hA) rfl (by decide) g1 g2 (fl_X6_24 C.hA) dX6_wallStrength_61 ?_
  refine lv_iload_n hx hb dX6_wallStrength_64 rfl (lv_at hl 1 rfl) ?_
  obtain ⟨g3, h⟩ := h
  obtain ⟨g4, h⟩ := h
  refine q_iald C hP g3 g4 dX6_wallStrength_65 ?_
  exact q_iret C hr hlk hP h (by decide) (by decide) dX6_wallStrength_66
set_option maxHeartbeats 4000000 in
set_option maxRecDepth 100000 in
theorem c_X6_wallStrength {l : Launch} {G : Gx} {p0 : Nat} {p1 : Nat} {p2 : Int32} {u : Mm} {Q : Int32 → Mm → Prop} (h : V_X6_wallStrength G p0 p1 p2 u Q) : Met l yX6_wallStrength [.code yX6_wallStrength cX6_wallStrength 4 (some .int)] rm_X6_wallStrength (va_Pc [.ref p0, .ref p1, .int p2] (Wd G u)) (Ei G Q) 0 0 (ag G) := by
  refine q_met (by decide) (Nat.le_of_ble_eq_true rfl) ?_
  intro p e s m below meth c ls C hr hlk hnm hl hP
  have hl : lv_has ls 4 [(0, .ref p0), (1, .ref p1), (2, .int p2)] := hl
  generalize ([.ref p0, .ref p1, .int p2] : List Value).toArray = args
  have hx := C.1
  have hb := C.2.1
  unfold V_X6_wallStrength at h
  refine lv_aload_n hx hb dX6_wallStrength_0 rfl (lv_at hl 0 rfl) ?_
  obtain ⟨g1, h⟩ := h
  obtain ⟨g2, h⟩ := h
  refine q_getR C hP (k := 7) (lay_X6 C.hA) rfl (by decide) g1 g2 (fl_X6_24 C.hA) dX6_wallStrength_1 ?_
  refine lv_iload_n hx hb dX6_wallStrength_4 rfl (lv_at hl 2 rfl) ?_
  obtain ⟨g3, h⟩ := h
  obtain ⟨g4, h⟩ := h
  refine q_iald C hP g3 g4 dX6_wallStrength_5 ?_
  refine lv_iconst (v := (-1 : Int32)) hx hb dX6_wallStrength_6 (by decide) ?_
  refine lv_icmp_ne (tgt := 60) hx hb dX6_wallStrength_7 (by decide) (fun c7 => ?_) (fun c7 => ?_)
  · have h := h.2 c7
    exact b_X6_wallStrength_60 C hr hlk h (lv_sub hl [0, 2] rfl) hP
  · have h := h.1 c7
    refine lv_aload_n hx hb dX6_wallStrength_10 rfl (lv_at hl 1 rfl) ?_
    obtain ⟨g5, h⟩ := h
    obtain ⟨g6, h⟩ := h
    refine q_getRN C hP (k := 0) (lay_X4 C.hA) rfl (by decide) g5 g6 (fn_X6_45 C.hA) dX6_wallStrength_11 ?_
    refine lv_iload_n hx hb dX6_wallStrength_14 rfl (lv_at hl 2 rfl) ?_
    obtain ⟨g7, h⟩ := h
    obtain ⟨g8, h⟩ := h
    obtain ⟨g9, h⟩ := h
    refine q_aald C hP g7 (by decide) rfl g8 g9 dX6_wallStrength_15 ?_
    refine q_topr (fun x3_16 ex3_16 => ?_)
    have h := h x3_16 ex3_16
    refine lv_astore_n (lv' := [(3, .ref x3_16), (0, .ref p0), (1, .ref p1), (2, .int p2)]) hx hb dX6_wallStrength_16 rfl hl (by decide) rfl (fun ls hl => ?_)
    refine lv_aload_n hx hb dX6_wallStrength_17 rfl (lv_at hl 1 rfl) ?_
    refine q_getR C hP (k := 7) (lay_X6 C.hA) rfl (by decide) g1 g2 (fl_X6_24 C.hA) dX6_wallStrength_18 ?_
    refine lv_iload_n hx hb dX6_wallStrength_21 rfl (lv_at hl 3 rfl) ?_
    refine lv_aload_n hx hb dX6_wallStrength_22 rfl (lv_at hl 2 rfl) ?_
    refine lv_aload_n hx hb dX6_wallStrength_23 rfl (lv_at hl 0 rfl) ?_
    obtain ⟨g10, h⟩ := h
    refine q_getIN C hP (k := 4) (lay_X9 C.hA) rfl (by decide) g10 (fn_X6_96 C.hA) dX6_wallStrength_24 ?_
    refine lv_aload_n hx hb dX6_wallStrength_27 rfl (lv_at hl 1 rfl) ?_
    refine q_getI C hP (k := 0) (lay_X6 C.hA) rfl (by decide) g1 (fl_X6_30 C.hA) dX6_wallStrength_28 ?_
    refine lv_aload_n hx hb dX6_wallStrength_31 rfl (lv_at hl 1 rfl) ?_
    refine q_getI C hP (k := 1) (lay_X6 C.hA) rfl (by decide) g1 (fl_X6_34 C.hA) dX6_wallStrength_32 ?_
    refine lv_aload_n hx hb dX6_wallStrength_35 rfl (lv_at hl 0 rfl) ?_
    refine lv_aload_n hx hb dX6_wallStrength_36 rfl (lv_at hl 1 rfl) ?_
    refine q_getI C hP (k := 0) (lay_X6 C.hA) rfl (by decide) g1 (fl_X6_30 C.hA) dX6_wallStrength_37 ?_
    refine q_cali (q_runVN C hP (c_X9_footX h) (cd_X9_footX C.hA) (ini_X9 C.hA) (mn_X6_99 C.hA) (im_X9_footX C.hA) (sl_X9_footX C.hA) g10 (by decide) rfl hd_X9_footX ⟨rfl, rfl⟩ ⟨Nat.le_of_ble_eq_true rfl, Nat.le_of_ble_eq_true rfl⟩ ⟨Nat.le_of_ble_eq_true rfl, Nat.le_of_ble_eq_true rfl⟩ hl.1 rfl (Nat.le_of_ble_eq_true rfl) dX6_wallStrength_40) hP (fun v_40 u_40 H locs h hP => ?_)
    refine lv_aload_n hx hb dX6_wallStrength_43 rfl (lv_at hl 0 rfl) ?_
    refine lv_aload_n hx hb dX6_wallStrength_44 rfl (lv_at hl 1 rfl) ?_
    refine q_getI C hP (k := 1) (lay_X6 C.hA) rfl (by decide) g1 (fl_X6_34 C.hA) dX6_wallStrength_45 ?_
    refine q_cali (q_runVN C hP (c_X9_footY h) (cd_X9_footY C.hA) (ini_X9 C.hA) (mn_X6_102 C.hA) (im_X9_footY C.hA) (sl_X9_footY C.hA) g10 (by decide) rfl hd_X9_footY ⟨rfl, rfl⟩ ⟨Nat.le_of_ble_eq_true rfl, Nat.le_of_ble_eq_true rfl⟩ ⟨Nat.le_of_ble_eq_true rfl, Nat.le_of_ble_eq_true rfl⟩ hl.1 rfl (Nat.le_of_ble_eq_true rfl) dX6_wallStrength_48) hP (fun v_48 u_48 H locs h hP => ?_)
    refine lv_aload_n hx hb dX6_wallStrength_51 rfl (lv_at hl 1 rfl) ?_
    refine q_getI C hP (k := 2) (lay_X6 C.hA) rfl (by decide) g1 (fl_X6_37 C.hA) dX6_wallStrength_52 ?_
    refine lv_iconst (v := (2 : Int32)) hx hb dX6_wallStrength_55 (by decide) ?_
    refine q_cali (q_runVN C hP (c_X4_strengthAlong h) (cd_X4_strengthAlong C.hA) (ini_X4 C.hA) (mn_X6_105 C.hA) (im_X4_strengthAlong C.hA) (sl_X4_strengthAlong C.hA) g5 (by decide) rfl hd_X4_strengthAlong ⟨rfl, rfl⟩ ⟨Nat.le_of_ble_eq_true rfl, Nat.le_of_ble_eq_true rfl⟩ ⟨Nat.le_of_ble_eq_true rfl, Nat.le_of_ble_eq_true rfl⟩ hl.1 rfl (Nat.le_of_ble_eq_true rfl) dX6_wallStrength_56) hP (fun v_56 u_56 H locs h hP => ?_)
    refine q_iast C hP g3 g4 dX6_wallStrength_59 (fun H locs hP => ?_)
    obtain ⟨u_59, eu_59, hP⟩ := Hp.nm hP
    have h := h u_59 eu_59
    exact b_X6_wallStrength_60 C hr hlk h (lv_sub hl [1, 3] rfl) hP
-- X3_add
abbrev rm_X3_add : Room := { frames := 0, cells := 0, slots := 0, locals := 0 }
theorem hd_X3_add : yX3_add.cls ≠ "java/lang/invoke/MethodHandle" ∧ yX3_add.cls ≠ "java/lang/invoke/VarHandle" ∧ (parseMethodDescriptor yX3_add.desc).map (fun d => d.parameters.length) = some 3 := by decide +kernel
def V_X3_add (G : Gx) (p0 : Nat) (p1 : Int32) (p2 : Int32) (p3 : Int32) (u : Mm) (Q : Mm → Prop) : Prop :=
  kd G p0 = 3 ∧ (((gI u p0 0) < (16 : Int32) → (gR u p0 1) ≠ 0 ∧ kd G (gR u p0 1) = 13 ∧ vp_in (gI u p0 0) (ln G (gR u p0 1)) ∧ ∀ u_19 : Mm, u_19 = sI u (gR u p0 1) (gI u p0 0).toNatClampNeg p1 → (gR u_19 p0 2) ≠ 0 ∧ kd G (gR u_19 p0 2) = 13 ∧ vp_in (gI u_19 p0 0) (ln G (gR u_19 p0 2)) ∧ ∀ u_29 : Mm, u_29 = sI u_19 (gR u_19 p0 2) (gI u_19 p0 0).toNatClampNeg p2 → (gR u_29 p0 3) ≠ 0 ∧ kd G (gR u_29 p0 3) = 13 ∧ vp_in (gI u_29 p0 0) (ln G (gR u_29 p0 3)) ∧ ∀ u_39 : Mm, u_39 = sI u_29 (gR u_29 p0 3) (gI u_29 p0 0).toNatClampNeg p3 → ∀ u_47 : Mm, u_47 = sI u_39 p0 0 ((gI u_39 p0 0) + (1 : Int32)) → Q u_47) ∧ (¬ (gI u p0 0) < (16 : Int32) → Q u))
set_option maxHeartbeats 4000000 in
set_option maxRecDepth 100000 in
theorem c_X3_add {l : Launch} {G : Gx} {p0 : Nat} {p1 : Int32} {p2 : Int32} {p3 : Int32} {u : Mm} {Q : Mm → Prop} (h : V_X3_add G p0 p1 p2 p3 u Q) : Met l yX3_add [.code yX3_add cX3_add 4 none] rm_X3_add (va_Pc [.ref p0, .int p1, .int p2, .int p3] (Wd G u)) (Ev G Q) 0 0 (ag G) := by
  refine q_met (by decide) (Nat.le_of_ble_eq_true rfl) ?_
  intro p e s m below meth c ls C hr hlk hnm hl hP
  have hl : lv_has ls 4 [(0, .ref p0), (1, .int p1), (2, .int p2), (3, .int p3)] := hl
  generalize ([.ref p0, .int p1, .int p2, .int p3] : List Value).toArray = args
  have hx := C.1
  have hb := C.2.1
  unfold V_X3_add at h
  refine lv_aload_n hx hb dX3_add_0 rfl (lv_at hl 0 rfl) ?_
  obtain ⟨g1, h⟩ := h
  refine q_getI C hP (k := 0) (lay_X3 C.hA) rfl (by decide) g1 (fl_X3_29 C.hA) dX3_add_1 ?_
  refine lv_bipush (v := (16 : Int32)) hx hb dX3_add_4 (by decide) ?_
  refine lv_icmp_lt (tgt := 10) hx hb dX3_add_6 (by decide) (fun c6 => ?_) (fun c6 => ?_)
  · have h := h.1 c6
    refine lv_aload_n hx hb dX3_add_10 rfl (lv_at hl 0 rfl) ?_
    obtain ⟨g2, h⟩ := h
    refine q_getR C hP (k := 1) (lay_X3 C.hA) rfl (by decide) g1 g2 (fl_X3_9 C.hA) dX3_add_11 ?_
    refine lv_aload_n hx hb dX3_add_14 rfl (lv_at hl 0 rfl) ?_
    refine q_getI C hP (k := 0) (lay_X3 C.hA) rfl (by decide) g1 (fl_X3_29 C.hA) dX3_add_15 ?_
    refine lv_iload_n hx hb dX3_add_18 rfl (lv_at hl 1 rfl) ?_
    obtain ⟨g3, h⟩ := h
    obtain ⟨g4, h⟩ := h
    refine q_iast C hP g3 g4 dX3_add_19 (fun H locs hP => ?_)
    obtain ⟨u_19, eu_19, hP⟩ := Hp.nm hP
    have h := h u_19 eu_19
    refine lv_aload_n hx hb dX3_add_20 rfl (lv_at hl 0 rfl) ?_
    obtain ⟨g5, h⟩ := h
    refine q_getR C hP (k := 2) (lay_X3 C.hA) rfl (by decide) g1 g5 (fl_X3_15 C.hA) dX3_add_21 ?_
    refine lv_aload_n hx hb dX3_add_24 rfl (lv_at hl 0 rfl) ?_
    refine q_getI C hP (k := 0) (lay_X3 C.hA) rfl (by decide) g1 (fl_X3_29 C.hA) dX3_add_25 ?_
    refine lv_iload_n hx hb dX3_add_28 rfl (lv_at hl 2 rfl) ?_
    obtain ⟨g6, h⟩ := h
    obtain ⟨g7, h⟩ := h
    refine q_iast C hP g6 g7 dX3_add_29 (fun H locs hP => ?_)
    obtain ⟨u_29, eu_29, hP⟩ := Hp.nm hP
    have h := h u_29 eu_29
    refine lv_aload_n hx hb dX3_add_30 rfl (lv_at hl 0 rfl) ?_
    obtain ⟨g8, h⟩ := h
    refine q_getR C hP (k := 3) (lay_X3 C.hA) rfl (by decide) g1 g8 (fl_X3_18 C.hA) dX3_add_31 ?_
    refine lv_aload_n hx hb dX3_add_34 rfl (lv_at hl 0 rfl) ?_
    refine q_getI C hP (k := 0) (lay_X3 C.hA) rfl (by decide) g1 (fl_X3_29 C.hA) dX3_add_35 ?_
    refine lv_iload_n hx hb dX3_add_38 rfl (lv_at hl 3 rfl) ?_
    obtain ⟨g9, h⟩ := h
    obtain ⟨g10, h⟩ := h
    refine q_iast C hP g9 g10 dX3_add_39 (fun H locs hP => ?_)
    obtain ⟨u_39, eu_39, hP⟩ := Hp.nm hP
    have h := h u_39 eu_39
    refine lv_aload_n hx hb dX3_add_40 rfl (lv_at hl 0 rfl) ?_
    refine lv_dup hx hb dX3_add_41 rfl ?_
    refine q_getI C hP (k := 0) (lay_X3 C.hA) rfl (by decide) g1 (fl_X3_29 C.hA) dX3_add_42 ?_
    refine lv_iconst (v := (1 : Int32)) hx hb dX3_add_45 (by decide) ?_
    refine lv_iadd hx hb dX3_add_46 ?_
    refine q_putI C hP (k := 0) tyX3_ok nmX3 (lay_X3 C.hA) rfl (by decide) rfl rfl rfl rfl g1 (fl_X3_29 C.hA) dX3_add_47 (fun H locs hP => ?_)
    obtain ⟨u_47, eu_47, hP⟩ := Hp.nm hP
    have h := h u_47 eu_47
    exact q_vret C hr hlk hP h (by decide) (by decide) dX3_add_50
  · have h := h.2 c6
    exact q_vret C hr hlk hP h (by decide) (by decide) dX3_add_9
-- X3_addSecond
abbrev rm_X3_addSecond : Room := { frames := 1, cells := 0, slots := 0, locals := 23 }
theorem hd_X3_addSecond : yX3_addSecond.cls ≠ "java/lang/invoke/MethodHandle" ∧ yX3_addSecond.cls ≠ "java/lang/invoke/VarHandle" ∧ (parseMethodDescriptor yX3_addSecond.desc).map (fun d => d.parameters.length) = some 3 := by decide +kernel
def V_X3_addSecond_95 (G : Gx) (Q : Mm → Prop) (x0 : Nat) (x1 : Nat) (x4 : Int32) (x5 : Int32) (t0 : Int32) (u : Mm) : Prop :=
  ∀ x10_118 : Int32, x10_118 = (((16 : Int32) + ((8 : Int32) * (mn x4 x5))) + (mx x4 x5)) → kd G x1 = 6 ∧ (gR u x1 7) ≠ 0 ∧ kd G (gR u x1 7) = 13 ∧ vp_in x4 (ln G (gR u x1 7)) ∧ vp_in x5 (ln G (gR u x1 7)) ∧ kd G x0 = 3 ∧ V_X3_add G x0 x10_118 t0 (((gI u (gR u x1 7) x4.toNatClampNeg) * (gI u (gR u x1 7) x5.toNatClampNeg)) / (1000 : Int32)) u (fun (u_144 : Mm) => Q u_144)
def V_X3_addSecond_66 (G : Gx) (Q : Mm → Prop) (x0 : Nat) (x1 : Nat) (x4 : Int32) (x5 : Int32) (x6 : Int32) (x7 : Int32) (t0 : Int32) (u : Mm) : Prop :=
  ((t0 = 0 → V_X3_square G x6 u (fun (v_86 : Int32) (u_86 : Mm) => V_X3_square G x7 u_86 (fun (v_91 : Int32) (u_91 : Mm) => V_X3_addSecond_95 G Q x0 x1 x4 x5 (v_86 + v_91) u_91))) ∧ (¬ t0 = 0 → V_X3_square G (x6 + x7) u (fun (v_78 : Int32) (u_78 : Mm) => V_X3_addSecond_95 G Q x0 x1 x4 x5 v_78 u_78)))
def V_X3_addSecond_61 (G : Gx) (Q : Mm → Prop) (x0 : Nat) (x1 : Nat) (x4 : Int32) (x5 : Int32) (x6 : Int32) (x7 : Int32) (u : Mm) : Prop :=
  V_X3_addSecond_66 G Q x0 x1 x4 x5 x6 x7 (1 : Int32) u
def V_X3_addSecond (G : Gx) (p0 : Nat) (p1 : Nat) (p2 : Int32) (p3 : Int32) (u : Mm) (Q : Mm → Prop) : Prop :=
  kd G p0 = 3 ∧ (gR u p0 4) ≠ 0 ∧ kd G (gR u p0 4) = 13 ∧ vp_in p2 (ln G (gR u p0 4)) ∧ ∀ x4_6 : Int32, x4_6 = (gI u (gR u p0 4) p2.toNatClampNeg) → vp_in p3 (ln G (gR u p0 4)) ∧ ∀ x5_14 : Int32, x5_14 = (gI u (gR u p0 4) p3.toNatClampNeg) → ((x4_6 = (-1 : Int32) → Q u) ∧ (¬ x4_6 = (-1 : Int32) → ((x5_14 = (-1 : Int32) → Q u) ∧ (¬ x5_14 = (-1 : Int32) → kd G p1 = 6 ∧ (gR u p1 4) ≠ 0 ∧ kd G (gR u p1 4) = 13 ∧ vp_in x4_6 (ln G (gR u p1 4)) ∧ ∀ x6_38 : Int32, x6_38 = ((2 : Int32) * (gI u (gR u p1 4) x4_6.toNatClampNeg)) → vp_in x5_14 (ln G (gR u p1 4)) ∧ ∀ x7_49 : Int32, x7_49 = ((2 : Int32) * (gI u (gR u p1 4) x5_14.toNatClampNeg)) → ((p3 = (1 : Int32) → V_X3_addSecond_61 G Q p0 p1 x4_6 x5_14 x6_38 x7_49 u) ∧ (¬ p3 = (1 : Int32) → ((p2 = (2 : Int32) → V_X3_addSecond_61 G Q p0 p1 x4_6 x5_14 x6_38 x7_49 u) ∧ (¬ p2 = (2 : Int32) → V_X3_addSecond_66 G Q p0 p1 x4_6 x5_14 x6_38 x7_49 (0 : Int32) u))))))))
set_option maxHeartbeats 4000000 in
set_option maxRecDepth 100000 in
theorem b_X3_addSecond_95 {G : Gx} {Q : Mm → Prop} {p : Program} {l : Launch} {e : Env} {s : State} {m : MethodId} {args : Array Value} {below : List Frame} {meth : Method} {c : Code} (C : Cx G p s m c cX3_addSecond RX3 11) (hr : meth.sig.returnType = none) (hlk : meth.locks = false) {x0 : Nat} {x1 : Nat} {x4 : Int32} {x5 : Int32} {t0 : Int32} {u : Mm} {H : Heap} {locs : List Loc} {ls : Array Slot} (h : V_X3_addSecond_95 G Q x0 x1 x4 x5 t0 u) (hl : lv_has ls 11 [(0, .ref x0), (1, .ref x1), (4, .int x4), (5, .int x5)]) (hP : Hp G u s H locs) : W p l e rm_X3_addSecond s m args below meth c H locs 0 0 (MQ below (Ev G Q) args s 0 0 (ag G)) (F0 m 95 ls [.int t0]) := by
  have hx := C.1
  have hb := C.2.1
  unfold V_X3_addSecond_95 at h
  refine lv_istore (lv' := [(9, .int t0), (0, .ref x0), (1, .ref x1), (4, .int x4), (5, .int x5)]) hx hb dX3_addSecond_95 hl (by decide) rfl (fun ls hl => ?_)
  refine lv_bipush (v := (16 : Int32)) hx hb dX3_addSecond_97 (by decide) ?_
  refine lv_bipush (v := (8 : Int32)) hx hb dX3_addSecond_99 (by decide) ?_
  refine lv_iload hx hb dX3_addSecond_101 (lv_at hl 3 rfl) ?_
  refine lv_iload hx hb dX3_addSecond_103 (lv_at hl 4 rfl) ?_
  refine va_mmin hx hb (C.2.2.2.1.trans hl.1.symm) C.2.2.1 (ml_X3_75 C.hA) (st_J9_min_7cf53 C.hA) (ini_J9 C.hA) (cd_J9_min_7cf53 C.hA) (Nat.le_of_ble_eq_true rfl) (Nat.le_of_ble_eq_true rfl) (Nat.le_of_ble_eq_true rfl) (Nat.le_of_ble_eq_true rfl) dX3_addSecond_105 ?_
  refine lv_imul hx hb dX3_addSecond_108 ?_
  refine lv_iadd hx hb dX3_addSecond_109 ?_
  refine lv_iload hx hb dX3_addSecond_110 (lv_at hl 3 rfl) ?_
  refine lv_iload hx hb dX3_addSecond_112 (lv_at hl 4 rfl) ?_
  refine va_mmax hx hb (C.2.2.2.1.trans hl.1.symm) C.2.2.1 (ml_X3_81 C.hA) (st_J9_max_7cf53 C.hA) (ini_J9 C.hA) (cd_J9_max_7cf53 C.hA) (Nat.le_of_ble_eq_true rfl) (Nat.le_of_ble_eq_true rfl) (Nat.le_of_ble_eq_true rfl) (Nat.le_of_ble_eq_true rfl) dX3_addSecond_114 ?_
  refine lv_iadd hx hb dX3_addSecond_117 ?_
  refine lv_topi (fun x10_118 ex10_118 => ?_)
  have h := h x10_118 ex10_118
  refine lv_istore (lv' := [(10, .int x10_118), (9, .int t0), (0, .ref x0), (1, .ref x1), (4, .int x4), (5, .int x5)]) hx hb dX3_addSecond_118 hl (by decide) rfl (fun ls hl => ?_)
  refine lv_aload_n hx hb dX3_addSecond_120 rfl (lv_at hl 2 rfl) ?_
  refine lv_iload hx hb dX3_addSecond_121 (lv_at hl 0 rfl) ?_
  refine lv_iload hx hb dX3_addSecond_123 (lv_at hl 1 rfl) ?_
  refine lv_aload_n hx hb dX3_addSecond_125 rfl (lv_at hl 3 rfl) ?_
  obtain ⟨g1, h⟩ := h
  obtain ⟨g2, h⟩ := h
  refine q_getRN C hP (k := 7) (lay_X6 C.hA) rfl (by decide) g1 g2 (fn_X3_84 C.hA) dX3_addSecond_126 ?_
  refine lv_iload hx hb dX3_addSecond_129 (lv_at hl 4 rfl) ?_
  obtain ⟨g3, h⟩ := h
  obtain ⟨g4, h⟩ := h
  refine q_iald C hP g3 g4 dX3_addSecond_131 ?_
  refine lv_aload_n hx hb dX3_addSecond_132 rfl (lv_at hl 3 rfl) ?_
  refine q_getRN C hP (k := 7) (lay_X6 C.hA) rfl (by decide) g1 g2 (fn_X3_84 C.hA) dX3_addSecond_133 ?_
  refine lv_iload hx hb dX3_addSecond_136 (lv_at hl 5 rfl) ?_
  obtain ⟨g5, h⟩ := h
  refine q_iald C hP g3 g5 dX3_addSecond_138 ?_
  refine lv_imul hx hb dX3_addSecond_139 ?_
  refine lv_sipush (v := (1000 : Int32)) hx hb dX3_addSecond_140 (by decide) ?_
  refine lv_idiv hx hb dX3_addSecond_143 (by decide) ?_
  obtain ⟨g6, h⟩ := h
  refine q_calv (q_runV C hP (c_X3_add h) (cd_X3_add C.hA) (ini_X3 C.hA) (ml_X3_53 C.hA) (im_X3_add C.hA) (sl_X3_add C.hA) g6 (by decide) rfl hd_X3_add ⟨rfl, rfl⟩ ⟨Nat.le_of_ble_eq_true rfl, Nat.le_of_ble_eq_true rfl⟩ ⟨Nat.le_of_ble_eq_true rfl, Nat.le_of_ble_eq_true rfl⟩ hl.1 rfl (Nat.le_of_ble_eq_true rfl) dX3_addSecond_144) hP (fun u_144 H locs h hP => ?_)
  exact q_vret C hr hlk hP h (by decide) (by decide) dX3_addSecond_147
set_option maxHeartbeats 4000000 in
set_option maxRecDepth 100000 in
theorem b_X3_addSecond_66 {G : Gx} {Q : Mm → Prop} {p : Program} {l : Launch} {e : Env} {s : State} {m : MethodId} {args : Array Value} {below : List Frame} {meth : Method} {c : Code} (C : Cx G p s m c cX3_addSecond RX3 11) (hr : meth.sig.returnType = none) (hlk : meth.locks = false) {x0 : Nat} {x1 : Nat} {x4 : Int32} {x5 : Int32} {x6 : Int32} {x7 : Int32} {t0 : Int32} {u : Mm} {H : Heap} {locs : List Loc} {ls : Array Slot} (h : V_X3_addSecond_66 G Q x0 x1 x4 x5 x6 x7 t0 u) (hl : lv_has ls 11 [(0, .ref x0), (1, .ref x1), (4, .int x4), (5, .int x5), (6, .int x6), (7, .int x7)]) (hP : Hp G u s H locs) : W p l e rm_X3_addSecond s m args below meth c H locs 0 0 (MQ below (Ev G Q) args s 0 0 (ag G)) (F0 m 66 ls [.int t0]) := by
  have hx := C.1
  have hb := C.2.1
  unfold V_X3_addSecond_66 at h
  refine lv_istore (lv' := [(8, .int t0), (0, .ref x0), (1, .ref x1), (4, .int x4), (5, .int x5), (6, .int x6), (7, .int x7)]) hx hb dX3_addSecond_66 hl (by decide) rfl (fun ls hl => ?_)
  refine lv_iload hx hb dX3_addSecond_68 (lv_at hl 0 rfl) ?_
  refine lv_if_eq (tgt := 84) hx hb dX3_addSecond_70 (by decide) (fun c70 => ?_) (fun c70 => ?_)
  · have h := h.1 c70
    refine lv_iload hx hb dX3_addSecond_84 (lv_at hl 5 rfl) ?_
    refine q_cali (q_runS C hP (c_X3_square h) (cd_X3_square C.hA) (ini_X3 C.hA) (ml_X3_45 C.hA) (st_X3_square C.hA) hd_X3_square ⟨rfl, rfl⟩ ⟨Nat.le_of_ble_eq_true rfl, Nat.le_of_ble_eq_true rfl⟩ ⟨Nat.le_of_ble_eq_true rfl, Nat.le_of_ble_eq_true rfl⟩ hl.1 rfl (Nat.le_of_ble_eq_true rfl) dX3_addSecond_86) hP (fun v_86 u_86 H locs h hP => ?_)
    refine lv_iload hx hb dX3_addSecond_89 (lv_at hl 6 rfl) ?_
    refine q_cali (q_runS C hP (c_X3_square h) (cd_X3_square C.hA) (ini_X3 C.hA) (ml_X3_45 C.hA) (st_X3_square C.hA) hd_X3_square ⟨rfl, rfl⟩ ⟨Nat.le_of_ble_eq_true rfl, Nat.le_of_ble_eq_true rfl⟩ ⟨Nat.le_of_ble_eq_true rfl, Nat.le_of_ble_eq_true rfl⟩ hl.1 rfl (Nat.le_of_ble_eq_true rfl) dX3_addSecond_91) hP (fun v_91 u_91 H locs h hP => ?_)
    refine lv_iadd hx hb dX3_addSecond_94 ?_
    exact b_X3_addSecond_95 C hr hlk h (lv_sub hl [1, 2, 3, 4] rfl) hP
  · have h := h.2 c70
    refine lv_iload hx hb dX3_addSecond_73 (lv_at hl 5 rfl) ?_
    refine lv_iload hx hb dX3_addSecond_75 (lv_at hl 6 rfl) ?_
    refine lv_iadd hx hb dX3_addSecond_77 ?_
    refine q_cali (q_runS C hP (c_X3_square h) (cd_X3_square C.hA) (ini_X3 C.hA) (ml_X3_45 C.hA) (st_X3_square C.hA) hd_X3_square ⟨rfl, rfl⟩ ⟨Nat.le_of_ble_eq_true rfl, Nat.le_of_ble_eq_true rfl⟩ ⟨Nat.le_of_ble_eq_true rfl, Nat.le_of_ble_eq_true rfl⟩ hl.1 rfl (Nat.le_of_ble_eq_true rfl) dX3_addSecond_78) hP (fun v_78 u_78 H locs h hP => ?_)
    refine lv_goto (tgt := 95) hx hb dX3_addSecond_81 (by decide) ?_
    exact b_X3_addSecond_95 C hr hlk h (lv_sub hl [1, 2, 3, 4] rfl) hP
set_option maxHeartbeats 4000000 in
set_option maxRecDepth 100000 in
theorem b_X3_addSecond_61 {G : Gx} {Q : Mm → Prop} {p : Program} {l : Launch} {e : Env} {s : State} {m : MethodId} {args : Array Value} {below : List Frame} {meth : Method} {c : Code} (C : Cx G p s m c cX3_addSecond RX3 11) (hr : meth.sig.returnType = none) (hlk : meth.locks = false) {x0 : Nat} {x1 : Nat} {x4 : Int32} {x5 : Int32} {x6 : Int32} {x7 : Int32} {u : Mm} {H : Heap} {locs : List Loc} {ls : Array Slot} (h : V_X3_addSecond_61 G Q x0 x1 x4 x5 x6 x7 u) (hl : lv_has ls 11 [(0, .ref x0), (1, .ref x1), (4, .int x4), (5, .int x5), (6, .int x6), (7, .int x7)]) (hP : Hp G u s H locs) : W p l e rm_X3_addSecond s m args below meth c H locs 0 0 (MQ below (Ev G Q) args s 0 0 (ag G)) (F0 m 61 ls []) := by
  have hx := C.1
  have hb := C.2.1
  unfold V_X3_addSecond_61 at h
  refine lv_iconst (v := (1 : Int32)) hx hb dX3_addSecond_61 (by decide) ?_
  refine lv_goto (tgt := 66) hx hb dX3_addSecond_62 (by decide) ?_
  exact b_X3_addSecond_66 C hr hlk h (lv_sub hl [0, 1, 2, 3, 4, 5] rfl) hP
set_option maxHeartbeats 4000000 in
set_option maxRecDepth 100000 in
theorem c_X3_addSecond {l : Launch} {G : Gx} {p0 : Nat} {p1 : Nat} {p2 : Int32} {p3 : Int32} {u : Mm} {Q : Mm → Prop} (h : V_X3_addSecond G p0 p1 p2 p3 u Q) : Met l yX3_addSecond [.code yX3_addSecond cX3_addSecond 11 none] rm_X3_addSecond (va_Pc [.ref p0, .ref p1, .int p2, .int p3] (Wd G u)) (Ev G Q) 0 0 (ag G) := by
  refine q_met (by decide) (Nat.le_of_ble_eq_true rfl) ?_
  intro p e s m below meth c ls C hr hlk hnm hl hP
  have hl : lv_has ls 11 [(0, .ref p0), (1, .ref p1), (2, .int p2), (3, .int p3)] := hl
  generalize ([.ref p0, .ref p1, .int p2, .int p3] : List Value).toArray = args
  have hx := C.1
  have hb := C.2.1
  unfold V_X3_addSecond at h
  refine lv_aload_n hx hb dX3_addSecond_0 rfl (lv_at hl 0 rfl) ?_
  obtain ⟨g1, h⟩ := h
  obtain ⟨g2, h⟩ := h
  refine q_getR C hP (k := 4) (lay_X3 C.hA) rfl (by decide) g1 g2 (fl_X3_23 C.hA) dX3_addSecond_1 ?_
  refine lv_iload_n hx hb dX3_addSecond_4 rfl (lv_at hl 2 rfl) ?_
  obtain ⟨g3, h⟩ := h
  obtain ⟨g4, h⟩ := h
  refine q_iald C hP g3 g4 dX3_addSecond_5 ?_
  refine lv_topi (fun x4_6 ex4_6 => ?_)
  have h := h x4_6 ex4_6
  refine lv_istore (lv' := [(4, .int x4_6), (0, .ref p0), (1, .ref p1), (2, .int p2), (3, .int p3)]) hx hb dX3_addSecond_6 hl (by decide) rfl (fun ls hl => ?_)
  refine lv_aload_n hx hb dX3_addSecond_8 rfl (lv_at hl 1 rfl) ?_
  refine q_getR C hP (k := 4) (lay_X3 C.hA) rfl (by decide) g1 g2 (fl_X3_23 C.hA) dX3_addSecond_9 ?_
  refine lv_iload_n hx hb dX3_addSecond_12 rfl (lv_at hl 4 rfl) ?_
  obtain ⟨g5, h⟩ := h
  refine q_iald C hP g3 g5 dX3_addSecond_13 ?_
  refine lv_topi (fun x5_14 ex5_14 => ?_)
  have h := h x5_14 ex5_14
  refine lv_istore (lv' := [(5, .int x5_14), (4, .int x4_6), (0, .ref p0), (1, .ref p1), (2, .int p2), (3, .int p3)]) hx hb dX3_addSecond_14 hl (by decide) rfl (fun ls hl => ?_)
  refine lv_iload hx hb dX3_addSecond_16 (lv_at hl 1 rfl) ?_
  refine lv_iconst (v := (-1 : Int32)) hx hb dX3_addSecond_18 (by decide) ?_
  refine lv_icmp_eq (tgt := 28) hx hb dX3_addSecond_19 (by decide) (fun c19 => ?_) (fun c19 => ?_)
  · have h := h.1 c19
    exact q_vret C hr hlk hP h (by decide) (by decide) dX3_addSecond_28
  · have h := h.2 c19
    refine lv_iload hx hb dX3_addSecond_22 (lv_at hl 0 rfl) ?_
    refine lv_iconst (v := (-1 : Int32)) hx hb dX3_addSecond_24 (by decide) ?_
    refine lv_icmp_ne (tgt := 29) hx hb dX3_addSecond_25 (by decide) (fun c25 => ?_) (fun c25 => ?_)
    · have h := h.2 c25
      refine lv_iconst (v := (2 : Int32)) hx hb dX3_addSecond_29 (by decide) ?_
      refine lv_aload_n hx hb dX3_addSecond_30 rfl (lv_at hl 3 rfl) ?_
      obtain ⟨g6, h⟩ := h
      obtain ⟨g7, h⟩ := h
      refine q_getRN C hP (k := 4) (lay_X6 C.hA) rfl (by decide) g6 g7 (fn_X3_42 C.hA) dX3_addSecond_31 ?_
      refine lv_iload hx hb dX3_addSecond_34 (lv_at hl 1 rfl) ?_
      obtain ⟨g8, h⟩ := h
      obtain ⟨g9, h⟩ := h
      refine q_iald C hP g8 g9 dX3_addSecond_36 ?_
      refine lv_imul hx hb dX3_addSecond_37 ?_
      refine lv_topi (fun x6_38 ex6_38 => ?_)
      have h := h x6_38 ex6_38
      refine lv_istore (lv' := [(6, .int x6_38), (5, .int x5_14), (4, .int x4_6), (0, .ref p0), (1, .ref p1), (2, .int p2), (3, .int p3)]) hx hb dX3_addSecond_38 hl (by decide) rfl (fun ls hl => ?_)
      refine lv_iconst (v := (2 : Int32)) hx hb dX3_addSecond_40 (by decide) ?_
      refine lv_aload_n hx hb dX3_addSecond_41 rfl (lv_at hl 4 rfl) ?_
      refine q_getRN C hP (k := 4) (lay_X6 C.hA) rfl (by decide) g6 g7 (fn_X3_42 C.hA) dX3_addSecond_42 ?_
      refine lv_iload hx hb dX3_addSecond_45 (lv_at hl 1 rfl) ?_
      obtain ⟨g10, h⟩ := h
      refine q_iald C hP g8 g10 dX3_addSecond_47 ?_
      refine lv_imul hx hb dX3_addSecond_48 ?_
      refine lv_topi (fun x7_49 ex7_49 => ?_)
      have h := h x7_49 ex7_49
      refine lv_istore (lv' := [(7, .int x7_49), (6, .int x6_38), (5, .int x5_14), (4, .int x4_6), (0, .ref p0), (1, .ref p1), (2, .int p2), (3, .int p3)]) hx hb dX3_addSecond_49 hl (by decide) rfl (fun ls hl => ?_)
      refine lv_iload_n hx hb dX3_addSecond_51 rfl (lv_at hl 7 rfl) ?_
      refine lv_iconst (v := (1 : Int32)) hx hb dX3_addSecond_52 (by decide) ?_
      refine lv_icmp_eq (tgt := 61) hx hb dX3_addSecond_53 (by decide) (fun c53 => ?_) (fun c53 => ?_)
      · have h := h.1 c53
        exact b_X3_addSecond_61 C hr hlk h (lv_sub hl [4, 5, 3, 2, 1, 0] rfl) hP
      · have h := h.2 c53
        refine lv_iload_n hx hb dX3_addSecond_56 rfl (lv_at hl 6 rfl) ?_
        refine lv_iconst (v := (2 : Int32)) hx hb dX3_addSecond_57 (by decide) ?_
        refine lv_icmp_ne (tgt := 65) hx hb dX3_addSecond_58 (by decide) (fun c58 => ?_) (fun c58 => ?_)
        · have h := h.2 c58
          refine lv_iconst (v := (0 : Int32)) hx hb dX3_addSecond_65 (by decide) ?_
          exact b_X3_addSecond_66 C hr hlk h (lv_sub hl [4, 5, 3, 2, 1, 0] rfl) hP
        · have h := h.1 c58
          exact b_X3_addSecond_61 C hr hlk h (lv_sub hl [4, 5, 3, 2, 1, 0] rfl) hP
    · have h := h.1 c25
      exact q_vret C hr hlk hP h (by decide) (by decide) dX3_addSecond_28
-- X6_barnStrength
abbrev rm_X6_barnStrength : Room := { frames := 3, cells := 0, slots := 0, locals := 74 }
theorem hd_X6_barnStrength : yX6_barnStrength.cls ≠ "java/lang/invoke/MethodHandle" ∧ yX6_barnStrength.cls ≠ "java/lang/invoke/VarHandle" ∧ (parseMethodDescriptor yX6_barnStrength.desc).map (fun d => d.parameters.length) = some 2 := by decide +kernel
def V_X6_barnStrength_52 (G : Gx) (Q : Int32 → Mm → Prop) (x0 : Nat) (x2 : Int32) (u : Mm) : Prop :=
  kd G x0 = 6 ∧ (gR u x0 8) ≠ 0 ∧ kd G (gR u x0 8) = 13 ∧ vp_in x2 (ln G (gR u x0 8)) ∧ Q (gI u (gR u x0 8) x2.toNatClampNeg) u
def V_X6_barnStrength (G : Gx) (p0 : Nat) (p1 : Nat) (p2 : Int32) (u : Mm) (Q : Int32 → Mm → Prop) : Prop :=
  kd G p0 = 6 ∧ (gR u p0 8) ≠ 0 ∧ kd G (gR u p0 8) = 13 ∧ vp_in p2 (ln G (gR u p0 8)) ∧ (((gI u (gR u p0 8) p2.toNatClampNeg) = (-1 : Int32) → kd G p1 = 4 ∧ (gR u p1 1) ≠ 0 ∧ kd G (gR u p1 1) = 18 ∧ vp_in p2 (ln G (gR u p1 1)) ∧ (gR u (gR u p1 1) p2.toNatClampNeg) ≠ 0 ∧ ∀ x3_16 : Nat, x3_16 = (gR u (gR u p1 1) p2.toNatClampNeg) → kd G x3_16 = 0 ∧ V_X4_strengthAlong G p1 (gI u x3_16 2) (gI u p0 0) (gI u p0 1) (gI u x3_16 0) (gI u x3_16 1) (gI u p0 2) (2 : Int32) u (fun (v_48 : Int32) (u_48 : Mm) => ∀ u_51 : Mm, u_51 = sI u_48 (gR u p0 8) p2.toNatClampNeg v_48 → V_X6_barnStrength_52 G Q p0 p2 u_51)) ∧ (¬ (gI u (gR u p0 8) p2.toNatClampNeg) = (-1 : Int32) → V_X6_barnStrength_52 G Q p0 p2 u))
set_option maxHeartbeats 4000000 in
set_option maxRecDepth 100000 in
theorem b_X6_barnStrength_52 {G : Gx} {Q : Int32 → Mm → Prop} {p : Program} {l : Launch} {e : Env} {s : State} {m : MethodId} {args : Array Value} {below : List Frame} {meth : Method} {c : Code} (C : Cx G p s m c cX6_barnStrength RX6 4) (hr : meth.sig.returnType = (some .int)) (hlk : meth.locks = false) {x0 : Nat} {x2 : Int32} {u : Mm} {H : Heap} {locs : List Loc} {ls : Array Slot} (h : V_X6_barnStrength_52 G Q x0 x2 u) (hl : lv_has ls 4 [(0, .ref x0), (2, .int x2)]) (hP : Hp G u s H locs) : W p l e rm_X6_barnStrength s m args below meth c H locs 0 0 (MQ below (Ei G Q) args s 0 0 (ag G)) (F0 m 52 ls []) := by
  have hx := C.1
  have hb := C.2.1
  unfold V_X6_barnStrength_52 at h
  refine lv_aload_n hx hb dX6_barnStrength_52 rfl (lv_at hl 0 rfl) ?_
  obtain ⟨g1, h⟩ := h
  obtain ⟨g2, h⟩ := h
  refine q_getR C hP (k := 8) (lay_X6 C.hA) rfl (by decide) g1 g2 (fl_X6_27 C.hA) dX6_barnStrength_53 ?_
  refine lv_iload_n hx hb dX6_barnStrength_56 rfl (lv_at hl 1 rfl) ?_
  obtain ⟨g3, h⟩ := h
  obtain ⟨g4, h⟩ := h
  refine q_iald C hP g3 g4 dX6_barnStrength_57 ?_
  exact q_iret C hr hlk hP h (by decide) (by decide) dX6_barnStrength_58
set_option maxHeartbeats 4000000 in
set_option maxRecDepth 100000 in
theorem c_X6_barnStrength {l : Launch} {G : Gx} {p0 : Nat} {p1 : Nat} {p2 : Int32} {u : Mm} {Q : Int32 → Mm → Prop} (h : V_X6_barnStrength G p0 p1 p2 u Q) : Met l yX6_barnStrength [.code yX6_barnStrength cX6_barnStrength 4 (some .int)] rm_X6_barnStrength (va_Pc [.ref p0, .ref p1, .int p2] (Wd G u)) (Ei G Q) 0 0 (ag G) := by
  refine q_met (by decide) (Nat.le_of_ble_eq_true rfl) ?_
  intro p e s m below meth c ls C hr hlk hnm hl hP
  have hl : lv_has ls 4 [(0, .ref p0), (1, .ref p1), (2, .int p2)] := hl
  generalize ([.ref p0, .ref p1, .int p2] : List Value).toArray = args
  have hx := C.1
  have hb := C.2.1
  unfold V_X6_barnStrength at h
  refine lv_aload_n hx hb dX6_barnStrength_0 rfl (lv_at hl 0 rfl) ?_
  obtain ⟨g1, h⟩ := h
  obtain ⟨g2, h⟩ := h
  refine q_getR C hP (k := 8) (lay_X6 C.hA) rfl (by decide) g1 g2 (fl_X6_27 C.hA) dX6_barnStrength_1 ?_
  refine lv_iload_n hx hb dX6_barnStrength_4 rfl (lv_at hl 2 rfl) ?_
  obtain ⟨g3, h⟩ := h
  obtain ⟨g4, h⟩ := h
  refine q_iald C hP g3 g4 dX6_barnStrength_5 ?_
  refine lv_iconst (v := (-1 : Int32)) hx hb dX6_barnStrength_6 (by decide) ?_
  refine lv_icmp_ne (tgt := 52) hx hb dX6_barnStrength_7 (by decide) (fun c7 => ?_) (fun c7 => ?_)
  · have h := h.2 c7
    exact b_X6_barnStrength_52 C hr hlk h (lv_sub hl [0, 2] rfl) hP
  · have h := h.1 c7
    refine lv_aload_n hx hb dX6_barnStrength_10 rfl (lv_at hl 1 rfl) ?_
    obtain ⟨g5, h⟩ := h
    obtain ⟨g6, h⟩ := h
    refine q_getRN C hP (k := 1) (lay_X4 C.hA) rfl (by decide) g5 g6 (fn_X6_56 C.hA) dX6_barnStrength_11 ?_
    refine lv_iload_n hx hb dX6_barnStrength_14 rfl (lv_at hl 2 rfl) ?_
    obtain ⟨g7, h⟩ := h
    obtain ⟨g8, h⟩ := h
    obtain ⟨g9, h⟩ := h
    refine q_aald C hP g7 (by decide) rfl g8 g9 dX6_barnStrength_15 ?_
    refine q_topr (fun x3_16 ex3_16 => ?_)
    have h := h x3_16 ex3_16
    refine lv_astore_n (lv' := [(3, .ref x3_16), (0, .ref p0), (1, .ref p1), (2, .int p2)]) hx hb dX6_barnStrength_16 rfl hl (by decide) rfl (fun ls hl => ?_)
    refine lv_aload_n hx hb dX6_barnStrength_17 rfl (lv_at hl 1 rfl) ?_
    refine q_getR C hP (k := 8) (lay_X6 C.hA) rfl (by decide) g1 g2 (fl_X6_27 C.hA) dX6_barnStrength_18 ?_
    refine lv_iload_n hx hb dX6_barnStrength_21 rfl (lv_at hl 3 rfl) ?_
    refine lv_aload_n hx hb dX6_barnStrength_22 rfl (lv_at hl 2 rfl) ?_
    refine lv_aload_n hx hb dX6_barnStrength_23 rfl (lv_at hl 0 rfl) ?_
    obtain ⟨g10, h⟩ := h
    refine q_getIN C hP (k := 2) (lay_X0 C.hA) rfl (by decide) g10 (fn_X6_109 C.hA) dX6_barnStrength_24 ?_
    refine lv_aload_n hx hb dX6_barnStrength_27 rfl (lv_at hl 1 rfl) ?_
    refine q_getI C hP (k := 0) (lay_X6 C.hA) rfl (by decide) g1 (fl_X6_30 C.hA) dX6_barnStrength_28 ?_
    refine lv_aload_n hx hb dX6_barnStrength_31 rfl (lv_at hl 1 rfl) ?_
    refine q_getI C hP (k := 1) (lay_X6 C.hA) rfl (by decide) g1 (fl_X6_34 C.hA) dX6_barnStrength_32 ?_
    refine lv_aload_n hx hb dX6_barnStrength_35 rfl (lv_at hl 0 rfl) ?_
    refine q_getIN C hP (k := 0) (lay_X0 C.hA) rfl (by decide) g10 (fn_X6_68 C.hA) dX6_barnStrength_36 ?_
    refine lv_aload_n hx hb dX6_barnStrength_39 rfl (lv_at hl 0 rfl) ?_
    refine q_getIN C hP (k := 1) (lay_X0 C.hA) rfl (by decide) g10 (fn_X6_69 C.hA) dX6_barnStrength_40 ?_
    refine lv_aload_n hx hb dX6_barnStrength_43 rfl (lv_at hl 1 rfl) ?_
    refine q_getI C hP (k := 2) (lay_X6 C.hA) rfl (by decide) g1 (fl_X6_37 C.hA) dX6_barnStrength_44 ?_
    refine lv_iconst (v := (2 : Int32)) hx hb dX6_barnStrength_47 (by decide) ?_
    refine q_cali (q_runVN C hP (c_X4_strengthAlong h) (cd_X4_strengthAlong C.hA) (ini_X4 C.hA) (mn_X6_105 C.hA) (im_X4_strengthAlong C.hA) (sl_X4_strengthAlong C.hA) g5 (by decide) rfl hd_X4_strengthAlong ⟨rfl, rfl⟩ ⟨Nat.le_of_ble_eq_true rfl, Nat.le_of_ble_eq_true rfl⟩ ⟨Nat.le_of_ble_eq_true rfl, Nat.le_of_ble_eq_true rfl⟩ hl.1 rfl (Nat.le_of_ble_eq_true rfl) dX6_barnStrength_48) hP (fun v_48 u_48 H locs h hP => ?_)
    refine q_iast C hP g3 g4 dX6_barnStrength_51 (fun H locs hP => ?_)
    obtain ⟨u_51, eu_51, hP⟩ := Hp.nm hP
    have h := h u_51 eu_51
    exact b_X6_barnStrength_52 C hr hlk h (lv_sub hl [1, 3] rfl) hP
-- X3_gather
abbrev rm_X3_gather : Room := { frames := 4, cells := 0, slots := 0, locals := 97 }
theorem hd_X3_gather : yX3_gather.cls ≠ "java/lang/invoke/MethodHandle" ∧ yX3_gather.cls ≠ "java/lang/invoke/VarHandle" ∧ (parseMethodDescriptor yX3_gather.desc).map (fun d => d.parameters.length) = some 3 := by decide +kernel
def V_X3_gather_185 (G : Gx) (Q : Mm → Prop) (k_105 : Nat → Nat → Nat → Int32 → Int32 → Int32 → Mm → Prop) (x0 : Nat) (x1 : Nat) (x2 : Nat) (x3 : Int32) (x4 : Int32) (x5 : Int32) (u : Mm) : Prop :=
  ∀ x5_185 : Int32, x5_185 = x5 + (1 : Int32) → k_105 x0 x1 x2 x3 x4 x5_185 u
def V_X3_gather_134 (G : Gx) (Q : Mm → Prop) (k_105 : Nat → Nat → Nat → Int32 → Int32 → Int32 → Mm → Prop) (x0 : Nat) (x1 : Nat) (x2 : Nat) (x3 : Int32) (x4 : Int32) (x5 : Int32) (t0 : Int32) (u : Mm) : Prop :=
  kd G x1 = 6 ∧ (gR u x1 5) ≠ 0 ∧ kd G (gR u x1 5) = 13 ∧ vp_in x5 (ln G (gR u x1 5)) ∧ (((gI u (gR u x1 5) x5.toNatClampNeg) = 0 → V_X3_gather_185 G Q k_105 x0 x1 x2 x3 x4 x5 u) ∧ (¬ (gI u (gR u x1 5) x5.toNatClampNeg) = 0 → ((((ush x3 x5) &&& (1 : Int32)) = 0 → ((t0 = 0 → V_X6_barnStrength G x1 x2 x5 u (fun (v_179 : Int32) (u_179 : Mm) => kd G x0 = 3 ∧ V_X3_add G x0 ((8 : Int32) + x5) ((4 : Int32) * (gI u (gR u x1 5) x5.toNatClampNeg)) v_179 u_179 (fun (u_182 : Mm) => V_X3_gather_185 G Q k_105 x0 x1 x2 x3 x4 x5 u_182))) ∧ (¬ t0 = 0 → V_X3_gather_185 G Q k_105 x0 x1 x2 x3 x4 x5 u))) ∧ (¬ ((ush x3 x5) &&& (1 : Int32)) = 0 → V_X3_gather_185 G Q k_105 x0 x1 x2 x3 x4 x5 u))))
def V_X3_gather_105_B (G : Gx) (Q : Mm → Prop) (k_105 : Nat → Nat → Nat → Int32 → Int32 → Int32 → Mm → Prop) (x0 : Nat) (x1 : Nat) (x2 : Nat) (x3 : Int32) (x4 : Int32) (x5 : Int32) (u : Mm) : Prop :=
  kd G x2 = 4 ∧ (((gI u x2 4) ≤ x5 → Q u) ∧ (¬ (gI u x2 4) ≤ x5 → kd G x1 = 6 ∧ (gR u x1 6) ≠ 0 ∧ kd G (gR u x1 6) = 13 ∧ vp_in x5 (ln G (gR u x1 6)) ∧ ((((gI u (gR u x1 6) x5.toNatClampNeg) &&& (x4 ^^^ (-1 : Int32))) = 0 → V_X3_gather_134 G Q k_105 x0 x1 x2 x3 x4 x5 (0 : Int32) u) ∧ (¬ ((gI u (gR u x1 6) x5.toNatClampNeg) &&& (x4 ^^^ (-1 : Int32))) = 0 → V_X3_gather_134 G Q k_105 x0 x1 x2 x3 x4 x5 (1 : Int32) u))))
def V_X3_gather_105 (G : Gx) (Q : Mm → Prop) : Nat → (Nat → Nat → Nat → Int32 → Int32 → Int32 → Mm → Prop)
  | 0 => fun _ _ _ _ _ _ _ => False
  | n + 1 => fun x0 x1 x2 x3 x4 x5 u => V_X3_gather_105_B G Q (V_X3_gather_105 G Q n) x0 x1 x2 x3 x4 x5 u
def V_X3_gather_96 (G : Gx) (Q : Mm → Prop) (k_25 : Nat → Nat → Nat → Int32 → Int32 → Int32 → Mm → Prop) (x0 : Nat) (x1 : Nat) (x2 : Nat) (x3 : Int32) (x4 : Int32) (x5 : Int32) (u : Mm) : Prop :=
  ∀ x5_96 : Int32, x5_96 = x5 + (1 : Int32) → k_25 x0 x1 x2 x3 x4 x5_96 u
def V_X3_gather_74_B (G : Gx) (Q : Mm → Prop) (k_25 : Nat → Nat → Nat → Int32 → Int32 → Int32 → Mm → Prop) (k_74 : Nat → Nat → Nat → Int32 → Int32 → Int32 → Int32 → Mm → Prop) (x0 : Nat) (x1 : Nat) (x2 : Nat) (x3 : Int32) (x4 : Int32) (x5 : Int32) (x7 : Int32) (u : Mm) : Prop :=
  ((x5 ≤ x7 → V_X3_gather_96 G Q k_25 x0 x1 x2 x3 x4 x5 u) ∧ (¬ x5 ≤ x7 → kd G x0 = 3 ∧ V_X3_addSecond G x0 x1 x7 x5 u (fun (u_87 : Mm) => ∀ x7_90 : Int32, x7_90 = x7 + (1 : Int32) → k_74 x0 x1 x2 x3 x4 x5 x7_90 u_87)))
def V_X3_gather_74 (G : Gx) (Q : Mm → Prop) (k_25 : Nat → Nat → Nat → Int32 → Int32 → Int32 → Mm → Prop) : Nat → (Nat → Nat → Nat → Int32 → Int32 → Int32 → Int32 → Mm → Prop)
  | 0 => fun _ _ _ _ _ _ _ _ => False
  | n + 1 => fun x0 x1 x2 x3 x4 x5 x7 u => V_X3_gather_74_B G Q k_25 (V_X3_gather_74 G Q k_25 n) x0 x1 x2 x3 x4 x5 x7 u
def V_X3_gather_25_B (G : Gx) (Q : Mm → Prop) (k_25 : Nat → Nat → Nat → Int32 → Int32 → Int32 → Mm → Prop) (x0 : Nat) (x1 : Nat) (x2 : Nat) (x3 : Int32) (x4 : Int32) (x5 : Int32) (u : Mm) : Prop :=
  (((4 : Int32) ≤ x5 → ∃ n : Nat, V_X3_gather_105 G Q n x0 x1 x2 x3 x4 (0 : Int32) u) ∧ (¬ (4 : Int32) ≤ x5 → kd G x0 = 3 ∧ (gR u x0 4) ≠ 0 ∧ kd G (gR u x0 4) = 13 ∧ vp_in x5 (ln G (gR u x0 4)) ∧ ∀ x6_38 : Int32, x6_38 = (gI u (gR u x0 4) x5.toNatClampNeg) → ((x6_38 = (-1 : Int32) → V_X3_gather_96 G Q k_25 x0 x1 x2 x3 x4 x5 u) ∧ (¬ x6_38 = (-1 : Int32) → kd G x1 = 6 ∧ (gR u x1 4) ≠ 0 ∧ kd G (gR u x1 4) = 13 ∧ vp_in x6_38 (ln G (gR u x1 4)) ∧ V_X3_square G ((2 : Int32) * (gI u (gR u x1 4) x6_38.toNatClampNeg)) u (fun (v_58 : Int32) (u_58 : Mm) => V_X6_wallStrength G x1 x2 x6_38 u_58 (fun (v_65 : Int32) (u_65 : Mm) => V_X3_add G x0 x6_38 v_58 v_65 u_65 (fun (u_68 : Mm) => ∃ n : Nat, V_X3_gather_74 G Q k_25 n x0 x1 x2 x3 x4 x5 (0 : Int32) u_68)))))))
def V_X3_gather_25 (G : Gx) (Q : Mm → Prop) : Nat → (Nat → Nat → Nat → Int32 → Int32 → Int32 → Mm → Prop)
  | 0 => fun _ _ _ _ _ _ _ => False
  | n + 1 => fun x0 x1 x2 x3 x4 x5 u => V_X3_gather_25_B G Q (V_X3_gather_25 G Q n) x0 x1 x2 x3 x4 x5 u
def V_X3_gather (G : Gx) (p0 : Nat) (p1 : Nat) (p2 : Nat) (p3 : Int32) (u : Mm) (Q : Mm → Prop) : Prop :=
  kd G p0 = 3 ∧ ∀ u_2 : Mm, u_2 = sI u p0 0 (0 : Int32) → ∀ x4_9 : Int32, x4_9 = (ush p3 (8 : Int32)) → kd G p2 = 4 ∧ V_X3_findNearest G p0 p1 (gI u_2 p2 3) x4_9 u_2 (fun (u_19 : Mm) => ∃ n : Nat, V_X3_gather_25 G Q n p0 p1 p2 p3 x4_9 (0 : Int32) u_19)
set_option maxHeartbeats 4000000 in
set_option maxRecDepth 100000 in
theorem b_X3_gather_185 {G : Gx} {Q : Mm → Prop} {p : Program} {l : Launch} {e : Env} {s : State} {m : MethodId} {args : Array Value} {below : List Frame} {meth : Method} {c : Code} (C : Cx G p s m c cX3_gather RX3 8) (hr : meth.sig.returnType = none) (hlk : meth.locks = false) {k_105 : Nat → Nat → Nat → Int32 → Int32 → Int32 → Mm → Prop} (hk_105 : ∀ (x0 : Nat) (x1 : Nat) (x2 : Nat) (x3 : Int32) (x4 : Int32) (x5 : Int32) (u : Mm) (H : Heap) (locs : List Loc) (ls : Array Slot), k_105 x0 x1 x2 x3 x4 x5 u → lv_has ls 8 [(0, .ref x0), (1, .ref x1), (2, .ref x2), (3, .int x3), (4, .int x4), (5, .int x5)] → Hp G u s H locs → W p l e rm_X3_gather s m args below meth c H locs 0 0 (MQ below (Ev G Q) args s 0 0 (ag G)) (F0 m 105 ls [])) {x0 : Nat} {x1 : Nat} {x2 : Nat} {x3 : Int32} {x4 : Int32} {x5 : Int32} {u : Mm} {H : Heap} {locs : List Loc} {ls : Array Slot} (h : V_X3_gather_185 G Q k_105 x0 x1 x2 x3 x4 x5 u) (hl : lv_has ls 8 [(0, .ref x0), (1, .ref x1), (2, .ref x2), (3, .int x3), (4, .int x4), (5, .int x5)]) (hP : Hp G u s H locs) : W p l e rm_X3_gather s m args below meth c H locs 0 0 (MQ below (Ev G Q) args s 0 0 (ag G)) (F0 m 185 ls []) := by
  have hx := C.1
  have hb := C.2.1
  unfold V_X3_gather_185 at h
  obtain ⟨x5_185, ex5_185⟩ : ∃ y : Int32, y = x5 + (1 : Int32) := ⟨_, rfl⟩
  have h := h x5_185 ex5_185
  refine lv_iinc (v := x5_185) (lv' := [(5, .int x5_185), (0, .ref x0), (1, .ref x1), (2, .ref x2), (3, .int x3), (4, .int x4)]) hx hb dX3_gather_185 hl (k := 5) rfl (by rw [ex5_185]; rfl) (by decide) rfl (fun ls hl => ?_)
  refine lv_goto (tgt := 105) hx hb dX3_gather_188 (by decide) ?_
  exact hk_105 x0 x1 x2 x3 x4 x5_185 u _ _ _ h (lv_sub hl [1, 2, 3, 4, 5, 0] rfl) hP
set_option maxHeartbeats 4000000 in
set_option maxRecDepth 100000 in
theorem b_X3_gather_134 {G : Gx} {Q : Mm → Prop} {p : Program} {l : Launch} {e : Env} {s : State} {m : MethodId} {args : Array Value} {below : List Frame} {meth : Method} {c : Code} (C : Cx G p s m c cX3_gather RX3 8) (hr : meth.sig.returnType = none) (hlk : meth.locks = false) {k_105 : Nat → Nat → Nat → Int32 → Int32 → Int32 → Mm → Prop} (hk_105 : ∀ (x0 : Nat) (x1 : Nat) (x2 : Nat) (x3 : Int32) (x4 : Int32) (x5 : Int32) (u : Mm) (H : Heap) (locs : List Loc) (ls : Array Slot), k_105 x0 x1 x2 x3 x4 x5 u → lv_has ls 8 [(0, .ref x0), (1, .ref x1), (2, .ref x2), (3, .int x3), (4, .int x4), (5, .int x5)] → Hp G u s H locs → W p l e rm_X3_gather s m args below meth c H locs 0 0 (MQ below (Ev G Q) args s 0 0 (ag G)) (F0 m 105 ls [])) {x0 : Nat} {x1 : Nat} {x2 : Nat} {x3 : Int32} {x4 : Int32} {x5 : Int32} {t0 : Int32} {u : Mm} {H : Heap} {locs : List Loc} {ls : Array Slot} (h : V_X3_gather_134 G Q k_105 x0 x1 x2 x3 x4 x5 t0 u) (hl : lv_has ls 8 [(0, .ref x0), (1, .ref x1), (2, .ref x2), (3, .int x3), (4, .int x4), (5, .int x5)]) (hP : Hp G u s H locs) : W p l e rm_X3_gather s m args below meth c H locs 0 0 (MQ below (Ev G Q) args s 0 0 (ag G)) (F0 m 134 ls [.int t0]) := by
  have hx := C.1
  have hb := C.2.1
  unfold V_X3_gather_134 at h
  refine lv_istore (lv' := [(6, .int t0), (0, .ref x0), (1, .ref x1), (2, .ref x2), (3, .int x3), (4, .int x4), (5, .int x5)]) hx hb dX3_gather_134 hl (by decide) rfl (fun ls hl => ?_)
  refine lv_aload_n hx hb dX3_gather_136 rfl (lv_at hl 2 rfl) ?_
  obtain ⟨g1, h⟩ := h
  obtain ⟨g2, h⟩ := h
  refine q_getRN C hP (k := 5) (lay_X6 C.hA) rfl (by decide) g1 g2 (fn_X3_66 C.hA) dX3_gather_137 ?_
  refine lv_iload hx hb dX3_gather_140 (lv_at hl 6 rfl) ?_
  obtain ⟨g3, h⟩ := h
  obtain ⟨g4, h⟩ := h
  refine q_iald C hP g3 g4 dX3_gather_142 ?_
  refine lv_if_eq (tgt := 185) hx hb dX3_gather_143 (by decide) (fun c143 => ?_) (fun c143 => ?_)
  · have h := h.1 c143
    exact b_X3_gather_185 C hr hlk hk_105 h (lv_sub hl [1, 2, 3, 4, 5, 6] rfl) hP
  · have h := h.2 c143
    refine lv_iload_n hx hb dX3_gather_146 rfl (lv_at hl 4 rfl) ?_
    refine lv_iload hx hb dX3_gather_147 (lv_at hl 6 rfl) ?_
    refine lv_iushr (v := ush x3 x5) hx hb dX3_gather_149 rfl ?_
    refine lv_iconst (v := (1 : Int32)) hx hb dX3_gather_150 (by decide) ?_
    refine lv_iand hx hb dX3_gather_151 ?_
    refine lv_if_ne (tgt := 185) hx hb dX3_gather_152 (by decide) (fun c152 => ?_) (fun c152 => ?_)
    · have h := h.2 c152
      exact b_X3_gather_185 C hr hlk hk_105 h (lv_sub hl [1, 2, 3, 4, 5, 6] rfl) hP
    · have h := h.1 c152
      refine lv_iload hx hb dX3_gather_155 (lv_at hl 0 rfl) ?_
      refine lv_if_ne (tgt := 185) hx hb dX3_gather_157 (by decide) (fun c157 => ?_) (fun c157 => ?_)
      · have h := h.2 c157
        exact b_X3_gather_185 C hr hlk hk_105 h (lv_sub hl [1, 2, 3, 4, 5, 6] rfl) hP
      · have h := h.1 c157
        refine lv_aload_n hx hb dX3_gather_160 rfl (lv_at hl 1 rfl) ?_
        refine lv_bipush (v := (8 : Int32)) hx hb dX3_gather_161 (by decide) ?_
        refine lv_iload hx hb dX3_gather_163 (lv_at hl 6 rfl) ?_
        refine lv_iadd hx hb dX3_gather_165 ?_
        refine lv_iconst (v := (4 : Int32)) hx hb dX3_gather_166 (by decide) ?_
        refine lv_aload_n hx hb dX3_gather_167 rfl (lv_at hl 2 rfl) ?_
        refine q_getRN C hP (k := 5) (lay_X6 C.hA) rfl (by decide) g1 g2 (fn_X3_66 C.hA) dX3_gather_168 ?_
        refine lv_iload hx hb dX3_gather_171 (lv_at hl 6 rfl) ?_
        refine q_iald C hP g3 g4 dX3_gather_173 ?_
        refine lv_imul hx hb dX3_gather_174 ?_
        refine lv_aload_n hx hb dX3_gather_175 rfl (lv_at hl 2 rfl) ?_
        refine lv_aload_n hx hb dX3_gather_176 rfl (lv_at hl 3 rfl) ?_
        refine lv_iload hx hb dX3_gather_177 (lv_at hl 6 rfl) ?_
        refine q_cali (q_runVN C hP (c_X6_barnStrength h) (cd_X6_barnStrength C.hA) (ini_X6 C.hA) (mn_X3_69 C.hA) (im_X6_barnStrength C.hA) (sl_X6_barnStrength C.hA) g1 (by decide) rfl hd_X6_barnStrength ⟨rfl, rfl⟩ ⟨Nat.le_of_ble_eq_true rfl, Nat.le_of_ble_eq_true rfl⟩ ⟨Nat.le_of_ble_eq_true rfl, Nat.le_of_ble_eq_true rfl⟩ hl.1 rfl (Nat.le_of_ble_eq_true rfl) dX3_gather_179) hP (fun v_179 u_179 H locs h hP => ?_)
        obtain ⟨g5, h⟩ := h
        refine q_calv (q_runV C hP (c_X3_add h) (cd_X3_add C.hA) (ini_X3 C.hA) (ml_X3_53 C.hA) (im_X3_add C.hA) (sl_X3_add C.hA) g5 (by decide) rfl hd_X3_add ⟨rfl, rfl⟩ ⟨Nat.le_of_ble_eq_true rfl, Nat.le_of_ble_eq_true rfl⟩ ⟨Nat.le_of_ble_eq_true rfl, Nat.le_of_ble_eq_true rfl⟩ hl.1 rfl (Nat.le_of_ble_eq_true rfl) dX3_gather_182) hP (fun u_182 H locs h hP => ?_)
        exact b_X3_gather_185 C hr hlk hk_105 h (lv_sub hl [1, 2, 3, 4, 5, 6] rfl) hP
set_option maxHeartbeats 4000000 in
set_option maxRecDepth 100000 in
theorem b_X3_gather_105 {G : Gx} {Q : Mm → Prop} {p : Program} {l : Launch} {e : Env} {s : State} {m : MethodId} {args : Array Value} {below : List Frame} {meth : Method} {c : Code} (C : Cx G p s m c cX3_gather RX3 8) (hr : meth.sig.returnType = none) (hlk : meth.locks = false) {k_105 : Nat → Nat → Nat → Int32 → Int32 → Int32 → Mm → Prop} (hk_105 : ∀ (x0 : Nat) (x1 : Nat) (x2 : Nat) (x3 : Int32) (x4 : Int32) (x5 : Int32) (u : Mm) (H : Heap) (locs : List Loc) (ls : Array Slot), k_105 x0 x1 x2 x3 x4 x5 u → lv_has ls 8 [(0, .ref x0), (1, .ref x1), (2, .ref x2), (3, .int x3), (4, .int x4), (5, .int x5)] → Hp G u s H locs → W p l e rm_X3_gather s m args below meth c H locs 0 0 (MQ below (Ev G Q) args s 0 0 (ag G)) (F0 m 105 ls [])) {x0 : Nat} {x1 : Nat} {x2 : Nat} {x3 : Int32} {x4 : Int32} {x5 : Int32} {u : Mm} {H : Heap} {locs : List Loc} {ls : Array Slot} (h : V_X3_gather_105_B G Q k_105 x0 x1 x2 x3 x4 x5 u) (hl : lv_has ls 8 [(0, .ref x0), (1, .ref x1), (2, .ref x2), (3, .int x3), (4, .int x4), (5, .int x5)]) (hP : Hp G u s H locs) : W p l e rm_X3_gather s m args below meth c H locs 0 0 (MQ below (Ev G Q) args s 0 0 (ag G)) (F0 m 105 ls []) := by
  have hx := C.1
  have hb := C.2.1
  unfold V_X3_gather_105_B at h
  refine lv_iload hx hb dX3_gather_105 (lv_at hl 5 rfl) ?_
  refine lv_aload_n hx hb dX3_gather_107 rfl (lv_at hl 2 rfl) ?_
  obtain ⟨g1, h⟩ := h
  refine q_getIN C hP (k := 4) (lay_X4 C.hA) rfl (by decide) g1 (fn_X3_60 C.hA) dX3_gather_108 ?_
  refine lv_icmp_ge (tgt := 191) hx hb dX3_gather_111 (by decide) (fun c111 => ?_) (fun c111 => ?_)
  · have h := h.1 c111
    exact q_vret C hr hlk hP h (by decide) (by decide) dX3_gather_191
  · have h := h.2 c111
    refine lv_aload_n hx hb dX3_gather_114 rfl (lv_at hl 1 rfl) ?_
    obtain ⟨g2, h⟩ := h
    obtain ⟨g3, h⟩ := h
    refine q_getRN C hP (k := 6) (lay_X6 C.hA) rfl (by decide) g2 g3 (fn_X3_63 C.hA) dX3_gather_115 ?_
    refine lv_iload hx hb dX3_gather_118 (lv_at hl 5 rfl) ?_
    obtain ⟨g4, h⟩ := h
    obtain ⟨g5, h⟩ := h
    refine q_iald C hP g4 g5 dX3_gather_120 ?_
    refine lv_iload hx hb dX3_gather_121 (lv_at hl 4 rfl) ?_
    refine lv_iconst (v := (-1 : Int32)) hx hb dX3_gather_123 (by decide) ?_
    refine lv_ixor hx hb dX3_gather_124 ?_
    refine lv_iand hx hb dX3_gather_125 ?_
    refine lv_if_eq (tgt := 133) hx hb dX3_gather_126 (by decide) (fun c126 => ?_) (fun c126 => ?_)
    · have h := h.1 c126
      refine lv_iconst (v := (0 : Int32)) hx hb dX3_gather_133 (by decide) ?_
      exact b_X3_gather_134 C hr hlk hk_105 h (lv_sub hl [0, 1, 2, 3, 4, 5] rfl) hP
    · have h := h.2 c126
      refine lv_iconst (v := (1 : Int32)) hx hb dX3_gather_129 (by decide) ?_
      refine lv_goto (tgt := 134) hx hb dX3_gather_130 (by decide) ?_
      exact b_X3_gather_134 C hr hlk hk_105 h (lv_sub hl [0, 1, 2, 3, 4, 5] rfl) hP
theorem l_X3_gather_105 {G : Gx} {Q : Mm → Prop} {p : Program} {l : Launch} {e : Env} {s : State} {m : MethodId} {args : Array Value} {below : List Frame} {meth : Method} {c : Code} (C : Cx G p s m c cX3_gather RX3 8) (hr : meth.sig.returnType = none) (hlk : meth.locks = false) : ∀ (n : Nat) (x0 : Nat) (x1 : Nat) (x2 : Nat) (x3 : Int32) (x4 : Int32) (x5 : Int32) (u : Mm) (H : Heap) (locs : List Loc) (ls : Array Slot), V_X3_gather_105 G Q n x0 x1 x2 x3 x4 x5 u → lv_has ls 8 [(0, .ref x0), (1, .ref x1), (2, .ref x2), (3, .int x3), (4, .int x4), (5, .int x5)] → Hp G u s H locs → W p l e rm_X3_gather s m args below meth c H locs 0 0 (MQ below (Ev G Q) args s 0 0 (ag G)) (F0 m 105 ls []) := by
  intro n
  induction n with
  | zero => intro x0 x1 x2 x3 x4 x5 u H locs ls h; exact h.elim
  | succ n ih => intro x0 x1 x2 x3 x4 x5 u H locs ls h hl hP; exact b_X3_gather_105 C hr hlk ih h hl hP
set_option maxHeartbeats 4000000 in
set_option maxRecDepth 100000 in
theorem b_X3_gather_96 {G : Gx} {Q : Mm → Prop} {p : Program} {l : Launch} {e : Env} {s : State} {m : MethodId} {args : Array Value} {below : List Frame} {meth : Method} {c : Code} (C : Cx G p s m c cX3_gather RX3 8) (hr : meth.sig.returnType = none) (hlk : meth.locks = false) {k_25 : Nat → Nat → Nat → Int32 → Int32 → Int32 → Mm → Prop} (hk_25 : ∀ (x0 : Nat) (x1 : Nat) (x2 : Nat) (x3 : Int32) (x4 : Int32) (x5 : Int32) (u : Mm) (H : Heap) (locs : List Loc) (ls : Array Slot), k_25 x0 x1 x2 x3 x4 x5 u → lv_has ls 8 [(0, .ref x0), (1, .ref x1), (2, .ref x2), (3, .int x3), (4, .int x4), (5, .int x5)] → Hp G u s H locs → W p l e rm_X3_gather s m args below meth c H locs 0 0 (MQ below (Ev G Q) args s 0 0 (ag G)) (F0 m 25 ls [])) {x0 : Nat} {x1 : Nat} {x2 : Nat} {x3 : Int32} {x4 : Int32} {x5 : Int32} {u : Mm} {H : Heap} {locs : List Loc} {ls : Array Slot} (h : V_X3_gather_96 G Q k_25 x0 x1 x2 x3 x4 x5 u) (hl : lv_has ls 8 [(0, .ref x0), (1, .ref x1), (2, .ref x2), (3, .int x3), (4, .int x4), (5, .int x5)]) (hP : Hp G u s H locs) : W p l e rm_X3_gather s m args below meth c H locs 0 0 (MQ below (Ev G Q) args s 0 0 (ag G)) (F0 m 96 ls []) := by
  have hx := C.1
  have hb := C.2.1
  unfold V_X3_gather_96 at h
  obtain ⟨x5_96, ex5_96⟩ : ∃ y : Int32, y = x5 + (1 : Int32) := ⟨_, rfl⟩
  have h := h x5_96 ex5_96
  refine lv_iinc (v := x5_96) (lv' := [(5, .int x5_96), (0, .ref x0), (1, .ref x1), (2, .ref x2), (3, .int x3), (4, .int x4)]) hx hb dX3_gather_96 hl (k := 5) rfl (by rw [ex5_96]; rfl) (by decide) rfl (fun ls hl => ?_)
  refine lv_goto (tgt := 25) hx hb dX3_gather_99 (by decide) ?_
  exact hk_25 x0 x1 x2 x3 x4 x5_96 u _ _ _ h (lv_sub hl [1, 2, 3, 4, 5, 0] rfl) hP
set_option maxHeartbeats 4000000 in
set_option maxRecDepth 100000 in
theorem b_X3_gather_74 {G : Gx} {Q : Mm → Prop} {p : Program} {l : Launch} {e : Env} {s : State} {m : MethodId} {args : Array Value} {below : List Frame} {meth : Method} {c : Code} (C : Cx G p s m c cX3_gather RX3 8) (hr : meth.sig.returnType = none) (hlk : meth.locks = false) {k_25 : Nat → Nat → Nat → Int32 → Int32 → Int32 → Mm → Prop} (hk_25 : ∀ (x0 : Nat) (x1 : Nat) (x2 : Nat) (x3 : Int32) (x4 : Int32) (x5 : Int32) (u : Mm) (H : Heap) (locs : List Loc) (ls : Array Slot), k_25 x0 x1 x2 x3 x4 x5 u → lv_has ls 8 [(0, .ref x0), (1, .ref x1), (2, .ref x2), (3, .int x3), (4, .int x4), (5, .int x5)] → Hp G u s H locs → W p l e rm_X3_gather s m args below meth c H locs 0 0 (MQ below (Ev G Q) args s 0 0 (ag G)) (F0 m 25 ls [])) {k_74 : Nat → Nat → Nat → Int32 → Int32 → Int32 → Int32 → Mm → Prop} (hk_74 : ∀ (x0 : Nat) (x1 : Nat) (x2 : Nat) (x3 : Int32) (x4 : Int32) (x5 : Int32) (x7 : Int32) (u : Mm) (H : Heap) (locs : List Loc) (ls : Array Slot), k_74 x0 x1 x2 x3 x4 x5 x7 u → lv_has ls 8 [(0, .ref x0), (1, .ref x1), (2, .ref x2), (3, .int x3), (4, .int x4), (5, .int x5), (7, .int x7)] → Hp G u s H locs → W p l e rm_X3_gather s m args below meth c H locs 0 0 (MQ below (Ev G Q) args s 0 0 (ag G)) (F0 m 74 ls [])) {x0 : Nat} {x1 : Nat} {x2 : Nat} {x3 : Int32} {x4 : Int32} {x5 : Int32} {x7 : Int32} {u : Mm} {H : Heap} {locs : List Loc} {ls : Array Slot} (h : V_X3_gather_74_B G Q k_25 k_74 x0 x1 x2 x3 x4 x5 x7 u) (hl : lv_has ls 8 [(0, .ref x0), (1, .ref x1), (2, .ref x2), (3, .int x3), (4, .int x4), (5, .int x5), (7, .int x7)]) (hP : Hp G u s H locs) : W p l e rm_X3_gather s m args below meth c H locs 0 0 (MQ below (Ev G Q) args s 0 0 (ag G)) (F0 m 74 ls []) := by
  have hx := C.1
  have hb := C.2.1
  unfold V_X3_gather_74_B at h
  refine lv_iload hx hb dX3_gather_74 (lv_at hl 6 rfl) ?_
  refine lv_iload hx hb dX3_gather_76 (lv_at hl 5 rfl) ?_
  refine lv_icmp_ge (tgt := 96) hx hb dX3_gather_78 (by decide) (fun c78 => ?_) (fun c78 => ?_)
  · have h := h.1 c78
    exact b_X3_gather_96 C hr hlk hk_25 h (lv_sub hl [0, 1, 2, 3, 4, 5] rfl) hP
  · have h := h.2 c78
    refine lv_aload_n hx hb dX3_gather_81 rfl (lv_at hl 0 rfl) ?_
    refine lv_aload_n hx hb dX3_gather_82 rfl (lv_at hl 1 rfl) ?_
    refine lv_iload hx hb dX3_gather_83 (lv_at hl 6 rfl) ?_
    refine lv_iload hx hb dX3_gather_85 (lv_at hl 5 rfl) ?_
    obtain ⟨g1, h⟩ := h
    refine q_calv (q_runV C hP (c_X3_addSecond h) (cd_X3_addSecond C.hA) (ini_X3 C.hA) (ml_X3_57 C.hA) (im_X3_addSecond C.hA) (sl_X3_addSecond C.hA) g1 (by decide) rfl hd_X3_addSecond ⟨rfl, rfl⟩ ⟨Nat.le_of_ble_eq_true rfl, Nat.le_of_ble_eq_true rfl⟩ ⟨Nat.le_of_ble_eq_true rfl, Nat.le_of_ble_eq_true rfl⟩ hl.1 rfl (Nat.le_of_ble_eq_true rfl) dX3_gather_87) hP (fun u_87 H locs h hP => ?_)
    obtain ⟨x7_90, ex7_90⟩ : ∃ y : Int32, y = x7 + (1 : Int32) := ⟨_, rfl⟩
    have h := h x7_90 ex7_90
    refine lv_iinc (v := x7_90) (lv' := [(7, .int x7_90), (0, .ref x0), (1, .ref x1), (2, .ref x2), (3, .int x3), (4, .int x4), (5, .int x5)]) hx hb dX3_gather_90 hl (k := 6) rfl (by rw [ex7_90]; rfl) (by decide) rfl (fun ls hl => ?_)
    refine lv_goto (tgt := 74) hx hb dX3_gather_93 (by decide) ?_
    exact hk_74 x0 x1 x2 x3 x4 x5 x7_90 u_87 _ _ _ h (lv_sub hl [1, 2, 3, 4, 5, 6, 0] rfl) hP
theorem l_X3_gather_74 {G : Gx} {Q : Mm → Prop} {p : Program} {l : Launch} {e : Env} {s : State} {m : MethodId} {args : Array Value} {below : List Frame} {meth : Method} {c : Code} (C : Cx G p s m c cX3_gather RX3 8) (hr : meth.sig.returnType = none) (hlk : meth.locks = false) {k_25 : Nat → Nat → Nat → Int32 → Int32 → Int32 → Mm → Prop} (hk_25 : ∀ (x0 : Nat) (x1 : Nat) (x2 : Nat) (x3 : Int32) (x4 : Int32) (x5 : Int32) (u : Mm) (H : Heap) (locs : List Loc) (ls : Array Slot), k_25 x0 x1 x2 x3 x4 x5 u → lv_has ls 8 [(0, .ref x0), (1, .ref x1), (2, .ref x2), (3, .int x3), (4, .int x4), (5, .int x5)] → Hp G u s H locs → W p l e rm_X3_gather s m args below meth c H locs 0 0 (MQ below (Ev G Q) args s 0 0 (ag G)) (F0 m 25 ls [])) : ∀ (n : Nat) (x0 : Nat) (x1 : Nat) (x2 : Nat) (x3 : Int32) (x4 : Int32) (x5 : Int32) (x7 : Int32) (u : Mm) (H : Heap) (locs : List Loc) (ls : Array Slot), V_X3_gather_74 G Q k_25 n x0 x1 x2 x3 x4 x5 x7 u → lv_has ls 8 [(0, .ref x0), (1, .ref x1), (2, .ref x2), (3, .int x3), (4, .int x4), (5, .int x5), (7, .int x7)] → Hp G u s H locs → W p l e rm_X3_gather s m args below meth c H locs 0 0 (MQ below (Ev G Q) args s 0 0 (ag G)) (F0 m 74 ls []) := by
  intro n
  induction n with
  | zero => intro x0 x1 x2 x3 x4 x5 x7 u H locs ls h; exact h.elim
  | succ n ih => intro x0 x1 x2 x3 x4 x5 x7 u H locs ls h hl hP; exact b_X3_gather_74 C hr hlk hk_25 ih h hl hP
set_option maxHeartbeats 4000000 in
set_option maxRecDepth 100000 in
theorem b_X3_gather_25 {G : Gx} {Q : Mm → Prop} {p : Program} {l : Launch} {e : Env} {s : State} {m : MethodId} {args : Array Value} {below : List Frame} {meth : Method} {c : Code} (C : Cx G p s m c cX3_gather RX3 8) (hr : meth.sig.returnType = none) (hlk : meth.locks = false) {k_25 : Nat → Nat → Nat → Int32 → Int32 → Int32 → Mm → Prop} (hk_25 : ∀ (x0 : Nat) (x1 : Nat) (x2 : Nat) (x3 : Int32) (x4 : Int32) (x5 : Int32) (u : Mm) (H : Heap) (locs : List Loc) (ls : Array Slot), k_25 x0 x1 x2 x3 x4 x5 u → lv_has ls 8 [(0, .ref x0), (1, .ref x1), (2, .ref x2), (3, .int x3), (4, .int x4), (5, .int x5)] → Hp G u s H locs → W p l e rm_X3_gather s m args below meth c H locs 0 0 (MQ below (Ev G Q) args s 0 0 (ag G)) (F0 m 25 ls [])) {x0 : Nat} {x1 : Nat} {x2 : Nat} {x3 : Int32} {x4 : Int32} {x5 : Int32} {u : Mm} {H : Heap} {locs : List Loc} {ls : Array Slot} (h : V_X3_gather_25_B G Q k_25 x0 x1 x2 x3 x4 x5 u) (hl : lv_has ls 8 [(0, .ref x0), (1, .ref x1), (2, .ref x2), (3, .int x3), (4, .int x4), (5, .int x5)]) (hP : Hp G u s H locs) : W p l e rm_X3_gather s m args below meth c H locs 0 0 (MQ below (Ev G Q) args s 0 0 (ag G)) (F0 m 25 ls []) := by
  have hx := C.1
  have hb := C.2.1
  unfold V_X3_gather_25_B at h
  refine lv_iload hx hb dX3_gather_25 (lv_at hl 5 rfl) ?_
  refine lv_iconst (v := (4 : Int32)) hx hb dX3_gather_27 (by decide) ?_
  refine lv_icmp_ge (tgt := 102) hx hb dX3_gather_28 (by decide) (fun c28 => ?_) (fun c28 => ?_)
  · have h := h.1 c28
    refine lv_iconst (v := (0 : Int32)) hx hb dX3_gather_102 (by decide) ?_
    refine lv_istore (lv' := [(5, .int (0 : Int32)), (0, .ref x0), (1, .ref x1), (2, .ref x2), (3, .int x3), (4, .int x4)]) hx hb dX3_gather_103 hl (by decide) rfl (fun ls hl => ?_)
    obtain ⟨n, h⟩ := h
    exact l_X3_gather_105 C hr hlk n x0 x1 x2 x3 x4 (0 : Int32) u _ _ _ h (lv_sub hl [1, 2, 3, 4, 5, 0] rfl) hP
  · have h := h.2 c28
    refine lv_aload_n hx hb dX3_gather_31 rfl (lv_at hl 0 rfl) ?_
    obtain ⟨g1, h⟩ := h
    obtain ⟨g2, h⟩ := h
    refine q_getR C hP (k := 4) (lay_X3 C.hA) rfl (by decide) g1 g2 (fl_X3_23 C.hA) dX3_gather_32 ?_
    refine lv_iload hx hb dX3_gather_35 (lv_at hl 5 rfl) ?_
    obtain ⟨g3, h⟩ := h
    obtain ⟨g4, h⟩ := h
    refine q_iald C hP g3 g4 dX3_gather_37 ?_
    refine lv_topi (fun x6_38 ex6_38 => ?_)
    have h := h x6_38 ex6_38
    refine lv_istore (lv' := [(6, .int x6_38), (0, .ref x0), (1, .ref x1), (2, .ref x2), (3, .int x3), (4, .int x4), (5, .int x5)]) hx hb dX3_gather_38 hl (by decide) rfl (fun ls hl => ?_)
    refine lv_iload hx hb dX3_gather_40 (lv_at hl 0 rfl) ?_
    refine lv_iconst (v := (-1 : Int32)) hx hb dX3_gather_42 (by decide) ?_
    refine lv_icmp_eq (tgt := 96) hx hb dX3_gather_43 (by decide) (fun c43 => ?_) (fun c43 => ?_)
    · have h := h.1 c43
      exact b_X3_gather_96 C hr hlk hk_25 h (lv_sub hl [1, 2, 3, 4, 5, 6] rfl) hP
    · have h := h.2 c43
      refine lv_aload_n hx hb dX3_gather_46 rfl (lv_at hl 1 rfl) ?_
      refine lv_iload hx hb dX3_gather_47 (lv_at hl 0 rfl) ?_
      refine lv_iconst (v := (2 : Int32)) hx hb dX3_gather_49 (by decide) ?_
      refine lv_aload_n hx hb dX3_gather_50 rfl (lv_at hl 2 rfl) ?_
      obtain ⟨g5, h⟩ := h
      obtain ⟨g6, h⟩ := h
      refine q_getRN C hP (k := 4) (lay_X6 C.hA) rfl (by decide) g5 g6 (fn_X3_42 C.hA) dX3_gather_51 ?_
      refine lv_iload hx hb dX3_gather_54 (lv_at hl 0 rfl) ?_
      obtain ⟨g7, h⟩ := h
      obtain ⟨g8, h⟩ := h
      refine q_iald C hP g7 g8 dX3_gather_56 ?_
      refine lv_imul hx hb dX3_gather_57 ?_
      refine q_cali (q_runS C hP (c_X3_square h) (cd_X3_square C.hA) (ini_X3 C.hA) (ml_X3_45 C.hA) (st_X3_square C.hA) hd_X3_square ⟨rfl, rfl⟩ ⟨Nat.le_of_ble_eq_true rfl, Nat.le_of_ble_eq_true rfl⟩ ⟨Nat.le_of_ble_eq_true rfl, Nat.le_of_ble_eq_true rfl⟩ hl.1 rfl (Nat.le_of_ble_eq_true rfl) dX3_gather_58) hP (fun v_58 u_58 H locs h hP => ?_)
      refine lv_aload_n hx hb dX3_gather_61 rfl (lv_at hl 2 rfl) ?_
      refine lv_aload_n hx hb dX3_gather_62 rfl (lv_at hl 3 rfl) ?_
      refine lv_iload hx hb dX3_gather_63 (lv_at hl 0 rfl) ?_
      refine q_cali (q_runVN C hP (c_X6_wallStrength h) (cd_X6_wallStrength C.hA) (ini_X6 C.hA) (mn_X3_49 C.hA) (im_X6_wallStrength C.hA) (sl_X6_wallStrength C.hA) g5 (by decide) rfl hd_X6_wallStrength ⟨rfl, rfl⟩ ⟨Nat.le_of_ble_eq_true rfl, Nat.le_of_ble_eq_true rfl⟩ ⟨Nat.le_of_ble_eq_true rfl, Nat.le_of_ble_eq_true rfl⟩ hl.1 rfl (Nat.le_of_ble_eq_true rfl) dX3_gather_65) hP (fun v_65 u_65 H locs h hP => ?_)
      refine q_calv (q_runV C hP (c_X3_add h) (cd_X3_add C.hA) (ini_X3 C.hA) (ml_X3_53 C.hA) (im_X3_add C.hA) (sl_X3_add C.hA) g1 (by decide) rfl hd_X3_add ⟨rfl, rfl⟩ ⟨Nat.le_of_ble_eq_true rfl, Nat.le_of_ble_eq_true rfl⟩ ⟨Nat.le_of_ble_eq_true rfl, Nat.le_of_ble_eq_true rfl⟩ hl.1 rfl (Nat.le_of_ble_eq_true rfl) dX3_gather_68) hP (fun u_68 H locs h hP => ?_)
      refine lv_iconst (v := (0 : Int32)) hx hb dX3_gather_71 (by decide) ?_
      refine lv_istore (lv' := [(7, .int (0 : Int32)), (6, .int x6_38), (0, .ref x0), (1, .ref x1), (2, .ref x2), (3, .int x3), (4, .int x4), (5, .int x5)]) hx hb dX3_gather_72 hl (by decide) rfl (fun ls hl => ?_)
      obtain ⟨n, h⟩ := h
      exact l_X3_gather_74 C hr hlk hk_25 n x0 x1 x2 x3 x4 x5 (0 : Int32) u_68 _ _ _ h (lv_sub hl [2, 3, 4, 5, 6, 7, 0] rfl) hP
theorem l_X3_gather_25 {G : Gx} {Q : Mm → Prop} {p : Program} {l : Launch} {e : Env} {s : State} {m : MethodId} {args : Array Value} {below : List Frame} {meth : Method} {c : Code} (C : Cx G p s m c cX3_gather RX3 8) (hr : meth.sig.returnType = none) (hlk : meth.locks = false) : ∀ (n : Nat) (x0 : Nat) (x1 : Nat) (x2 : Nat) (x3 : Int32) (x4 : Int32) (x5 : Int32) (u : Mm) (H : Heap) (locs : List Loc) (ls : Array Slot), V_X3_gather_25 G Q n x0 x1 x2 x3 x4 x5 u → lv_has ls 8 [(0, .ref x0), (1, .ref x1), (2, .ref x2), (3, .int x3), (4, .int x4), (5, .int x5)] → Hp G u s H locs → W p l e rm_X3_gather s m args below meth c H locs 0 0 (MQ below (Ev G Q) args s 0 0 (ag G)) (F0 m 25 ls []) := by
  intro n
  induction n with
  | zero => intro x0 x1 x2 x3 x4 x5 u H locs ls h; exact h.elim
  | succ n ih => intro x0 x1 x2 x3 x4 x5 u H locs ls h hl hP; exact b_X3_gather_25 C hr hlk ih h hl hP
set_option maxHeartbeats 4000000 in
set_option maxRecDepth 100000 in
theorem c_X3_gather {l : Launch} {G : Gx} {p0 : Nat} {p1 : Nat} {p2 : Nat} {p3 : Int32} {u : Mm} {Q : Mm → Prop} (h : V_X3_gather G p0 p1 p2 p3 u Q) : Met l yX3_gather [.code yX3_gather cX3_gather 8 none] rm_X3_gather (va_Pc [.ref p0, .ref p1, .ref p2, .int p3] (Wd G u)) (Ev G Q) 0 0 (ag G) := by
  refine q_met (by decide) (Nat.le_of_ble_eq_true rfl) ?_
  intro p e s m below meth c ls C hr hlk hnm hl hP
  have hl : lv_has ls 8 [(0, .ref p0), (1, .ref p1), (2, .ref p2), (3, .int p3)] := hl
  generalize ([.ref p0, .ref p1, .ref p2, .int p3] : List Value).toArray = args
  have hx := C.1
  have hb := C.2.1
  unfold V_X3_gather at h
  refine lv_aload_n hx hb dX3_gather_0 rfl (lv_at hl 0 rfl) ?_
  refine lv_iconst (v := (0 : Int32)) hx hb dX3_gather_1 (by decide) ?_
  obtain ⟨g1, h⟩ := h
  refine q_putI C hP (k := 0) tyX3_ok nmX3 (lay_X3 C.hA) rfl (by decide) rfl rfl rfl rfl g1 (fl_X3_29 C.hA) dX3_gather_2 (fun H locs hP => ?_)
  obtain ⟨u_2, eu_2, hP⟩ := Hp.nm hP
  have h := h u_2 eu_2
  refine lv_iload_n hx hb dX3_gather_5 rfl (lv_at hl 3 rfl) ?_
  refine lv_bipush (v := (8 : Int32)) hx hb dX3_gather_6 (by decide) ?_
  refine lv_iushr (v := ush p3 (8 : Int32)) hx hb dX3_gather_8 rfl ?_
  refine lv_topi (fun x4_9 ex4_9 => ?_)
  have h := h x4_9 ex4_9
  refine lv_istore (lv' := [(4, .int x4_9), (0, .ref p0), (1, .ref p1), (2, .ref p2), (3, .int p3)]) hx hb dX3_gather_9 hl (by decide) rfl (fun ls hl => ?_)
  refine lv_aload_n hx hb dX3_gather_11 rfl (lv_at hl 1 rfl) ?_
  refine lv_aload_n hx hb dX3_gather_12 rfl (lv_at hl 2 rfl) ?_
  refine lv_aload_n hx hb dX3_gather_13 rfl (lv_at hl 3 rfl) ?_
  obtain ⟨g2, h⟩ := h
  refine q_getIN C hP (k := 3) (lay_X4 C.hA) rfl (by decide) g2 (fn_X3_33 C.hA) dX3_gather_14 ?_
  refine lv_iload hx hb dX3_gather_17 (lv_at hl 0 rfl) ?_
  refine q_calv (q_runV C hP (c_X3_findNearest h) (cd_X3_findNearest C.hA) (ini_X3 C.hA) (ml_X3_38 C.hA) (im_X3_findNearest C.hA) (sl_X3_findNearest C.hA) g1 (by decide) rfl hd_X3_findNearest ⟨rfl, rfl⟩ ⟨Nat.le_of_ble_eq_true rfl, Nat.le_of_ble_eq_true rfl⟩ ⟨Nat.le_of_ble_eq_true rfl, Nat.le_of_ble_eq_true rfl⟩ hl.1 rfl (Nat.le_of_ble_eq_true rfl) dX3_gather_19) hP (fun u_19 H locs h hP => ?_)
  refine lv_iconst (v := (0 : Int32)) hx hb dX3_gather_22 (by decide) ?_
  refine lv_istore (lv' := [(5, .int (0 : Int32)), (4, .int x4_9), (0, .ref p0), (1, .ref p1), (2, .ref p2), (3, .int p3)]) hx hb dX3_gather_23 hl (by decide) rfl (fun ls hl => ?_)
  obtain ⟨n, h⟩ := h
  exact l_X3_gather_25 C hr hlk n p0 p1 p2 p3 x4_9 (0 : Int32) u_19 _ _ _ h (lv_sub hl [2, 3, 4, 5, 1, 0] rfl) hP
-- X3_orderHeard
abbrev rm_X3_orderHeard : Room := { frames := 1, cells := 0, slots := 0, locals := 24 }
theorem hd_X3_orderHeard : yX3_orderHeard.cls ≠ "java/lang/invoke/MethodHandle" ∧ yX3_orderHeard.cls ≠ "java/lang/invoke/VarHandle" ∧ (parseMethodDescriptor yX3_orderHeard.desc).map (fun d => d.parameters.length) = some 1 := by decide +kernel
def V_X3_orderHeard_55 (G : Gx) (Q : Int32 → Mm → Prop) (k_7 : Nat → Int32 → Int32 → Mm → Prop) (x0 : Nat) (x1 : Int32) (x2 : Int32) (u : Mm) : Prop :=
  ∀ x2_55 : Int32, x2_55 = x2 + (1 : Int32) → k_7 x0 x1 x2_55 u
def V_X3_orderHeard_7_B (G : Gx) (Q : Int32 → Mm → Prop) (k_7 : Nat → Int32 → Int32 → Mm → Prop) (x0 : Nat) (x1 : Int32) (x2 : Int32) (u : Mm) : Prop :=
  kd G x0 = 3 ∧ (((gI u x0 0) ≤ x2 → Q (gI u x0 5) u) ∧ (¬ (gI u x0 0) ≤ x2 → (gR u x0 3) ≠ 0 ∧ kd G (gR u x0 3) = 13 ∧ vp_in x2 (ln G (gR u x0 3)) ∧ (((gI u (gR u x0 3) x2.toNatClampNeg) < x1 → V_X3_orderHeard_55 G Q k_7 x0 x1 x2 u) ∧ (¬ (gI u (gR u x0 3) x2.toNatClampNeg) < x1 → (gR u x0 6) ≠ 0 ∧ (gR u x0 2) ≠ 0 ∧ kd G (gR u x0 2) = 13 ∧ vp_in x2 (ln G (gR u x0 2)) ∧ V_X11_wayRoot G (gI u (gR u x0 2) x2.toNatClampNeg) u (fun (v_39 : Int32) (u_39 : Mm) => V_X11_insert G (gR u x0 6) (gI u x0 5) v_39 u_39 (fun (u_42 : Mm) => ∀ u_52 : Mm, u_52 = sI u_42 x0 5 ((gI u_42 x0 5) + (1 : Int32)) → V_X3_orderHeard_55 G Q k_7 x0 x1 x2 u_52))))))
def V_X3_orderHeard_7 (G : Gx) (Q : Int32 → Mm → Prop) : Nat → (Nat → Int32 → Int32 → Mm → Prop)
  | 0 => fun _ _ _ _ => False
  | n + 1 => fun x0 x1 x2 u => V_X3_orderHeard_7_B G Q (V_X3_orderHeard_7 G Q n) x0 x1 x2 u
def V_X3_orderHeard (G : Gx) (p0 : Nat) (p1 : Int32) (u : Mm) (Q : Int32 → Mm → Prop) : Prop :=
  kd G p0 = 3 ∧ ∀ u_2 : Mm, u_2 = sI u p0 5 (0 : Int32) → ∃ n : Nat, V_X3_orderHeard_7 G Q n p0 p1 (0 : Int32) u_2
set_option maxHeartbeats 4000000 in
set_option maxRecDepth 100000 in
theorem b_X3_orderHeard_55 {G : Gx} {Q : Int32 → Mm → Prop} {p : Program} {l : Launch} {e : Env} {s : State} {m : MethodId} {args : Array Value} {below : List Frame} {meth : Method} {c : Code} (C : Cx G p s m c cX3_orderHeard RX3 3) (hr : meth.sig.returnType = (some .int)) (hlk : meth.locks = false) {k_7 : Nat → Int32 → Int32 → Mm → Prop} (hk_7 : ∀ (x0 : Nat) (x1 : Int32) (x2 : Int32) (u : Mm) (H : Heap) (locs : List Loc) (ls : Array Slot), k_7 x0 x1 x2 u → lv_has ls 3 [(0, .ref x0), (1, .int x1), (2, .int x2)] → Hp G u s H locs → W p l e rm_X3_orderHeard s m args below meth c H locs 0 0 (MQ below (Ei G Q) args s 0 0 (ag G)) (F0 m 7 ls [])) {x0 : Nat} {x1 : Int32} {x2 : Int32} {u : Mm} {H : Heap} {locs : List Loc} {ls : Array Slot} (h : V_X3_orderHeard_55 G Q k_7 x0 x1 x2 u) (hl : lv_has ls 3 [(0, .ref x0), (1, .int x1), (2, .int x2)]) (hP : Hp G u s H locs) : W p l e rm_X3_orderHeard s m args below meth c H locs 0 0 (MQ below (Ei G Q) args s 0 0 (ag G)) (F0 m 55 ls []) := by
  have hx := C.1
  have hb := C.2.1
  unfold V_X3_orderHeard_55 at h
  obtain ⟨x2_55, ex2_55⟩ : ∃ y : Int32, y = x2 + (1 : Int32) := ⟨_, rfl⟩
  have h := h x2_55 ex2_55
  refine lv_iinc (v := x2_55) (lv' := [(2, .int x2_55), (0, .ref x0), (1, .int x1)]) hx hb dX3_orderHeard_55 hl (k := 2) rfl (by rw [ex2_55]; rfl) (by decide) rfl (fun ls hl => ?_)
  refine lv_goto (tgt := 7) hx hb dX3_orderHeard_58 (by decide) ?_
  exact hk_7 x0 x1 x2_55 u _ _ _ h (lv_sub hl [1, 2, 0] rfl) hP
set_option maxHeartbeats 4000000 in
set_option maxRecDepth 100000 in
theorem b_X3_orderHeard_7 {G : Gx} {Q : Int32 → Mm → Prop} {p : Program} {l : Launch} {e : Env} {s : State} {m : MethodId} {args : Array Value} {below : List Frame} {meth : Method} {c : Code} (C : Cx G p s m c cX3_orderHeard RX3 3) (hr : meth.sig.returnType = (some .int)) (hlk : meth.locks = false) {k_7 : Nat → Int32 → Int32 → Mm → Prop} (hk_7 : ∀ (x0 : Nat) (x1 : Int32) (x2 : Int32) (u : Mm) (H : Heap) (locs : List Loc) (ls : Array Slot), k_7 x0 x1 x2 u → lv_has ls 3 [(0, .ref x0), (1, .int x1), (2, .int x2)] → Hp G u s H locs → W p l e rm_X3_orderHeard s m args below meth c H locs 0 0 (MQ below (Ei G Q) args s 0 0 (ag G)) (F0 m 7 ls [])) {x0 : Nat} {x1 : Int32} {x2 : Int32} {u : Mm} {H : Heap} {locs : List Loc} {ls : Array Slot} (h : V_X3_orderHeard_7_B G Q k_7 x0 x1 x2 u) (hl : lv_has ls 3 [(0, .ref x0), (1, .int x1), (2, .int x2)]) (hP : Hp G u s H locs) : W p l e rm_X3_orderHeard s m args below meth c H locs 0 0 (MQ below (Ei G Q) args s 0 0 (ag G)) (F0 m 7 ls []) := by
  have hx := C.1
  have hb := C.2.1
  unfold V_X3_orderHeard_7_B at h
  refine lv_iload_n hx hb dX3_orderHeard_7 rfl (lv_at hl 2 rfl) ?_
  refine lv_aload_n hx hb dX3_orderHeard_8 rfl (lv_at hl 0 rfl) ?_
  obtain ⟨g1, h⟩ := h
  refine q_getI C hP (k := 0) (lay_X3 C.hA) rfl (by decide) g1 (fl_X3_29 C.hA) dX3_orderHeard_9 ?_
  refine lv_icmp_ge (tgt := 61) hx hb dX3_orderHeard_12 (by decide) (fun c12 => ?_) (fun c12 => ?_)
  · have h := h.1 c12
    refine lv_aload_n hx hb dX3_orderHeard_61 rfl (lv_at hl 0 rfl) ?_
    refine q_getI C hP (k := 5) (lay_X3 C.hA) rfl (by decide) g1 (fl_X3_87 C.hA) dX3_orderHeard_62 ?_
    exact q_iret C hr hlk hP h (by decide) (by decide) dX3_orderHeard_65
  · have h := h.2 c12
    refine lv_aload_n hx hb dX3_orderHeard_15 rfl (lv_at hl 0 rfl) ?_
    obtain ⟨g2, h⟩ := h
    refine q_getR C hP (k := 3) (lay_X3 C.hA) rfl (by decide) g1 g2 (fl_X3_18 C.hA) dX3_orderHeard_16 ?_
    refine lv_iload_n hx hb dX3_orderHeard_19 rfl (lv_at hl 2 rfl) ?_
    obtain ⟨g3, h⟩ := h
    obtain ⟨g4, h⟩ := h
    refine q_iald C hP g3 g4 dX3_orderHeard_20 ?_
    refine lv_iload_n hx hb dX3_orderHeard_21 rfl (lv_at hl 1 rfl) ?_
    refine lv_icmp_lt (tgt := 55) hx hb dX3_orderHeard_22 (by decide) (fun c22 => ?_) (fun c22 => ?_)
    · have h := h.1 c22
      exact b_X3_orderHeard_55 C hr hlk hk_7 h (lv_sub hl [0, 1, 2] rfl) hP
    · have h := h.2 c22
      refine lv_aload_n hx hb dX3_orderHeard_25 rfl (lv_at hl 0 rfl) ?_
      obtain ⟨g5, h⟩ := h
      refine q_getR C hP (k := 6) (lay_X3 C.hA) rfl (by decide) g1 g5 (fl_X3_26 C.hA) dX3_orderHeard_26 ?_
      refine lv_aload_n hx hb dX3_orderHeard_29 rfl (lv_at hl 0 rfl) ?_
      refine q_getI C hP (k := 5) (lay_X3 C.hA) rfl (by decide) g1 (fl_X3_87 C.hA) dX3_orderHeard_30 ?_
      refine lv_aload_n hx hb dX3_orderHeard_33 rfl (lv_at hl 0 rfl) ?_
      obtain ⟨g6, h⟩ := h
      refine q_getR C hP (k := 2) (lay_X3 C.hA) rfl (by decide) g1 g6 (fl_X3_15 C.hA) dX3_orderHeard_34 ?_
      refine lv_iload_n hx hb dX3_orderHeard_37 rfl (lv_at hl 2 rfl) ?_
      obtain ⟨g7, h⟩ := h
      obtain ⟨g8, h⟩ := h
      refine q_iald C hP g7 g8 dX3_orderHeard_38 ?_
      refine q_cali (q_runSN C hP (c_X11_wayRoot h) (cd_X11_wayRoot C.hA) (ini_X11 C.hA) (mn_X3_90 C.hA) (st_X11_wayRoot C.hA) hd_X11_wayRoot ⟨rfl, rfl⟩ ⟨Nat.le_of_ble_eq_true rfl, Nat.le_of_ble_eq_true rfl⟩ ⟨Nat.le_of_ble_eq_true rfl, Nat.le_of_ble_eq_true rfl⟩ hl.1 rfl (Nat.le_of_ble_eq_true rfl) dX3_orderHeard_39) hP (fun v_39 u_39 H locs h hP => ?_)
      refine q_calv (q_runSN C hP (c_X11_insert h) (cd_X11_insert C.hA) (ini_X11 C.hA) (mn_X3_93 C.hA) (st_X11_insert C.hA) hd_X11_insert ⟨rfl, rfl⟩ ⟨Nat.le_of_ble_eq_true rfl, Nat.le_of_ble_eq_true rfl⟩ ⟨Nat.le_of_ble_eq_true rfl, Nat.le_of_ble_eq_true rfl⟩ hl.1 rfl (Nat.le_of_ble_eq_true rfl) dX3_orderHeard_42) hP (fun u_42 H locs h hP => ?_)
      refine lv_aload_n hx hb dX3_orderHeard_45 rfl (lv_at hl 0 rfl) ?_
      refine lv_dup hx hb dX3_orderHeard_46 rfl ?_
      refine q_getI C hP (k := 5) (lay_X3 C.hA) rfl (by decide) g1 (fl_X3_87 C.hA) dX3_orderHeard_47 ?_
      refine lv_iconst (v := (1 : Int32)) hx hb dX3_orderHeard_50 (by decide) ?_
      refine lv_iadd hx hb dX3_orderHeard_51 ?_
      refine q_putI C hP (k := 5) tyX3_ok nmX3 (lay_X3 C.hA) rfl (by decide) rfl rfl rfl rfl g1 (fl_X3_87 C.hA) dX3_orderHeard_52 (fun H locs hP => ?_)
      obtain ⟨u_52, eu_52, hP⟩ := Hp.nm hP
      have h := h u_52 eu_52
      exact b_X3_orderHeard_55 C hr hlk hk_7 h (lv_sub hl [0, 1, 2] rfl) hP
theorem l_X3_orderHeard_7 {G : Gx} {Q : Int32 → Mm → Prop} {p : Program} {l : Launch} {e : Env} {s : State} {m : MethodId} {args : Array Value} {below : List Frame} {meth : Method} {c : Code} (C : Cx G p s m c cX3_orderHeard RX3 3) (hr : meth.sig.returnType = (some .int)) (hlk : meth.locks = false) : ∀ (n : Nat) (x0 : Nat) (x1 : Int32) (x2 : Int32) (u : Mm) (H : Heap) (locs : List Loc) (ls : Array Slot), V_X3_orderHeard_7 G Q n x0 x1 x2 u → lv_has ls 3 [(0, .ref x0), (1, .int x1), (2, .int x2)] → Hp G u s H locs → W p l e rm_X3_orderHeard s m args below meth c H locs 0 0 (MQ below (Ei G Q) args s 0 0 (ag G)) (F0 m 7 ls []) := by
  intro n
  induction n with
  | zero => intro x0 x1 x2 u H locs ls h; exact h.elim
  | succ n ih => intro x0 x1 x2 u H locs ls h hl hP; exact b_X3_orderHeard_7 C hr hlk ih h hl hP
set_option maxHeartbeats 4000000 in
set_option maxRecDepth 100000 in
theorem c_X3_orderHeard {l : Launch} {G : Gx} {p0 : Nat} {p1 : Int32} {u : Mm} {Q : Int32 → Mm → Prop} (h : V_X3_orderHeard G p0 p1 u Q) : Met l yX3_orderHeard [.code yX3_orderHeard cX3_orderHeard 3 (some .int)] rm_X3_orderHeard (va_Pc [.ref p0, .int p1] (Wd G u)) (Ei G Q) 0 0 (ag G) := by
  refine q_met (by decide) (Nat.le_of_ble_eq_true rfl) ?_
  intro p e s m below meth c ls C hr hlk hnm hl hP
  have hl : lv_has ls 3 [(0, .ref p0), (1, .int p1)] := hl
  generalize ([.ref p0, .int p1] : List Value).toArray = args
  have hx := C.1
  have hb := C.2.1
  unfold V_X3_orderHeard at h
  refine lv_aload_n hx hb dX3_orderHeard_0 rfl (lv_at hl 0 rfl) ?_
  refine lv_iconst (v := (0 : Int32)) hx hb dX3_orderHeard_1 (by decide) ?_
  obtain ⟨g1, h⟩ := h
  refine q_putI C hP (k := 5) tyX3_ok nmX3 (lay_X3 C.hA) rfl (by decide) rfl rfl rfl rfl g1 (fl_X3_87 C.hA) dX3_orderHeard_2 (fun H locs hP => ?_)
  obtain ⟨u_2, eu_2, hP⟩ := Hp.nm hP
  have h := h u_2 eu_2
  refine lv_iconst (v := (0 : Int32)) hx hb dX3_orderHeard_5 (by decide) ?_
  refine lv_istore_n (lv' := [(2, .int (0 : Int32)), (0, .ref p0), (1, .int p1)]) hx hb dX3_orderHeard_6 rfl hl (by decide) rfl (fun ls hl => ?_)
  obtain ⟨n, h⟩ := h
  exact l_X3_orderHeard_7 C hr hlk n p0 p1 (0 : Int32) u_2 _ _ _ h (lv_sub hl [1, 2, 0] rfl) hP
-- X3_strengthOf
abbrev rm_X3_strengthOf : Room := { frames := 0, cells := 0, slots := 0, locals := 0 }
theorem hd_X3_strengthOf : yX3_strengthOf.cls ≠ "java/lang/invoke/MethodHandle" ∧ yX3_strengthOf.cls ≠ "java/lang/invoke/VarHandle" ∧ (parseMethodDescriptor yX3_strengthOf.desc).map (fun d => d.parameters.length) = some 1 := by decide +kernel
def V_X3_strengthOf_2_B (G : Gx) (Q : Int32 → Mm → Prop) (k_2 : Nat → Int32 → Int32 → Mm → Prop) (x0 : Nat) (x1 : Int32) (x2 : Int32) (u : Mm) : Prop :=
  kd G x0 = 3 ∧ (((gI u x0 0) ≤ x2 → Q (-1 : Int32) u) ∧ (¬ (gI u x0 0) ≤ x2 → (gR u x0 1) ≠ 0 ∧ kd G (gR u x0 1) = 13 ∧ vp_in x2 (ln G (gR u x0 1)) ∧ (((gI u (gR u x0 1) x2.toNatClampNeg) = x1 → (gR u x0 3) ≠ 0 ∧ kd G (gR u x0 3) = 13 ∧ vp_in x2 (ln G (gR u x0 3)) ∧ Q (gI u (gR u x0 3) x2.toNatClampNeg) u) ∧ (¬ (gI u (gR u x0 1) x2.toNatClampNeg) = x1 → ∀ x2_27 : Int32, x2_27 = x2 + (1 : Int32) → k_2 x0 x1 x2_27 u))))
def V_X3_strengthOf_2 (G : Gx) (Q : Int32 → Mm → Prop) : Nat → (Nat → Int32 → Int32 → Mm → Prop)
  | 0 => fun _ _ _ _ => False
  | n + 1 => fun x0 x1 x2 u => V_X3_strengthOf_2_B G Q (V_X3_strengthOf_2 G Q n) x0 x1 x2 u
def V_X3_strengthOf (G : Gx) (p0 : Nat) (p1 : Int32) (u : Mm) (Q : Int32 → Mm → Prop) : Prop :=
  ∃ n : Nat, V_X3_strengthOf_2 G Q n p0 p1 (0 : Int32) u
set_option maxHeartbeats 4000000 in
set_option maxRecDepth 100000 in
theorem b_X3_strengthOf_2 {G : Gx} {Q : Int32 → Mm → Prop} {p : Program} {l : Launch} {e : Env} {s : State} {m : MethodId} {args : Array Value} {below : List Frame} {meth : Method} {c : Code} (C : Cx G p s m c cX3_strengthOf RX3 3) (hr : meth.sig.returnType = (some .int)) (hlk : meth.locks = false) {k_2 : Nat → Int32 → Int32 → Mm → Prop} (hk_2 : ∀ (x0 : Nat) (x1 : Int32) (x2 : Int32) (u : Mm) (H : Heap) (locs : List Loc) (ls : Array Slot), k_2 x0 x1 x2 u → lv_has ls 3 [(0, .ref x0), (1, .int x1), (2, .int x2)] → Hp G u s H locs → W p l e rm_X3_strengthOf s m args below meth c H locs 0 0 (MQ below (Ei G Q) args s 0 0 (ag G)) (F0 m 2 ls [])) {x0 : Nat} {x1 : Int32} {x2 : Int32} {u : Mm} {H : Heap} {locs : List Loc} {ls : Array Slot} (h : V_X3_strengthOf_2_B G Q k_2 x0 x1 x2 u) (hl : lv_has ls 3 [(0, .ref x0), (1, .int x1), (2, .int x2)]) (hP : Hp G u s H locs) : W p l e rm_X3_strengthOf s m args below meth c H locs 0 0 (MQ below (Ei G Q) args s 0 0 (ag G)) (F0 m 2 ls []) := by
  have hx := C.1
  have hb := C.2.1
  unfold V_X3_strengthOf_2_B at h
  refine lv_iload_n hx hb dX3_strengthOf_2 rfl (lv_at hl 2 rfl) ?_
  refine lv_aload_n hx hb dX3_strengthOf_3 rfl (lv_at hl 0 rfl) ?_
  obtain ⟨g1, h⟩ := h
  refine q_getI C hP (k := 0) (lay_X3 C.hA) rfl (by decide) g1 (fl_X3_29 C.hA) dX3_strengthOf_4 ?_
  refine lv_icmp_ge (tgt := 33) hx hb dX3_strengthOf_7 (by decide) (fun c7 => ?_) (fun c7 => ?_)
  · have h := h.1 c7
    refine lv_iconst (v := (-1 : Int32)) hx hb dX3_strengthOf_33 (by decide) ?_
    exact q_iret C hr hlk hP h (by decide) (by decide) dX3_strengthOf_34
  · have h := h.2 c7
    refine lv_aload_n hx hb dX3_strengthOf_10 rfl (lv_at hl 0 rfl) ?_
    obtain ⟨g2, h⟩ := h
    refine q_getR C hP (k := 1) (lay_X3 C.hA) rfl (by decide) g1 g2 (fl_X3_9 C.hA) dX3_strengthOf_11 ?_
    refine lv_iload_n hx hb dX3_strengthOf_14 rfl (lv_at hl 2 rfl) ?_
    obtain ⟨g3, h⟩ := h
    obtain ⟨g4, h⟩ := h
    refine q_iald C hP g3 g4 dX3_strengthOf_15 ?_
    refine lv_iload_n hx hb dX3_strengthOf_16 rfl (lv_at hl 1 rfl) ?_
    refine lv_icmp_ne (tgt := 27) hx hb dX3_strengthOf_17 (by decide) (fun c17 => ?_) (fun c17 => ?_)
    · have h := h.2 c17
      obtain ⟨x2_27, ex2_27⟩ : ∃ y : Int32, y = x2 + (1 : Int32) := ⟨_, rfl⟩
      have h := h x2_27 ex2_27
      refine lv_iinc (v := x2_27) (lv' := [(2, .int x2_27), (0, .ref x0), (1, .int x1)]) hx hb dX3_strengthOf_27 hl (k := 2) rfl (by rw [ex2_27]; rfl) (by decide) rfl (fun ls hl => ?_)
      refine lv_goto (tgt := 2) hx hb dX3_strengthOf_30 (by decide) ?_
      exact hk_2 x0 x1 x2_27 u _ _ _ h (lv_sub hl [1, 2, 0] rfl) hP
    · have h := h.1 c17
      refine lv_aload_n hx hb dX3_strengthOf_20 rfl (lv_at hl 0 rfl) ?_
      obtain ⟨g5, h⟩ := h
      refine q_getR C hP (k := 3) (lay_X3 C.hA) rfl (by decide) g1 g5 (fl_X3_18 C.hA) dX3_strengthOf_21 ?_
      refine lv_iload_n hx hb dX3_strengthOf_24 rfl (lv_at hl 2 rfl) ?_
      obtain ⟨g6, h⟩ := h
      obtain ⟨g7, h⟩ := h
      refine q_iald C hP g6 g7 dX3_strengthOf_25 ?_
      exact q_iret C hr hlk hP h (by decide) (by decide) dX3_strengthOf_26
theorem l_X3_strengthOf_2 {G : Gx} {Q : Int32 → Mm → Prop} {p : Program} {l : Launch} {e : Env} {s : State} {m : MethodId} {args : Array Value} {below : List Frame} {meth : Method} {c : Code} (C : Cx G p s m c cX3_strengthOf RX3 3) (hr : meth.sig.returnType = (some .int)) (hlk : meth.locks = false) : ∀ (n : Nat) (x0 : Nat) (x1 : Int32) (x2 : Int32) (u : Mm) (H : Heap) (locs : List Loc) (ls : Array Slot), V_X3_strengthOf_2 G Q n x0 x1 x2 u → lv_has ls 3 [(0, .ref x0), (1, .int x1), (2, .int x2)] → Hp G u s H locs → W p l e rm_X3_strengthOf s m args below meth c H locs 0 0 (MQ below (Ei G Q) args s 0 0 (ag G)) (F0 m 2 ls []) := by
  intro n
  induction n with
  | zero => intro x0 x1 x2 u H locs ls h; exact h.elim
  | succ n ih => intro x0 x1 x2 u H locs ls h hl hP; exact b_X3_strengthOf_2 C hr hlk ih h hl hP
set_option maxHeartbeats 4000000 in
set_option maxRecDepth 100000 in
theorem c_X3_strengthOf {l : Launch} {G : Gx} {p0 : Nat} {p1 : Int32} {u : Mm} {Q : Int32 → Mm → Prop} (h : V_X3_strengthOf G p0 p1 u Q) : Met l yX3_strengthOf [.code yX3_strengthOf cX3_strengthOf 3 (some .int)] rm_X3_strengthOf (va_Pc [.ref p0, .int p1] (Wd G u)) (Ei G Q) 0 0 (ag G) := by
  refine q_met (by decide) (Nat.le_of_ble_eq_true rfl) ?_
  intro p e s m below meth c ls C hr hlk hnm hl hP
  have hl : lv_has ls 3 [(0, .ref p0), (1, .int p1)] := hl
  generalize ([.ref p0, .int p1] : List Value).toArray = args
  have hx := C.1
  have hb := C.2.1
  unfold V_X3_strengthOf at h
  refine lv_iconst (v := (0 : Int32)) hx hb dX3_strengthOf_0 (by decide) ?_
  refine lv_istore_n (lv' := [(2, .int (0 : Int32)), (0, .ref p0), (1, .int p1)]) hx hb dX3_strengthOf_1 rfl hl (by decide) rfl (fun ls hl => ?_)
  obtain ⟨n, h⟩ := h
  exact l_X3_strengthOf_2 C hr hlk n p0 p1 (0 : Int32) u _ _ _ h (lv_sub hl [1, 2, 0] rfl) hP
-- X7_begin
abbrev rm_X7_begin : Room := { frames := 0, cells := 0, slots := 0, locals := 0 }
theorem hd_X7_begin : yX7_begin.cls ≠ "java/lang/invoke/MethodHandle" ∧ yX7_begin.cls ≠ "java/lang/invoke/VarHandle" ∧ (parseMethodDescriptor yX7_begin.desc).map (fun d => d.parameters.length) = some 4 := by decide +kernel
def V_X7_begin (G : Gx) (p0 : Nat) (p1 : Int32) (p2 : Int32) (p3 : Int32) (p4 : Int32) (u : Mm) (Q : Mm → Prop) : Prop :=
  kd G p0 = 7 ∧ ∀ u_2 : Mm, u_2 = sI u p0 0 p1 → ∀ u_7 : Mm, u_7 = sI u_2 p0 1 p2 → ∀ u_12 : Mm, u_12 = sI u_7 p0 2 p3 → ∀ u_18 : Mm, u_18 = sI u_12 p0 3 p4 → ∀ u_23 : Mm, u_23 = sI u_18 p0 4 (0 : Int32) → Q u_23
set_option maxHeartbeats 4000000 in
set_option maxRecDepth 100000 in
theorem c_X7_begin {l : Launch} {G : Gx} {p0 : Nat} {p1 : Int32} {p2 : Int32} {p3 : Int32} {p4 : Int32} {u : Mm} {Q : Mm → Prop} (h : V_X7_begin G p0 p1 p2 p3 p4 u Q) : Met l yX7_begin [.code yX7_begin cX7_begin 5 none] rm_X7_begin (va_Pc [.ref p0, .int p1, .int p2, .int p3, .int p4] (Wd G u)) (Ev G Q) 0 0 (ag G) := by
  refine q_met (by decide) (Nat.le_of_ble_eq_true rfl) ?_
  intro p e s m below meth c ls C hr hlk hnm hl hP
  have hl : lv_has ls 5 [(0, .ref p0), (1, .int p1), (2, .int p2), (3, .int p3), (4, .int p4)] := hl
  generalize ([.ref p0, .int p1, .int p2, .int p3, .int p4] : List Value).toArray = args
  have hx := C.1
  have hb := C.2.1
  unfold V_X7_begin at h
  refine lv_aload_n hx hb dX7_begin_0 rfl (lv_at hl 0 rfl) ?_
  refine lv_iload_n hx hb dX7_begin_1 rfl (lv_at hl 1 rfl) ?_
  obtain ⟨g1, h⟩ := h
  refine q_putI C hP (k := 0) tyX7_ok nmX7 (lay_X7 C.hA) rfl (by decide) rfl rfl rfl rfl g1 (fl_X7_18 C.hA) dX7_begin_2 (fun H locs hP => ?_)
  obtain ⟨u_2, eu_2, hP⟩ := Hp.nm hP
  have h := h u_2 eu_2
  refine lv_aload_n hx hb dX7_begin_5 rfl (lv_at hl 0 rfl) ?_
  refine lv_iload_n hx hb dX7_begin_6 rfl (lv_at hl 2 rfl) ?_
  refine q_putI C hP (k := 1) tyX7_ok nmX7 (lay_X7 C.hA) rfl (by decide) rfl rfl rfl rfl g1 (fl_X7_22 C.hA) dX7_begin_7 (fun H locs hP => ?_)
  obtain ⟨u_7, eu_7, hP⟩ := Hp.nm hP
  have h := h u_7 eu_7
  refine lv_aload_n hx hb dX7_begin_10 rfl (lv_at hl 0 rfl) ?_
  refine lv_iload_n hx hb dX7_begin_11 rfl (lv_at hl 3 rfl) ?_
  refine q_putI C hP (k := 2) tyX7_ok nmX7 (lay_X7 C.hA) rfl (by decide) rfl rfl rfl rfl g1 (fl_X7_25 C.hA) dX7_begin_12 (fun H locs hP => ?_)
  obtain ⟨u_12, eu_12, hP⟩ := Hp.nm hP
  have h := h u_12 eu_12
  refine lv_aload_n hx hb dX7_begin_15 rfl (lv_at hl 0 rfl) ?_
  refine lv_iload hx hb dX7_begin_16 (lv_at hl 4 rfl) ?_
  refine q_putI C hP (k := 3) tyX7_ok nmX7 (lay_X7 C.hA) rfl (by decide) rfl rfl rfl rfl g1 (fl_X7_28 C.hA) dX7_begin_18 (fun H locs hP => ?_)
  obtain ⟨u_18, eu_18, hP⟩ := Hp.nm hP
  have h := h u_18 eu_18
  refine lv_aload_n hx hb dX7_begin_21 rfl (lv_at hl 0 rfl) ?_
  refine lv_iconst (v := (0 : Int32)) hx hb dX7_begin_22 (by decide) ?_
  refine q_putI C hP (k := 4) tyX7_ok nmX7 (lay_X7 C.hA) rfl (by decide) rfl rfl rfl rfl g1 (fl_X7_31 C.hA) dX7_begin_23 (fun H locs hP => ?_)
  obtain ⟨u_23, eu_23, hP⟩ := Hp.nm hP
  have h := h u_23 eu_23
  exact q_vret C hr hlk hP h (by decide) (by decide) dX7_begin_26
-- X7_write
abbrev rm_X7_write : Room := { frames := 1, cells := 0, slots := 0, locals := 23 }
theorem hd_X7_write : yX7_write.cls ≠ "java/lang/invoke/MethodHandle" ∧ yX7_write.cls ≠ "java/lang/invoke/VarHandle" ∧ (parseMethodDescriptor yX7_write.desc).map (fun d => d.parameters.length) = some 1 := by decide +kernel
def V_X7_write (G : Gx) (p0 : Nat) (p1 : Int32) (u : Mm) (Q : Mm → Prop) : Prop :=
  kd G p0 = 7 ∧ (((gI u p0 4) < (12 : Int32) → (gR u p0 5) ≠ 0 ∧ kd G (gR u p0 5) = 13 ∧ vp_in (gI u p0 4) (ln G (gR u p0 5)) ∧ ∀ u_19 : Mm, u_19 = sI u (gR u p0 5) (gI u p0 4).toNatClampNeg p1 → (gR u_19 p0 6) ≠ 0 ∧ V_X11_insert G (gR u_19 p0 6) (gI u_19 p0 4) p1 u_19 (fun (u_29 : Mm) => ∀ u_39 : Mm, u_39 = sI u_29 p0 4 ((gI u_29 p0 4) + (1 : Int32)) → Q u_39)) ∧ (¬ (gI u p0 4) < (12 : Int32) → Q u))
set_option maxHeartbeats 4000000 in
set_option maxRecDepth 100000 in
theorem c_X7_write {l : Launch} {G : Gx} {p0 : Nat} {p1 : Int32} {u : Mm} {Q : Mm → Prop} (h : V_X7_write G p0 p1 u Q) : Met l yX7_write [.code yX7_write cX7_write 2 none] rm_X7_write (va_Pc [.ref p0, .int p1] (Wd G u)) (Ev G Q) 0 0 (ag G) := by
  refine q_met (by decide) (Nat.le_of_ble_eq_true rfl) ?_
  intro p e s m below meth c ls C hr hlk hnm hl hP
  have hl : lv_has ls 2 [(0, .ref p0), (1, .int p1)] := hl
  generalize ([.ref p0, .int p1] : List Value).toArray = args
  have hx := C.1
  have hb := C.2.1
  unfold V_X7_write at h
  refine lv_aload_n hx hb dX7_write_0 rfl (lv_at hl 0 rfl) ?_
  obtain ⟨g1, h⟩ := h
  refine q_getI C hP (k := 4) (lay_X7 C.hA) rfl (by decide) g1 (fl_X7_31 C.hA) dX7_write_1 ?_
  refine lv_bipush (v := (12 : Int32)) hx hb dX7_write_4 (by decide) ?_
  refine lv_icmp_lt (tgt := 10) hx hb dX7_write_6 (by decide) (fun c6 => ?_) (fun c6 => ?_)
  · have h := h.1 c6
    refine lv_aload_n hx hb dX7_write_10 rfl (lv_at hl 0 rfl) ?_
    obtain ⟨g2, h⟩ := h
    refine q_getR C hP (k := 5) (lay_X7 C.hA) rfl (by decide) g1 g2 (fl_X7_9 C.hA) dX7_write_11 ?_
    refine lv_aload_n hx hb dX7_write_14 rfl (lv_at hl 0 rfl) ?_
    refine q_getI C hP (k := 4) (lay_X7 C.hA) rfl (by decide) g1 (fl_X7_31 C.hA) dX7_write_15 ?_
    refine lv_iload_n hx hb dX7_write_18 rfl (lv_at hl 1 rfl) ?_
    obtain ⟨g3, h⟩ := h
    obtain ⟨g4, h⟩ := h
    refine q_iast C hP g3 g4 dX7_write_19 (fun H locs hP => ?_)
    obtain ⟨u_19, eu_19, hP⟩ := Hp.nm hP
    have h := h u_19 eu_19
    refine lv_aload_n hx hb dX7_write_20 rfl (lv_at hl 0 rfl) ?_
    obtain ⟨g5, h⟩ := h
    refine q_getR C hP (k := 6) (lay_X7 C.hA) rfl (by decide) g1 g5 (fl_X7_15 C.hA) dX7_write_21 ?_
    refine lv_aload_n hx hb dX7_write_24 rfl (lv_at hl 0 rfl) ?_
    refine q_getI C hP (k := 4) (lay_X7 C.hA) rfl (by decide) g1 (fl_X7_31 C.hA) dX7_write_25 ?_
    refine lv_iload_n hx hb dX7_write_28 rfl (lv_at hl 1 rfl) ?_
    refine q_calv (q_runSN C hP (c_X11_insert h) (cd_X11_insert C.hA) (ini_X11 C.hA) (mn_X7_34 C.hA) (st_X11_insert C.hA) hd_X11_insert ⟨rfl, rfl⟩ ⟨Nat.le_of_ble_eq_true rfl, Nat.le_of_ble_eq_true rfl⟩ ⟨Nat.le_of_ble_eq_true rfl, Nat.le_of_ble_eq_true rfl⟩ hl.1 rfl (Nat.le_of_ble_eq_true rfl) dX7_write_29) hP (fun u_29 H locs h hP => ?_)
    refine lv_aload_n hx hb dX7_write_32 rfl (lv_at hl 0 rfl) ?_
    refine lv_dup hx hb dX7_write_33 rfl ?_
    refine q_getI C hP (k := 4) (lay_X7 C.hA) rfl (by decide) g1 (fl_X7_31 C.hA) dX7_write_34 ?_
    refine lv_iconst (v := (1 : Int32)) hx hb dX7_write_37 (by decide) ?_
    refine lv_iadd hx hb dX7_write_38 ?_
    refine q_putI C hP (k := 4) tyX7_ok nmX7 (lay_X7 C.hA) rfl (by decide) rfl rfl rfl rfl g1 (fl_X7_31 C.hA) dX7_write_39 (fun H locs hP => ?_)
    obtain ⟨u_39, eu_39, hP⟩ := Hp.nm hP
    have h := h u_39 eu_39
    exact q_vret C hr hlk hP h (by decide) (by decide) dX7_write_42
  · have h := h.2 c6
    exact q_vret C hr hlk hP h (by decide) (by decide) dX7_write_9
-- X7_isNamed
abbrev rm_X7_isNamed : Room := { frames := 0, cells := 0, slots := 0, locals := 0 }
theorem hd_X7_isNamed : yX7_isNamed.cls ≠ "java/lang/invoke/MethodHandle" ∧ yX7_isNamed.cls ≠ "java/lang/invoke/VarHandle" ∧ (parseMethodDescriptor yX7_isNamed.desc).map (fun d => d.parameters.length) = some 0 := by decide +kernel
def V_X7_isNamed (G : Gx) (p0 : Nat) (u : Mm) (Q : Int32 → Mm → Prop) : Prop :=
  kd G p0 = 7 ∧ (((gI u p0 0) = (-1 : Int32) → Q (0 : Int32) u) ∧ (¬ (gI u p0 0) = (-1 : Int32) → Q (1 : Int32) u))
set_option maxHeartbeats 4000000 in
set_option maxRecDepth 100000 in
theorem c_X7_isNamed {l : Launch} {G : Gx} {p0 : Nat} {u : Mm} {Q : Int32 → Mm → Prop} (h : V_X7_isNamed G p0 u Q) : Met l yX7_isNamed [.code yX7_isNamed cX7_isNamed 1 (some .boolean)] rm_X7_isNamed (va_Pc [.ref p0] (Wd G u)) (Ei G Q) 0 0 (ag G) := by
  refine q_met (by decide) (Nat.le_of_ble_eq_true rfl) ?_
  intro p e s m below meth c ls C hr hlk hnm hl hP
  have hl : lv_has ls 1 [(0, .ref p0)] := hl
  generalize ([.ref p0] : List Value).toArray = args
  have hx := C.1
  have hb := C.2.1
  unfold V_X7_isNamed at h
  refine lv_aload_n hx hb dX7_isNamed_0 rfl (lv_at hl 0 rfl) ?_
  obtain ⟨g1, h⟩ := h
  refine q_getI C hP (k := 0) (lay_X7 C.hA) rfl (by decide) g1 (fl_X7_18 C.hA) dX7_isNamed_1 ?_
  refine lv_iconst (v := (-1 : Int32)) hx hb dX7_isNamed_4 (by decide) ?_
  refine lv_icmp_eq (tgt := 12) hx hb dX7_isNamed_5 (by decide) (fun c5 => ?_) (fun c5 => ?_)
  · have h := h.1 c5
    refine lv_iconst (v := (0 : Int32)) hx hb dX7_isNamed_12 (by decide) ?_
    exact q_zret C hr hlk hP (by decide) h (by decide) (by decide) dX7_isNamed_13
  · have h := h.2 c5
    refine lv_iconst (v := (1 : Int32)) hx hb dX7_isNamed_8 (by decide) ?_
    refine lv_goto (tgt := 13) hx hb dX7_isNamed_9 (by decide) ?_
    exact q_zret C hr hlk hP (by decide) h (by decide) (by decide) dX7_isNamed_13
-- X3_countHeard
abbrev rm_X3_countHeard : Room := { frames := 0, cells := 0, slots := 0, locals := 0 }
theorem hd_X3_countHeard : yX3_countHeard.cls ≠ "java/lang/invoke/MethodHandle" ∧ yX3_countHeard.cls ≠ "java/lang/invoke/VarHandle" ∧ (parseMethodDescriptor yX3_countHeard.desc).map (fun d => d.parameters.length) = some 1 := by decide +kernel
def V_X3_countHeard_25 (G : Gx) (Q : Int32 → Mm → Prop) (k_4 : Nat → Int32 → Int32 → Int32 → Mm → Prop) (x0 : Nat) (x1 : Int32) (x2 : Int32) (x3 : Int32) (u : Mm) : Prop :=
  ∀ x3_25 : Int32, x3_25 = x3 + (1 : Int32) → k_4 x0 x1 x2 x3_25 u
def V_X3_countHeard_4_B (G : Gx) (Q : Int32 → Mm → Prop) (k_4 : Nat → Int32 → Int32 → Int32 → Mm → Prop) (x0 : Nat) (x1 : Int32) (x2 : Int32) (x3 : Int32) (u : Mm) : Prop :=
  kd G x0 = 3 ∧ (((gI u x0 0) ≤ x3 → Q x2 u) ∧ (¬ (gI u x0 0) ≤ x3 → (gR u x0 3) ≠ 0 ∧ kd G (gR u x0 3) = 13 ∧ vp_in x3 (ln G (gR u x0 3)) ∧ (((gI u (gR u x0 3) x3.toNatClampNeg) < x1 → V_X3_countHeard_25 G Q k_4 x0 x1 x2 x3 u) ∧ (¬ (gI u (gR u x0 3) x3.toNatClampNeg) < x1 → ∀ x2_22 : Int32, x2_22 = x2 + (1 : Int32) → V_X3_countHeard_25 G Q k_4 x0 x1 x2_22 x3 u))))
def V_X3_countHeard_4 (G : Gx) (Q : Int32 → Mm → Prop) : Nat → (Nat → Int32 → Int32 → Int32 → Mm → Prop)
  | 0 => fun _ _ _ _ _ => False
  | n + 1 => fun x0 x1 x2 x3 u => V_X3_countHeard_4_B G Q (V_X3_countHeard_4 G Q n) x0 x1 x2 x3 u
def V_X3_countHeard (G : Gx) (p0 : Nat) (p1 : Int32) (u : Mm) (Q : Int32 → Mm → Prop) : Prop :=
  ∃ n : Nat, V_X3_countHeard_4 G Q n p0 p1 (0 : Int32) (0 : Int32) u
set_option maxHeartbeats 4000000 in
set_option maxRecDepth 100000 in
theorem b_X3_countHeard_25 {G : Gx} {Q : Int32 → Mm → Prop} {p : Program} {l : Launch} {e : Env} {s : State} {m : MethodId} {args : Array Value} {below : List Frame} {meth : Method} {c : Code} (C : Cx G p s m c cX3_countHeard RX3 4) (hr : meth.sig.returnType = (some .int)) (hlk : meth.locks = false) {k_4 : Nat → Int32 → Int32 → Int32 → Mm → Prop} (hk_4 : ∀ (x0 : Nat) (x1 : Int32) (x2 : Int32) (x3 : Int32) (u : Mm) (H : Heap) (locs : List Loc) (ls : Array Slot), k_4 x0 x1 x2 x3 u → lv_has ls 4 [(0, .ref x0), (1, .int x1), (2, .int x2), (3, .int x3)] → Hp G u s H locs → W p l e rm_X3_countHeard s m args below meth c H locs 0 0 (MQ below (Ei G Q) args s 0 0 (ag G)) (F0 m 4 ls [])) {x0 : Nat} {x1 : Int32} {x2 : Int32} {x3 : Int32} {u : Mm} {H : Heap} {locs : List Loc} {ls : Array Slot} (h : V_X3_countHeard_25 G Q k_4 x0 x1 x2 x3 u) (hl : lv_has ls 4 [(0, .ref x0), (1, .int x1), (2, .int x2), (3, .int x3)]) (hP : Hp G u s H locs) : W p l e rm_X3_countHeard s m args below meth c H locs 0 0 (MQ below (Ei G Q) args s 0 0 (ag G)) (F0 m 25 ls []) := by
  have hx := C.1
  have hb := C.2.1
  unfold V_X3_countHeard_25 at h
  obtain ⟨x3_25, ex3_25⟩ : ∃ y : Int32, y = x3 + (1 : Int32) := ⟨_, rfl⟩
  have h := h x3_25 ex3_25
  refine lv_iinc (v := x3_25) (lv' := [(3, .int x3_25), (0, .ref x0), (1, .int x1), (2, .int x2)]) hx hb dX3_countHeard_25 hl (k := 3) rfl (by rw [ex3_25]; rfl) (by decide) rfl (fun ls hl => ?_)
  refine lv_goto (tgt := 4) hx hb dX3_countHeard_28 (by decide) ?_
  exact hk_4 x0 x1 x2 x3_25 u _ _ _ h (lv_sub hl [1, 2, 3, 0] rfl) hP
set_option maxHeartbeats 4000000 in
set_option maxRecDepth 100000 in
theorem b_X3_countHeard_4 {G : Gx} {Q : Int32 → Mm → Prop} {p : Program} {l : Launch} {e : Env} {s : State} {m : MethodId} {args : Array Value} {below : List Frame} {meth : Method} {c : Code} (C : Cx G p s m c cX3_countHeard RX3 4) (hr : meth.sig.returnType = (some .int)) (hlk : meth.locks = false) {k_4 : Nat → Int32 → Int32 → Int32 → Mm → Prop} (hk_4 : ∀ (x0 : Nat) (x1 : Int32) (x2 : Int32) (x3 : Int32) (u : Mm) (H : Heap) (locs : List Loc) (ls : Array Slot), k_4 x0 x1 x2 x3 u → lv_has ls 4 [(0, .ref x0), (1, .int x1), (2, .int x2), (3, .int x3)] → Hp G u s H locs → W p l e rm_X3_countHeard s m args below meth c H locs 0 0 (MQ below (Ei G Q) args s 0 0 (ag G)) (F0 m 4 ls [])) {x0 : Nat} {x1 : Int32} {x2 : Int32} {x3 : Int32} {u : Mm} {H : Heap} {locs : List Loc} {ls : Array Slot} (h : V_X3_countHeard_4_B G Q k_4 x0 x1 x2 x3 u) (hl : lv_has ls 4 [(0, .ref x0), (1, .int x1), (2, .int x2), (3, .int x3)]) (hP : Hp G u s H locs) : W p l e rm_X3_countHeard s m args below meth c H locs 0 0 (MQ below (Ei G Q) args s 0 0 (ag G)) (F0 m 4 ls []) := by
  have hx := C.1
  have hb := C.2.1
  unfold V_X3_countHeard_4_B at h
  refine lv_iload_n hx hb dX3_countHeard_4 rfl (lv_at hl 3 rfl) ?_
  refine lv_aload_n hx hb dX3_countHeard_5 rfl (lv_at hl 0 rfl) ?_
  obtain ⟨g1, h⟩ := h
  refine q_getI C hP (k := 0) (lay_X3 C.hA) rfl (by decide) g1 (fl_X3_29 C.hA) dX3_countHeard_6 ?_
  refine lv_icmp_ge (tgt := 31) hx hb dX3_countHeard_9 (by decide) (fun c9 => ?_) (fun c9 => ?_)
  · have h := h.1 c9
    refine lv_iload_n hx hb dX3_countHeard_31 rfl (lv_at hl 2 rfl) ?_
    exact q_iret C hr hlk hP h (by decide) (by decide) dX3_countHeard_32
  · have h := h.2 c9
    refine lv_aload_n hx hb dX3_countHeard_12 rfl (lv_at hl 0 rfl) ?_
    obtain ⟨g2, h⟩ := h
    refine q_getR C hP (k := 3) (lay_X3 C.hA) rfl (by decide) g1 g2 (fl_X3_18 C.hA) dX3_countHeard_13 ?_
    refine lv_iload_n hx hb dX3_countHeard_16 rfl (lv_at hl 3 rfl) ?_
    obtain ⟨g3, h⟩ := h
    obtain ⟨g4, h⟩ := h
    refine q_iald C hP g3 g4 dX3_countHeard_17 ?_
    refine lv_iload_n hx hb dX3_countHeard_18 rfl (lv_at hl 1 rfl) ?_
    refine lv_icmp_lt (tgt := 25) hx hb dX3_countHeard_19 (by decide) (fun c19 => ?_) (fun c19 => ?_)
    · have h := h.1 c19
      exact b_X3_countHeard_25 C hr hlk hk_4 h (lv_sub hl [0, 1, 2, 3] rfl) hP
    · have h := h.2 c19
      obtain ⟨x2_22, ex2_22⟩ : ∃ y : Int32, y = x2 + (1 : Int32) := ⟨_, rfl⟩
      have h := h x2_22 ex2_22
      refine lv_iinc (v := x2_22) (lv' := [(2, .int x2_22), (0, .ref x0), (1, .int x1), (3, .int x3)]) hx hb dX3_countHeard_22 hl (k := 2) rfl (by rw [ex2_22]; rfl) (by decide) rfl (fun ls hl => ?_)
      exact b_X3_countHeard_25 C hr hlk hk_4 h (lv_sub hl [1, 2, 0, 3] rfl) hP
theorem l_X3_countHeard_4 {G : Gx} {Q : Int32 → Mm → Prop} {p : Program} {l : Launch} {e : Env} {s : State} {m : MethodId} {args : Array Value} {below : List Frame} {meth : Method} {c : Code} (C : Cx G p s m c cX3_countHeard RX3 4) (hr : meth.sig.returnType = (some .int)) (hlk : meth.locks = false) : ∀ (n : Nat) (x0 : Nat) (x1 : Int32) (x2 : Int32) (x3 : Int32) (u : Mm) (H : Heap) (locs : List Loc) (ls : Array Slot), V_X3_countHeard_4 G Q n x0 x1 x2 x3 u → lv_has ls 4 [(0, .ref x0), (1, .int x1), (2, .int x2), (3, .int x3)] → Hp G u s H locs → W p l e rm_X3_countHeard s m args below meth c H locs 0 0 (MQ below (Ei G Q) args s 0 0 (ag G)) (F0 m 4 ls []) := by
  intro n
  induction n with
  | zero => intro x0 x1 x2 x3 u H locs ls h; exact h.elim
  | succ n ih => intro x0 x1 x2 x3 u H locs ls h hl hP; exact b_X3_countHeard_4 C hr hlk ih h hl hP
set_option maxHeartbeats 4000000 in
set_option maxRecDepth 100000 in
theorem c_X3_countHeard {l : Launch} {G : Gx} {p0 : Nat} {p1 : Int32} {u : Mm} {Q : Int32 → Mm → Prop} (h : V_X3_countHeard G p0 p1 u Q) : Met l yX3_countHeard [.code yX3_countHeard cX3_countHeard 4 (some .int)] rm_X3_countHeard (va_Pc [.ref p0, .int p1] (Wd G u)) (Ei G Q) 0 0 (ag G) := by
  refine q_met (by decide) (Nat.le_of_ble_eq_true rfl) ?_
  intro p e s m below meth c ls C hr hlk hnm hl hP
  have hl : lv_has ls 4 [(0, .ref p0), (1, .int p1)] := hl
  generalize ([.ref p0, .int p1] : List Value).toArray = args
  have hx := C.1
  have hb := C.2.1
  unfold V_X3_countHeard at h
  refine lv_iconst (v := (0 : Int32)) hx hb dX3_countHeard_0 (by decide) ?_
  refine lv_istore_n (lv' := [(2, .int (0 : Int32)), (0, .ref p0), (1, .int p1)]) hx hb dX3_countHeard_1 rfl hl (by decide) rfl (fun ls hl => ?_)
  refine lv_iconst (v := (0 : Int32)) hx hb dX3_countHeard_2 (by decide) ?_
  refine lv_istore_n (lv' := [(3, .int (0 : Int32)), (2, .int (0 : Int32)), (0, .ref p0), (1, .int p1)]) hx hb dX3_countHeard_3 rfl hl (by decide) rfl (fun ls hl => ?_)
  obtain ⟨n, h⟩ := h
  exact l_X3_countHeard_4 C hr hlk n p0 p1 (0 : Int32) (0 : Int32) u _ _ _ h (lv_sub hl [2, 3, 1, 0] rfl) hP
-- X3_rowIs
abbrev rm_X3_rowIs : Room := { frames := 1, cells := 0, slots := 0, locals := 21 }
theorem hd_X3_rowIs : yX3_rowIs.cls ≠ "java/lang/invoke/MethodHandle" ∧ yX3_rowIs.cls ≠ "java/lang/invoke/VarHandle" ∧ (parseMethodDescriptor yX3_rowIs.desc).map (fun d => d.parameters.length) = some 2 := by decide +kernel
def V_X3_rowIs_2_B (G : Gx) (Q : Int32 → Mm → Prop) (k_2 : Nat → Nat → Int32 → Int32 → Mm → Prop) (x0 : Nat) (x1 : Nat) (x2 : Int32) (x3 : Int32) (u : Mm) : Prop :=
  kd G x0 = 3 ∧ (((gI u x0 5) ≤ x3 → Q (1 : Int32) u) ∧ (¬ (gI u x0 5) ≤ x3 → kd G x1 = 13 ∧ (((nI (ln G x1)) ≤ x3 → Q (1 : Int32) u) ∧ (¬ (nI (ln G x1)) ≤ x3 → (gR u x0 6) ≠ 0 ∧ kd G (gR u x0 6) = 13 ∧ vp_in x3 (ln G (gR u x0 6)) ∧ V_X11_byAir G (gI u (gR u x0 6) x3.toNatClampNeg) x2 u (fun (v_23 : Int32) (u_23 : Mm) => vp_in x3 (ln G x1) ∧ ((v_23 = (gI u_23 x1 x3.toNatClampNeg) → ∀ x3_34 : Int32, x3_34 = x3 + (1 : Int32) → k_2 x0 x1 x2 x3_34 u_23) ∧ (¬ v_23 = (gI u_23 x1 x3.toNatClampNeg) → Q (0 : Int32) u_23)))))))
def V_X3_rowIs_2 (G : Gx) (Q : Int32 → Mm → Prop) : Nat → (Nat → Nat → Int32 → Int32 → Mm → Prop)
  | 0 => fun _ _ _ _ _ => False
  | n + 1 => fun x0 x1 x2 x3 u => V_X3_rowIs_2_B G Q (V_X3_rowIs_2 G Q n) x0 x1 x2 x3 u
def V_X3_rowIs (G : Gx) (p0 : Nat) (p1 : Nat) (p2 : Int32) (u : Mm) (Q : Int32 → Mm → Prop) : Prop :=
  ∃ n : Nat, V_X3_rowIs_2 G Q n p0 p1 p2 (0 : Int32) u
set_option maxHeartbeats 4000000 in
set_option maxRecDepth 100000 in
theorem b_X3_rowIs_2 {G : Gx} {Q : Int32 → Mm → Prop} {p : Program} {l : Launch} {e : Env} {s : State} {m : MethodId} {args : Array Value} {below : List Frame} {meth : Method} {c : Code} (C : Cx G p s m c cX3_rowIs RX3 4) (hr : meth.sig.returnType = (some .boolean)) (hlk : meth.locks = false) {k_2 : Nat → Nat → Int32 → Int32 → Mm → Prop} (hk_2 : ∀ (x0 : Nat) (x1 : Nat) (x2 : Int32) (x3 : Int32) (u : Mm) (H : Heap) (locs : List Loc) (ls : Array Slot), k_2 x0 x1 x2 x3 u → lv_has ls 4 [(0, .ref x0), (1, .ref x1), (2, .int x2), (3, .int x3)] → Hp G u s H locs → W p l e rm_X3_rowIs s m args below meth c H locs 0 0 (MQ below (Ei G Q) args s 0 0 (ag G)) (F0 m 2 ls [])) {x0 : Nat} {x1 : Nat} {x2 : Int32} {x3 : Int32} {u : Mm} {H : Heap} {locs : List Loc} {ls : Array Slot} (h : V_X3_rowIs_2_B G Q k_2 x0 x1 x2 x3 u) (hl : lv_has ls 4 [(0, .ref x0), (1, .ref x1), (2, .int x2), (3, .int x3)]) (hP : Hp G u s H locs) : W p l e rm_X3_rowIs s m args below meth c H locs 0 0 (MQ below (Ei G Q) args s 0 0 (ag G)) (F0 m 2 ls []) := by
  have hx := C.1
  have hb := C.2.1
  unfold V_X3_rowIs_2_B at h
  refine lv_iload_n hx hb dX3_rowIs_2 rfl (lv_at hl 3 rfl) ?_
  refine lv_aload_n hx hb dX3_rowIs_3 rfl (lv_at hl 0 rfl) ?_
  obtain ⟨g1, h⟩ := h
  refine q_getI C hP (k := 5) (lay_X3 C.hA) rfl (by decide) g1 (fl_X3_87 C.hA) dX3_rowIs_4 ?_
  refine lv_icmp_ge (tgt := 40) hx hb dX3_rowIs_7 (by decide) (fun c7 => ?_) (fun c7 => ?_)
  · have h := h.1 c7
    refine lv_iconst (v := (1 : Int32)) hx hb dX3_rowIs_40 (by decide) ?_
    exact q_zret C hr hlk hP (by decide) h (by decide) (by decide) dX3_rowIs_41
  · have h := h.2 c7
    refine lv_iload_n hx hb dX3_rowIs_10 rfl (lv_at hl 3 rfl) ?_
    refine lv_aload_n hx hb dX3_rowIs_11 rfl (lv_at hl 1 rfl) ?_
    obtain ⟨g2, h⟩ := h
    refine q_alen C hP g2 (by decide) dX3_rowIs_12 ?_
    refine lv_icmp_ge (tgt := 40) hx hb dX3_rowIs_13 (by decide) (fun c13 => ?_) (fun c13 => ?_)
    · have h := h.1 c13
      refine lv_iconst (v := (1 : Int32)) hx hb dX3_rowIs_40 (by decide) ?_
      exact q_zret C hr hlk hP (by decide) h (by decide) (by decide) dX3_rowIs_41
    · have h := h.2 c13
      refine lv_aload_n hx hb dX3_rowIs_16 rfl (lv_at hl 0 rfl) ?_
      obtain ⟨g3, h⟩ := h
      refine q_getR C hP (k := 6) (lay_X3 C.hA) rfl (by decide) g1 g3 (fl_X3_26 C.hA) dX3_rowIs_17 ?_
      refine lv_iload_n hx hb dX3_rowIs_20 rfl (lv_at hl 3 rfl) ?_
      obtain ⟨g4, h⟩ := h
      obtain ⟨g5, h⟩ := h
      refine q_iald C hP g4 g5 dX3_rowIs_21 ?_
      refine lv_iload_n hx hb dX3_rowIs_22 rfl (lv_at hl 2 rfl) ?_
      refine q_cali (q_runSN C hP (c_X11_byAir h) (cd_X11_byAir C.hA) (ini_X11 C.hA) (mn_X3_97 C.hA) (st_X11_byAir C.hA) hd_X11_byAir ⟨rfl, rfl⟩ ⟨Nat.le_of_ble_eq_true rfl, Nat.le_of_ble_eq_true rfl⟩ ⟨Nat.le_of_ble_eq_true rfl, Nat.le_of_ble_eq_true rfl⟩ hl.1 rfl (Nat.le_of_ble_eq_true rfl) dX3_rowIs_23) hP (fun v_23 u_23 H locs h hP => ?_)
      refine lv_aload_n hx hb dX3_rowIs_26 rfl (lv_at hl 1 rfl) ?_
      refine lv_iload_n hx hb dX3_rowIs_27 rfl (lv_at hl 3 rfl) ?_
      obtain ⟨g6, h⟩ := h
      refine q_iald C hP g2 g6 dX3_rowIs_28 ?_
      refine lv_icmp_eq (tgt := 34) hx hb dX3_rowIs_29 (by decide) (fun c29 => ?_) (fun c29 => ?_)
      · have h := h.1 c29
        obtain ⟨x3_34, ex3_34⟩ : ∃ y : Int32, y = x3 + (1 : Int32) := ⟨_, rfl⟩
        have h := h x3_34 ex3_34
        refine lv_iinc (v := x3_34) (lv' := [(3, .int x3_34), (0, .ref x0), (1, .ref x1), (2, .int x2)]) hx hb dX3_rowIs_34 hl (k := 3) rfl (by rw [ex3_34]; rfl) (by decide) rfl (fun ls hl => ?_)
        refine lv_goto (tgt := 2) hx hb dX3_rowIs_37 (by decide) ?_
        exact hk_2 x0 x1 x2 x3_34 u_23 _ _ _ h (lv_sub hl [1, 2, 3, 0] rfl) hP
      · have h := h.2 c29
        refine lv_iconst (v := (0 : Int32)) hx hb dX3_rowIs_32 (by decide) ?_
        exact q_zret C hr hlk hP (by decide) h (by decide) (by decide) dX3_rowIs_33
theorem l_X3_rowIs_2 {G : Gx} {Q : Int32 → Mm → Prop} {p : Program} {l : Launch} {e : Env} {s : State} {m : MethodId} {args : Array Value} {below : List Frame} {meth : Method} {c : Code} (C : Cx G p s m c cX3_rowIs RX3 4) (hr : meth.sig.returnType = (some .boolean)) (hlk : meth.locks = false) : ∀ (n : Nat) (x0 : Nat) (x1 : Nat) (x2 : Int32) (x3 : Int32) (u : Mm) (H : Heap) (locs : List Loc) (ls : Array Slot), V_X3_rowIs_2 G Q n x0 x1 x2 x3 u → lv_has ls 4 [(0, .ref x0), (1, .ref x1), (2, .int x2), (3, .int x3)] → Hp G u s H locs → W p l e rm_X3_rowIs s m args below meth c H locs 0 0 (MQ below (Ei G Q) args s 0 0 (ag G)) (F0 m 2 ls []) := by
  intro n
  induction n with
  | zero => intro x0 x1 x2 x3 u H locs ls h; exact h.elim
  | succ n ih => intro x0 x1 x2 x3 u H locs ls h hl hP; exact b_X3_rowIs_2 C hr hlk ih h hl hP
set_option maxHeartbeats 4000000 in
set_option maxRecDepth 100000 in
theorem c_X3_rowIs {l : Launch} {G : Gx} {p0 : Nat} {p1 : Nat} {p2 : Int32} {u : Mm} {Q : Int32 → Mm → Prop} (h : V_X3_rowIs G p0 p1 p2 u Q) : Met l yX3_rowIs [.code yX3_rowIs cX3_rowIs 4 (some .boolean)] rm_X3_rowIs (va_Pc [.ref p0, .ref p1, .int p2] (Wd G u)) (Ei G Q) 0 0 (ag G) := by
  refine q_met (by decide) (Nat.le_of_ble_eq_true rfl) ?_
  intro p e s m below meth c ls C hr hlk hnm hl hP
  have hl : lv_has ls 4 [(0, .ref p0), (1, .ref p1), (2, .int p2)] := hl
  generalize ([.ref p0, .ref p1, .int p2] : List Value).toArray = args
  have hx := C.1
  have hb := C.2.1
  unfold V_X3_rowIs at h
  refine lv_iconst (v := (0 : Int32)) hx hb dX3_rowIs_0 (by decide) ?_
  refine lv_istore_n (lv' := [(3, .int (0 : Int32)), (0, .ref p0), (1, .ref p1), (2, .int p2)]) hx hb dX3_rowIs_1 rfl hl (by decide) rfl (fun ls hl => ?_)
  obtain ⟨n, h⟩ := h
  exact l_X3_rowIs_2 C hr hlk n p0 p1 p2 (0 : Int32) u _ _ _ h (lv_sub hl [1, 2, 3, 0] rfl) hP
-- X3_fit
abbrev rm_X3_fit : Room := { frames := 2, cells := 0, slots := 0, locals := 46 }
theorem hd_X3_fit : yX3_fit.cls ≠ "java/lang/invoke/MethodHandle" ∧ yX3_fit.cls ≠ "java/lang/invoke/VarHandle" ∧ (parseMethodDescriptor yX3_fit.desc).map (fun d => d.parameters.length) = some 2 := by decide +kernel
def V_X3_fit (G : Gx) (p0 : Nat) (p1 : Nat) (p2 : Nat) (u : Mm) (Q : Int32 → Mm → Prop) : Prop :=
  kd G p2 = 4 ∧ kd G p0 = 3 ∧ V_X3_countHeard G p0 (gI u p2 6) u (fun (v_5 : Int32) (u_5 : Mm) => kd G p1 = 7 ∧ ((v_5 = (gI u_5 p1 4) → V_X3_orderHeard G p0 (gI u_5 p2 6) u_5 (fun (v_22 : Int32) (u_22 : Mm) => (gR u_22 p1 6) ≠ 0 ∧ V_X3_rowIs G p0 (gR u_22 p1 6) (gI u_22 p2 7) u_22 (fun (v_35 : Int32) (u_35 : Mm) => (v_35 = 0 ∨ v_35 = 1) ∧ Q v_35 u_35))) ∧ (¬ v_5 = (gI u_5 p1 4) → Q (0 : Int32) u_5)))
set_option maxHeartbeats 4000000 in
set_option maxRecDepth 100000 in
theorem c_X3_fit {l : Launch} {G : Gx} {p0 : Nat} {p1 : Nat} {p2 : Nat} {u : Mm} {Q : Int32 → Mm → Prop} (h : V_X3_fit G p0 p1 p2 u Q) : Met l yX3_fit [.code yX3_fit cX3_fit 3 (some .boolean)] rm_X3_fit (va_Pc [.ref p0, .ref p1, .ref p2] (Wd G u)) (Ei G Q) 0 0 (ag G) := by
  refine q_met (by decide) (Nat.le_of_ble_eq_true rfl) ?_
  intro p e s m below meth c ls C hr hlk hnm hl hP
  have hl : lv_has ls 3 [(0, .ref p0), (1, .ref p1), (2, .ref p2)] := hl
  generalize ([.ref p0, .ref p1, .ref p2] : List Value).toArray = args
  have hx := C.1
  have hb := C.2.1
  unfold V_X3_fit at h
  refine lv_aload_n hx hb dX3_fit_0 rfl (lv_at hl 0 rfl) ?_
  refine lv_aload_n hx hb dX3_fit_1 rfl (lv_at hl 2 rfl) ?_
  obtain ⟨g1, h⟩ := h
  refine q_getIN C hP (k := 6) (lay_X4 C.hA) rfl (by decide) g1 (fn_X3_100 C.hA) dX3_fit_2 ?_
  obtain ⟨g2, h⟩ := h
  refine q_cali (q_runV C hP (c_X3_countHeard h) (cd_X3_countHeard C.hA) (ini_X3 C.hA) (ml_X3_103 C.hA) (im_X3_countHeard C.hA) (sl_X3_countHeard C.hA) g2 (by decide) rfl hd_X3_countHeard ⟨rfl, rfl⟩ ⟨Nat.le_of_ble_eq_true rfl, Nat.le_of_ble_eq_true rfl⟩ ⟨Nat.le_of_ble_eq_true rfl, Nat.le_of_ble_eq_true rfl⟩ hl.1 rfl (Nat.le_of_ble_eq_true rfl) dX3_fit_5) hP (fun v_5 u_5 H locs h hP => ?_)
  refine lv_aload_n hx hb dX3_fit_8 rfl (lv_at hl 1 rfl) ?_
  obtain ⟨g3, h⟩ := h
  refine q_getIN C hP (k := 4) (lay_X7 C.hA) rfl (by decide) g3 (fn_X3_106 C.hA) dX3_fit_9 ?_
  refine lv_icmp_eq (tgt := 17) hx hb dX3_fit_12 (by decide) (fun c12 => ?_) (fun c12 => ?_)
  · have h := h.1 c12
    refine lv_aload_n hx hb dX3_fit_17 rfl (lv_at hl 0 rfl) ?_
    refine lv_aload_n hx hb dX3_fit_18 rfl (lv_at hl 2 rfl) ?_
    refine q_getIN C hP (k := 6) (lay_X4 C.hA) rfl (by decide) g1 (fn_X3_100 C.hA) dX3_fit_19 ?_
    refine q_cali (q_runV C hP (c_X3_orderHeard h) (cd_X3_orderHeard C.hA) (ini_X3 C.hA) (ml_X3_111 C.hA) (im_X3_orderHeard C.hA) (sl_X3_orderHeard C.hA) g2 (by decide) rfl hd_X3_orderHeard ⟨rfl, rfl⟩ ⟨Nat.le_of_ble_eq_true rfl, Nat.le_of_ble_eq_true rfl⟩ ⟨Nat.le_of_ble_eq_true rfl, Nat.le_of_ble_eq_true rfl⟩ hl.1 rfl (Nat.le_of_ble_eq_true rfl) dX3_fit_22) hP (fun v_22 u_22 H locs h hP => ?_)
    refine lv_pop hx hb dX3_fit_25 rfl ?_
    refine lv_aload_n hx hb dX3_fit_26 rfl (lv_at hl 0 rfl) ?_
    refine lv_aload_n hx hb dX3_fit_27 rfl (lv_at hl 1 rfl) ?_
    obtain ⟨g4, h⟩ := h
    refine q_getRN C hP (k := 6) (lay_X7 C.hA) rfl (by decide) g3 g4 (fn_X3_114 C.hA) dX3_fit_28 ?_
    refine lv_aload_n hx hb dX3_fit_31 rfl (lv_at hl 2 rfl) ?_
    refine q_getIN C hP (k := 7) (lay_X4 C.hA) rfl (by decide) g1 (fn_X3_117 C.hA) dX3_fit_32 ?_
    refine q_cali (q_runV C hP (c_X3_rowIs h) (cd_X3_rowIs C.hA) (ini_X3 C.hA) (ml_X3_120 C.hA) (im_X3_rowIs C.hA) (sl_X3_rowIs C.hA) g2 (by decide) rfl hd_X3_rowIs ⟨rfl, rfl⟩ ⟨Nat.le_of_ble_eq_true rfl, Nat.le_of_ble_eq_true rfl⟩ ⟨Nat.le_of_ble_eq_true rfl, Nat.le_of_ble_eq_true rfl⟩ hl.1 rfl (Nat.le_of_ble_eq_true rfl) dX3_fit_35) hP (fun v_35 u_35 H locs h hP => ?_)
    obtain ⟨g5, h⟩ := h
    exact q_zret C hr hlk hP g5 h (by decide) (by decide) dX3_fit_38
  · have h := h.2 c12
    refine lv_iconst (v := (0 : Int32)) hx hb dX3_fit_15 (by decide) ?_
    exact q_zret C hr hlk hP (by decide) h (by decide) (by decide) dX3_fit_16
-- X3_comesAt
abbrev rm_X3_comesAt : Room := { frames := 1, cells := 0, slots := 0, locals := 24 }
theorem hd_X3_comesAt : yX3_comesAt.cls ≠ "java/lang/invoke/MethodHandle" ∧ yX3_comesAt.cls ≠ "java/lang/invoke/VarHandle" ∧ (parseMethodDescriptor yX3_comesAt.desc).map (fun d => d.parameters.length) = some 3 := by decide +kernel
def V_X3_comesAt (G : Gx) (p0 : Nat) (p1 : Int32) (p2 : Int32) (p3 : Nat) (u : Mm) (Q : Int32 → Mm → Prop) : Prop :=
  kd G p0 = 3 ∧ (gR u p0 3) ≠ 0 ∧ kd G (gR u p0 3) = 13 ∧ vp_in p1 (ln G (gR u p0 3)) ∧ kd G p3 = 4 ∧ (((gI u (gR u p0 3) p1.toNatClampNeg) < (gI u p3 6) → Q (0 : Int32) u) ∧ (¬ (gI u (gR u p0 3) p1.toNatClampNeg) < (gI u p3 6) → (gR u p0 2) ≠ 0 ∧ kd G (gR u p0 2) = 13 ∧ vp_in p1 (ln G (gR u p0 2)) ∧ V_X11_wayRoot G (gI u (gR u p0 2) p1.toNatClampNeg) u (fun (v_19 : Int32) (u_19 : Mm) => V_X11_byAir G v_19 (gI u_19 p3 7) u_19 (fun (v_26 : Int32) (u_26 : Mm) => ((v_26 = p2 → Q (1 : Int32) u_26) ∧ (¬ v_26 = p2 → Q (0 : Int32) u_26))))))
set_option maxHeartbeats 4000000 in
set_option maxRecDepth 100000 in
theorem c_X3_comesAt {l : Launch} {G : Gx} {p0 : Nat} {p1 : Int32} {p2 : Int32} {p3 : Nat} {u : Mm} {Q : Int32 → Mm → Prop} (h : V_X3_comesAt G p0 p1 p2 p3 u Q) : Met l yX3_comesAt [.code yX3_comesAt cX3_comesAt 4 (some .boolean)] rm_X3_comesAt (va_Pc [.ref p0, .int p1, .int p2, .ref p3] (Wd G u)) (Ei G Q) 0 0 (ag G) := by
  refine q_met (by decide) (Nat.le_of_ble_eq_true rfl) ?_
  intro p e s m below meth c ls C hr hlk hnm hl hP
  have hl : lv_has ls 4 [(0, .ref p0), (1, .int p1), (2, .int p2), (3, .ref p3)] := hl
  generalize ([.ref p0, .int p1, .int p2, .ref p3] : List Value).toArray = args
  have hx := C.1
  have hb := C.2.1
  unfold V_X3_comesAt at h
  refine lv_aload_n hx hb dX3_comesAt_0 rfl (lv_at hl 0 rfl) ?_
  obtain ⟨g1, h⟩ := h
  obtain ⟨g2, h⟩ := h
  refine q_getR C hP (k := 3) (lay_X3 C.hA) rfl (by decide) g1 g2 (fl_X3_18 C.hA) dX3_comesAt_1 ?_
  refine lv_iload_n hx hb dX3_comesAt_4 rfl (lv_at hl 1 rfl) ?_
  obtain ⟨g3, h⟩ := h
  obtain ⟨g4, h⟩ := h
  refine q_iald C hP g3 g4 dX3_comesAt_5 ?_
  refine lv_aload_n hx hb dX3_comesAt_6 rfl (lv_at hl 3 rfl) ?_
  obtain ⟨g5, h⟩ := h
  refine q_getIN C hP (k := 6) (lay_X4 C.hA) rfl (by decide) g5 (fn_X3_100 C.hA) dX3_comesAt_7 ?_
  refine lv_icmp_lt (tgt := 37) hx hb dX3_comesAt_10 (by decide) (fun c10 => ?_) (fun c10 => ?_)
  · have h := h.1 c10
    refine lv_iconst (v := (0 : Int32)) hx hb dX3_comesAt_37 (by decide) ?_
    exact q_zret C hr hlk hP (by decide) h (by decide) (by decide) dX3_comesAt_38
  · have h := h.2 c10
    refine lv_aload_n hx hb dX3_comesAt_13 rfl (lv_at hl 0 rfl) ?_
    obtain ⟨g6, h⟩ := h
    refine q_getR C hP (k := 2) (lay_X3 C.hA) rfl (by decide) g1 g6 (fl_X3_15 C.hA) dX3_comesAt_14 ?_
    refine lv_iload_n hx hb dX3_comesAt_17 rfl (lv_at hl 1 rfl) ?_
    obtain ⟨g7, h⟩ := h
    obtain ⟨g8, h⟩ := h
    refine q_iald C hP g7 g8 dX3_comesAt_18 ?_
    refine q_cali (q_runSN C hP (c_X11_wayRoot h) (cd_X11_wayRoot C.hA) (ini_X11 C.hA) (mn_X3_90 C.hA) (st_X11_wayRoot C.hA) hd_X11_wayRoot ⟨rfl, rfl⟩ ⟨Nat.le_of_ble_eq_true rfl, Nat.le_of_ble_eq_true rfl⟩ ⟨Nat.le_of_ble_eq_true rfl, Nat.le_of_ble_eq_true rfl⟩ hl.1 rfl (Nat.le_of_ble_eq_true rfl) dX3_comesAt_19) hP (fun v_19 u_19 H locs h hP => ?_)
    refine lv_aload_n hx hb dX3_comesAt_22 rfl (lv_at hl 3 rfl) ?_
    refine q_getIN C hP (k := 7) (lay_X4 C.hA) rfl (by decide) g5 (fn_X3_117 C.hA) dX3_comesAt_23 ?_
    refine q_cali (q_runSN C hP (c_X11_byAir h) (cd_X11_byAir C.hA) (ini_X11 C.hA) (mn_X3_97 C.hA) (st_X11_byAir C.hA) hd_X11_byAir ⟨rfl, rfl⟩ ⟨Nat.le_of_ble_eq_true rfl, Nat.le_of_ble_eq_true rfl⟩ ⟨Nat.le_of_ble_eq_true rfl, Nat.le_of_ble_eq_true rfl⟩ hl.1 rfl (Nat.le_of_ble_eq_true rfl) dX3_comesAt_26) hP (fun v_26 u_26 H locs h hP => ?_)
    refine lv_iload_n hx hb dX3_comesAt_29 rfl (lv_at hl 2 rfl) ?_
    refine lv_icmp_ne (tgt := 37) hx hb dX3_comesAt_30 (by decide) (fun c30 => ?_) (fun c30 => ?_)
    · have h := h.2 c30
      refine lv_iconst (v := (0 : Int32)) hx hb dX3_comesAt_37 (by decide) ?_
      exact q_zret C hr hlk hP (by decide) h (by decide) (by decide) dX3_comesAt_38
    · have h := h.1 c30
      refine lv_iconst (v := (1 : Int32)) hx hb dX3_comesAt_33 (by decide) ?_
      refine lv_goto (tgt := 38) hx hb dX3_comesAt_34 (by decide) ?_
      exact q_zret C hr hlk hP (by decide) h (by decide) (by decide) dX3_comesAt_38
-- X3_howManyAt
abbrev rm_X3_howManyAt : Room := { frames := 2, cells := 0, slots := 0, locals := 47 }
theorem hd_X3_howManyAt : yX3_howManyAt.cls ≠ "java/lang/invoke/MethodHandle" ∧ yX3_howManyAt.cls ≠ "java/lang/invoke/VarHandle" ∧ (parseMethodDescriptor yX3_howManyAt.desc).map (fun d => d.parameters.length) = some 2 := by decide +kernel
def V_X3_howManyAt_28 (G : Gx) (Q : Int32 → Mm → Prop) (k_5 : Nat → Int32 → Nat → Int32 → Int32 → Mm → Prop) (x0 : Nat) (x1 : Int32) (x2 : Nat) (x3 : Int32) (x4 : Int32) (u : Mm) : Prop :=
  ∀ x4_28 : Int32, x4_28 = x4 + (1 : Int32) → k_5 x0 x1 x2 x3 x4_28 u
def V_X3_howManyAt_5_B (G : Gx) (Q : Int32 → Mm → Prop) (k_5 : Nat → Int32 → Nat → Int32 → Int32 → Mm → Prop) (x0 : Nat) (x1 : Int32) (x2 : Nat) (x3 : Int32) (x4 : Int32) (u : Mm) : Prop :=
  kd G x0 = 3 ∧ (((gI u x0 0) ≤ x4 → Q x3 u) ∧ (¬ (gI u x0 0) ≤ x4 → V_X3_comesAt G x0 x4 x1 x2 u (fun (v_19 : Int32) (u_19 : Mm) => ((v_19 = 0 → V_X3_howManyAt_28 G Q k_5 x0 x1 x2 x3 x4 u_19) ∧ (¬ v_19 = 0 → ∀ x3_25 : Int32, x3_25 = x3 + (1 : Int32) → V_X3_howManyAt_28 G Q k_5 x0 x1 x2 x3_25 x4 u_19)))))
def V_X3_howManyAt_5 (G : Gx) (Q : Int32 → Mm → Prop) : Nat → (Nat → Int32 → Nat → Int32 → Int32 → Mm → Prop)
  | 0 => fun _ _ _ _ _ _ => False
  | n + 1 => fun x0 x1 x2 x3 x4 u => V_X3_howManyAt_5_B G Q (V_X3_howManyAt_5 G Q n) x0 x1 x2 x3 x4 u
def V_X3_howManyAt (G : Gx) (p0 : Nat) (p1 : Int32) (p2 : Nat) (u : Mm) (Q : Int32 → Mm → Prop) : Prop :=
  ∃ n : Nat, V_X3_howManyAt_5 G Q n p0 p1 p2 (0 : Int32) (0 : Int32) u
set_option maxHeartbeats 4000000 in
set_option maxRecDepth 100000 in
theorem b_X3_howManyAt_28 {G : Gx} {Q : Int32 → Mm → Prop} {p : Program} {l : Launch} {e : Env} {s : State} {m : MethodId} {args : Array Value} {below : List Frame} {meth : Method} {c : Code} (C : Cx G p s m c cX3_howManyAt RX3 5) (hr : meth.sig.returnType = (some .int)) (hlk : meth.locks = false) {k_5 : Nat → Int32 → Nat → Int32 → Int32 → Mm → Prop} (hk_5 : ∀ (x0 : Nat) (x1 : Int32) (x2 : Nat) (x3 : Int32) (x4 : Int32) (u : Mm) (H : Heap) (locs : List Loc) (ls : Array Slot), k_5 x0 x1 x2 x3 x4 u → lv_has ls 5 [(0, .ref x0), (1, .int x1), (2, .ref x2), (3, .int x3), (4, .int x4)] → Hp G u s H locs → W p l e rm_X3_howManyAt s m args below meth c H locs 0 0 (MQ below (Ei G Q) args s 0 0 (ag G)) (F0 m 5 ls [])) {x0 : Nat} {x1 : Int32} {x2 : Nat} {x3 : Int32} {x4 : Int32} {u : Mm} {H : Heap} {locs : List Loc} {ls : Array Slot} (h : V_X3_howManyAt_28 G Q k_5 x0 x1 x2 x3 x4 u) (hl : lv_has ls 5 [(0, .ref x0), (1, .int x1), (2, .ref x2), (3, .int x3), (4, .int x4)]) (hP : Hp G u s H locs) : W p l e rm_X3_howManyAt s m args below meth c H locs 0 0 (MQ below (Ei G Q) args s 0 0 (ag G)) (F0 m 28 ls []) := by
  have hx := C.1
  have hb := C.2.1
  unfold V_X3_howManyAt_28 at h
  obtain ⟨x4_28, ex4_28⟩ : ∃ y : Int32, y = x4 + (1 : Int32) := ⟨_, rfl⟩
  have h := h x4_28 ex4_28
  refine lv_iinc (v := x4_28) (lv' := [(4, .int x4_28), (0, .ref x0), (1, .int x1), (2, .ref x2), (3, .int x3)]) hx hb dX3_howManyAt_28 hl (k := 4) rfl (by rw [ex4_28]; rfl) (by decide) rfl (fun ls hl => ?_)
  refine lv_goto (tgt := 5) hx hb dX3_howManyAt_31 (by decide) ?_
  exact hk_5 x0 x1 x2 x3 x4_28 u _ _ _ h (lv_sub hl [1, 2, 3, 4, 0] rfl) hP
set_option maxHeartbeats 4000000 in
set_option maxRecDepth 100000 in
theorem b_X3_howManyAt_5 {G : Gx} {Q : Int32 → Mm → Prop} {p : Program} {l : Launch} {e : Env} {s : State} {m : MethodId} {args : Array Value} {below : List Frame} {meth : Method} {c : Code} (C : Cx G p s m c cX3_howManyAt RX3 5) (hr : meth.sig.returnType = (some .int)) (hlk : meth.locks = false) {k_5 : Nat → Int32 → Nat → Int32 → Int32 → Mm → Prop} (hk_5 : ∀ (x0 : Nat) (x1 : Int32) (x2 : Nat) (x3 : Int32) (x4 : Int32) (u : Mm) (H : Heap) (locs : List Loc) (ls : Array Slot), k_5 x0 x1 x2 x3 x4 u → lv_has ls 5 [(0, .ref x0), (1, .int x1), (2, .ref x2), (3, .int x3), (4, .int x4)] → Hp G u s H locs → W p l e rm_X3_howManyAt s m args below meth c H locs 0 0 (MQ below (Ei G Q) args s 0 0 (ag G)) (F0 m 5 ls [])) {x0 : Nat} {x1 : Int32} {x2 : Nat} {x3 : Int32} {x4 : Int32} {u : Mm} {H : Heap} {locs : List Loc} {ls : Array Slot} (h : V_X3_howManyAt_5_B G Q k_5 x0 x1 x2 x3 x4 u) (hl : lv_has ls 5 [(0, .ref x0), (1, .int x1), (2, .ref x2), (3, .int x3), (4, .int x4)]) (hP : Hp G u s H locs) : W p l e rm_X3_howManyAt s m args below meth c H locs 0 0 (MQ below (Ei G Q) args s 0 0 (ag G)) (F0 m 5 ls []) := by
  have hx := C.1
  have hb := C.2.1
  unfold V_X3_howManyAt_5_B at h
  refine lv_iload hx hb dX3_howManyAt_5 (lv_at hl 4 rfl) ?_
  refine lv_aload_n hx hb dX3_howManyAt_7 rfl (lv_at hl 0 rfl) ?_
  obtain ⟨g1, h⟩ := h
  refine q_getI C hP (k := 0) (lay_X3 C.hA) rfl (by decide) g1 (fl_X3_29 C.hA) dX3_howManyAt_8 ?_
  refine lv_icmp_ge (tgt := 34) hx hb dX3_howManyAt_11 (by decide) (fun c11 => ?_) (fun c11 => ?_)
  · have h := h.1 c11
    refine lv_iload_n hx hb dX3_howManyAt_34 rfl (lv_at hl 3 rfl) ?_
    exact q_iret C hr hlk hP h (by decide) (by decide) dX3_howManyAt_35
  · have h := h.2 c11
    refine lv_aload_n hx hb dX3_howManyAt_14 rfl (lv_at hl 0 rfl) ?_
    refine lv_iload hx hb dX3_howManyAt_15 (lv_at hl 4 rfl) ?_
    refine lv_iload_n hx hb dX3_howManyAt_17 rfl (lv_at hl 1 rfl) ?_
    refine lv_aload_n hx hb dX3_howManyAt_18 rfl (lv_at hl 2 rfl) ?_
    refine q_cali (q_runV C hP (c_X3_comesAt h) (cd_X3_comesAt C.hA) (ini_X3 C.hA) (ml_X3_124 C.hA) (im_X3_comesAt C.hA) (sl_X3_comesAt C.hA) g1 (by decide) rfl hd_X3_comesAt ⟨rfl, rfl⟩ ⟨Nat.le_of_ble_eq_true rfl, Nat.le_of_ble_eq_true rfl⟩ ⟨Nat.le_of_ble_eq_true rfl, Nat.le_of_ble_eq_true rfl⟩ hl.1 rfl (Nat.le_of_ble_eq_true rfl) dX3_howManyAt_19) hP (fun v_19 u_19 H locs h hP => ?_)
    refine lv_if_eq (tgt := 28) hx hb dX3_howManyAt_22 (by decide) (fun c22 => ?_) (fun c22 => ?_)
    · have h := h.1 c22
      exact b_X3_howManyAt_28 C hr hlk hk_5 h (lv_sub hl [0, 1, 2, 3, 4] rfl) hP
    · have h := h.2 c22
      obtain ⟨x3_25, ex3_25⟩ : ∃ y : Int32, y = x3 + (1 : Int32) := ⟨_, rfl⟩
      have h := h x3_25 ex3_25
      refine lv_iinc (v := x3_25) (lv' := [(3, .int x3_25), (0, .ref x0), (1, .int x1), (2, .ref x2), (4, .int x4)]) hx hb dX3_howManyAt_25 hl (k := 3) rfl (by rw [ex3_25]; rfl) (by decide) rfl (fun ls hl => ?_)
      exact b_X3_howManyAt_28 C hr hlk hk_5 h (lv_sub hl [1, 2, 3, 0, 4] rfl) hP
theorem l_X3_howManyAt_5 {G : Gx} {Q : Int32 → Mm → Prop} {p : Program} {l : Launch} {e : Env} {s : State} {m : MethodId} {args : Array Value} {below : List Frame} {meth : Method} {c : Code} (C : Cx G p s m c cX3_howManyAt RX3 5) (hr : meth.sig.returnType = (some .int)) (hlk : meth.locks = false) : ∀ (n : Nat) (x0 : Nat) (x1 : Int32) (x2 : Nat) (x3 : Int32) (x4 : Int32) (u : Mm) (H : Heap) (locs : List Loc) (ls : Array Slot), V_X3_howManyAt_5 G Q n x0 x1 x2 x3 x4 u → lv_has ls 5 [(0, .ref x0), (1, .int x1), (2, .ref x2), (3, .int x3), (4, .int x4)] → Hp G u s H locs → W p l e rm_X3_howManyAt s m args below meth c H locs 0 0 (MQ below (Ei G Q) args s 0 0 (ag G)) (F0 m 5 ls []) := by
  intro n
  induction n with
  | zero => intro x0 x1 x2 x3 x4 u H locs ls h; exact h.elim
  | succ n ih => intro x0 x1 x2 x3 x4 u H locs ls h hl hP; exact b_X3_howManyAt_5 C hr hlk ih h hl hP
set_option maxHeartbeats 4000000 in
set_option maxRecDepth 100000 in
theorem c_X3_howManyAt {l : Launch} {G : Gx} {p0 : Nat} {p1 : Int32} {p2 : Nat} {u : Mm} {Q : Int32 → Mm → Prop} (h : V_X3_howManyAt G p0 p1 p2 u Q) : Met l yX3_howManyAt [.code yX3_howManyAt cX3_howManyAt 5 (some .int)] rm_X3_howManyAt (va_Pc [.ref p0, .int p1, .ref p2] (Wd G u)) (Ei G Q) 0 0 (ag G) := by
  refine q_met (by decide) (Nat.le_of_ble_eq_true rfl) ?_
  intro p e s m below meth c ls C hr hlk hnm hl hP
  have hl : lv_has ls 5 [(0, .ref p0), (1, .int p1), (2, .ref p2)] := hl
  generalize ([.ref p0, .int p1, .ref p2] : List Value).toArray = args
  have hx := C.1
  have hb := C.2.1
  unfold V_X3_howManyAt at h
  refine lv_iconst (v := (0 : Int32)) hx hb dX3_howManyAt_0 (by decide) ?_
  refine lv_istore_n (lv' := [(3, .int (0 : Int32)), (0, .ref p0), (1, .int p1), (2, .ref p2)]) hx hb dX3_howManyAt_1 rfl hl (by decide) rfl (fun ls hl => ?_)
  refine lv_iconst (v := (0 : Int32)) hx hb dX3_howManyAt_2 (by decide) ?_
  refine lv_istore (lv' := [(4, .int (0 : Int32)), (3, .int (0 : Int32)), (0, .ref p0), (1, .int p1), (2, .ref p2)]) hx hb dX3_howManyAt_3 hl (by decide) rfl (fun ls hl => ?_)
  obtain ⟨n, h⟩ := h
  exact l_X3_howManyAt_5 C hr hlk n p0 p1 p2 (0 : Int32) (0 : Int32) u _ _ _ h (lv_sub hl [2, 3, 4, 1, 0] rfl) hP
-- X3_leastAt
abbrev rm_X3_leastAt : Room := { frames := 2, cells := 0, slots := 0, locals := 47 }
theorem hd_X3_leastAt : yX3_leastAt.cls ≠ "java/lang/invoke/MethodHandle" ∧ yX3_leastAt.cls ≠ "java/lang/invoke/VarHandle" ∧ (parseMethodDescriptor yX3_leastAt.desc).map (fun d => d.parameters.length) = some 2 := by decide +kernel
def V_X3_leastAt_49 (G : Gx) (Q : Int32 → Mm → Prop) (k_5 : Nat → Int32 → Nat → Int32 → Int32 → Mm → Prop) (x0 : Nat) (x1 : Int32) (x2 : Nat) (x3 : Int32) (x4 : Int32) (u : Mm) : Prop :=
  ∀ x4_49 : Int32, x4_49 = x4 + (1 : Int32) → k_5 x0 x1 x2 x3 x4_49 u
def V_X3_leastAt_41 (G : Gx) (Q : Int32 → Mm → Prop) (k_5 : Nat → Int32 → Nat → Int32 → Int32 → Mm → Prop) (x0 : Nat) (x1 : Int32) (x2 : Nat) (x4 : Int32) (u : Mm) : Prop :=
  kd G x0 = 3 ∧ (gR u x0 1) ≠ 0 ∧ kd G (gR u x0 1) = 13 ∧ vp_in x4 (ln G (gR u x0 1)) ∧ ∀ x3_48 : Int32, x3_48 = (gI u (gR u x0 1) x4.toNatClampNeg) → V_X3_leastAt_49 G Q k_5 x0 x1 x2 x3_48 x4 u
def V_X3_leastAt_5_B (G : Gx) (Q : Int32 → Mm → Prop) (k_5 : Nat → Int32 → Nat → Int32 → Int32 → Mm → Prop) (x0 : Nat) (x1 : Int32) (x2 : Nat) (x3 : Int32) (x4 : Int32) (u : Mm) : Prop :=
  kd G x0 = 3 ∧ (((gI u x0 0) ≤ x4 → Q x3 u) ∧ (¬ (gI u x0 0) ≤ x4 → V_X3_comesAt G x0 x4 x1 x2 u (fun (v_19 : Int32) (u_19 : Mm) => ((v_19 = 0 → V_X3_leastAt_49 G Q k_5 x0 x1 x2 x3 x4 u_19) ∧ (¬ v_19 = 0 → ((x3 = (-1 : Int32) → V_X3_leastAt_41 G Q k_5 x0 x1 x2 x4 u_19) ∧ (¬ x3 = (-1 : Int32) → (gR u_19 x0 1) ≠ 0 ∧ kd G (gR u_19 x0 1) = 13 ∧ vp_in x4 (ln G (gR u_19 x0 1)) ∧ ((x3 ≤ (gI u_19 (gR u_19 x0 1) x4.toNatClampNeg) → V_X3_leastAt_49 G Q k_5 x0 x1 x2 x3 x4 u_19) ∧ (¬ x3 ≤ (gI u_19 (gR u_19 x0 1) x4.toNatClampNeg) → V_X3_leastAt_41 G Q k_5 x0 x1 x2 x4 u_19)))))))))
def V_X3_leastAt_5 (G : Gx) (Q : Int32 → Mm → Prop) : Nat → (Nat → Int32 → Nat → Int32 → Int32 → Mm → Prop)
  | 0 => fun _ _ _ _ _ _ => False
  | n + 1 => fun x0 x1 x2 x3 x4 u => V_X3_leastAt_5_B G Q (V_X3_leastAt_5 G Q n) x0 x1 x2 x3 x4 u
def V_X3_leastAt (G : Gx) (p0 : Nat) (p1 : Int32) (p2 : Nat) (u : Mm) (Q : Int32 → Mm → Prop) : Prop :=
  ∃ n : Nat, V_X3_leastAt_5 G Q n p0 p1 p2 (-1 : Int32) (0 : Int32) u
set_option maxHeartbeats 4000000 in
set_option maxRecDepth 100000 in
theorem b_X3_leastAt_49 {G : Gx} {Q : Int32 → Mm → Prop} {p : Program} {l : Launch} {e : Env} {s : State} {m : MethodId} {args : Array Value} {below : List Frame} {meth : Method} {c : Code} (C : Cx G p s m c cX3_leastAt RX3 5) (hr : meth.sig.returnType = (some .int)) (hlk : meth.locks = false) {k_5 : Nat → Int32 → Nat → Int32 → Int32 → Mm → Prop} (hk_5 : ∀ (x0 : Nat) (x1 : Int32) (x2 : Nat) (x3 : Int32) (x4 : Int32) (u : Mm) (H : Heap) (locs : List Loc) (ls : Array Slot), k_5 x0 x1 x2 x3 x4 u → lv_has ls 5 [(0, .ref x0), (1, .int x1), (2, .ref x2), (3, .int x3), (4, .int x4)] → Hp G u s H locs → W p l e rm_X3_leastAt s m args below meth c H locs 0 0 (MQ below (Ei G Q) args s 0 0 (ag G)) (F0 m 5 ls [])) {x0 : Nat} {x1 : Int32} {x2 : Nat} {x3 : Int32} {x4 : Int32} {u : Mm} {H : Heap} {locs : List Loc} {ls : Array Slot} (h : V_X3_leastAt_49 G Q k_5 x0 x1 x2 x3 x4 u) (hl : lv_has ls 5 [(0, .ref x0), (1, .int x1), (2, .ref x2), (3, .int x3), (4, .int x4)]) (hP : Hp G u s H locs) : W p l e rm_X3_leastAt s m args below meth c H locs 0 0 (MQ below (Ei G Q) args s 0 0 (ag G)) (F0 m 49 ls []) := by
  have hx := C.1
  have hb := C.2.1
  unfold V_X3_leastAt_49 at h
  obtain ⟨x4_49, ex4_49⟩ : ∃ y : Int32, y = x4 + (1 : Int32) := ⟨_, rfl⟩
  have h := h x4_49 ex4_49
  refine lv_iinc (v := x4_49) (lv' := [(4, .int x4_49), (0, .ref x0), (1, .int x1), (2, .ref x2), (3, .int x3)]) hx hb dX3_leastAt_49 hl (k := 4) rfl (by rw [ex4_49]; rfl) (by decide) rfl (fun ls hl => ?_)
  refine lv_goto (tgt := 5) hx hb dX3_leastAt_52 (by decide) ?_
  exact hk_5 x0 x1 x2 x3 x4_49 u _ _ _ h (lv_sub hl [1, 2, 3, 4, 0] rfl) hP
set_option maxHeartbeats 4000000 in
set_option maxRecDepth 100000 in
theorem b_X3_leastAt_41 {G : Gx} {Q : Int32 → Mm → Prop} {p : Program} {l : Launch} {e : Env} {s : State} {m : MethodId} {args : Array Value} {below : List Frame} {meth : Method} {c : Code} (C : Cx G p s m c cX3_leastAt RX3 5) (hr : meth.sig.returnType = (some .int)) (hlk : meth.locks = false) {k_5 : Nat → Int32 → Nat → Int32 → Int32 → Mm → Prop} (hk_5 : ∀ (x0 : Nat) (x1 : Int32) (x2 : Nat) (x3 : Int32) (x4 : Int32) (u : Mm) (H : Heap) (locs : List Loc) (ls : Array Slot), k_5 x0 x1 x2 x3 x4 u → lv_has ls 5 [(0, .ref x0), (1, .int x1), (2, .ref x2), (3, .int x3), (4, .int x4)] → Hp G u s H locs → W p l e rm_X3_leastAt s m args below meth c H locs 0 0 (MQ below (Ei G Q) args s 0 0 (ag G)) (F0 m 5 ls [])) {x0 : Nat} {x1 : Int32} {x2 : Nat} {x4 : Int32} {u : Mm} {H : Heap} {locs : List Loc} {ls : Array Slot} (h : V_X3_leastAt_41 G Q k_5 x0 x1 x2 x4 u) (hl : lv_has ls 5 [(0, .ref x0), (1, .int x1), (2, .ref x2), (4, .int x4)]) (hP : Hp G u s H locs) : W p l e rm_X3_leastAt s m args below meth c H locs 0 0 (MQ below (Ei G Q) args s 0 0 (ag G)) (F0 m 41 ls []) := by
  have hx := C.1
  have hb := C.2.1
  unfold V_X3_leastAt_41 at h
  refine lv_aload_n hx hb dX3_leastAt_41 rfl (lv_at hl 0 rfl) ?_
  obtain ⟨g1, h⟩ := h
  obtain ⟨g2, h⟩ := h
  refine q_getR C hP (k := 1) (lay_X3 C.hA) rfl (by decide) g1 g2 (fl_X3_9 C.hA) dX3_leastAt_42 ?_
  refine lv_iload hx hb dX3_leastAt_45 (lv_at hl 3 rfl) ?_
  obtain ⟨g3, h⟩ := h
  obtain ⟨g4, h⟩ := h
  refine q_iald C hP g3 g4 dX3_leastAt_47 ?_
  refine lv_topi (fun x3_48 ex3_48 => ?_)
  have h := h x3_48 ex3_48
  refine lv_istore_n (lv' := [(3, .int x3_48), (0, .ref x0), (1, .int x1), (2, .ref x2), (4, .int x4)]) hx hb dX3_leastAt_48 rfl hl (by decide) rfl (fun ls hl => ?_)
  exact b_X3_leastAt_49 C hr hlk hk_5 h (lv_sub hl [1, 2, 3, 0, 4] rfl) hP
set_option maxHeartbeats 4000000 in
set_option maxRecDepth 100000 in
theorem b_X3_leastAt_5 {G : Gx} {Q : Int32 → Mm → Prop} {p : Program} {l : Launch} {e : Env} {s : State} {m : MethodId} {args : Array Value} {below : List Frame} {meth : Method} {c : Code} (C : Cx G p s m c cX3_leastAt RX3 5) (hr : meth.sig.returnType = (some .int)) (hlk : meth.locks = false) {k_5 : Nat → Int32 → Nat → Int32 → Int32 → Mm → Prop} (hk_5 : ∀ (x0 : Nat) (x1 : Int32) (x2 : Nat) (x3 : Int32) (x4 : Int32) (u : Mm) (H : Heap) (locs : List Loc) (ls : Array Slot), k_5 x0 x1 x2 x3 x4 u → lv_has ls 5 [(0, .ref x0), (1, .int x1), (2, .ref x2), (3, .int x3), (4, .int x4)] → Hp G u s H locs → W p l e rm_X3_leastAt s m args below meth c H locs 0 0 (MQ below (Ei G Q) args s 0 0 (ag G)) (F0 m 5 ls [])) {x0 : Nat} {x1 : Int32} {x2 : Nat} {x3 : Int32} {x4 : Int32} {u : Mm} {H : Heap} {locs : List Loc} {ls : Array Slot} (h : V_X3_leastAt_5_B G Q k_5 x0 x1 x2 x3 x4 u) (hl : lv_has ls 5 [(0, .ref x0), (1, .int x1), (2, .ref x2), (3, .int x3), (4, .int x4)]) (hP : Hp G u s H locs) : W p l e rm_X3_leastAt s m args below meth c H locs 0 0 (MQ below (Ei G Q) args s 0 0 (ag G)) (F0 m 5 ls []) := by
  have hx := C.1
  have hb := C.2.1
  unfold V_X3_leastAt_5_B at h
  refine lv_iload hx hb dX3_leastAt_5 (lv_at hl 4 rfl) ?_
  refine lv_aload_n hx hb dX3_leastAt_7 rfl (lv_at hl 0 rfl) ?_
  obtain ⟨g1, h⟩ := h
  refine q_getI C hP (k := 0) (lay_X3 C.hA) rfl (by decide) g1 (fl_X3_29 C.hA) dX3_leastAt_8 ?_
  refine lv_icmp_ge (tgt := 55) hx hb dX3_leastAt_11 (by decide) (fun c11 => ?_) (fun c11 => ?_)
  · have h := h.1 c11
    refine lv_iload_n hx hb dX3_leastAt_55 rfl (lv_at hl 3 rfl) ?_
    exact q_iret C hr hlk hP h (by decide) (by decide) dX3_leastAt_56
  · have h := h.2 c11
    refine lv_aload_n hx hb dX3_leastAt_14 rfl (lv_at hl 0 rfl) ?_
    refine lv_iload hx hb dX3_leastAt_15 (lv_at hl 4 rfl) ?_
    refine lv_iload_n hx hb dX3_leastAt_17 rfl (lv_at hl 1 rfl) ?_
    refine lv_aload_n hx hb dX3_leastAt_18 rfl (lv_at hl 2 rfl) ?_
    refine q_cali (q_runV C hP (c_X3_comesAt h) (cd_X3_comesAt C.hA) (ini_X3 C.hA) (ml_X3_124 C.hA) (im_X3_comesAt C.hA) (sl_X3_comesAt C.hA) g1 (by decide) rfl hd_X3_comesAt ⟨rfl, rfl⟩ ⟨Nat.le_of_ble_eq_true rfl, Nat.le_of_ble_eq_true rfl⟩ ⟨Nat.le_of_ble_eq_true rfl, Nat.le_of_ble_eq_true rfl⟩ hl.1 rfl (Nat.le_of_ble_eq_true rfl) dX3_leastAt_19) hP (fun v_19 u_19 H locs h hP => ?_)
    refine lv_if_eq (tgt := 49) hx hb dX3_leastAt_22 (by decide) (fun c22 => ?_) (fun c22 => ?_)
    · have h := h.1 c22
      exact b_X3_leastAt_49 C hr hlk hk_5 h (lv_sub hl [0, 1, 2, 3, 4] rfl) hP
    · have h := h.2 c22
      refine lv_iload_n hx hb dX3_leastAt_25 rfl (lv_at hl 3 rfl) ?_
      refine lv_iconst (v := (-1 : Int32)) hx hb dX3_leastAt_26 (by decide) ?_
      refine lv_icmp_eq (tgt := 41) hx hb dX3_leastAt_27 (by decide) (fun c27 => ?_) (fun c27 => ?_)
      · have h := h.1 c27
        exact b_X3_leastAt_41 C hr hlk hk_5 h (lv_sub hl [0, 1, 2, 4] rfl) hP
      · have h := h.2 c27
        refine lv_aload_n hx hb dX3_leastAt_30 rfl (lv_at hl 0 rfl) ?_
        obtain ⟨g2, h⟩ := h
        refine q_getR C hP (k := 1) (lay_X3 C.hA) rfl (by decide) g1 g2 (fl_X3_9 C.hA) dX3_leastAt_31 ?_
        refine lv_iload hx hb dX3_leastAt_34 (lv_at hl 4 rfl) ?_
        obtain ⟨g3, h⟩ := h
        obtain ⟨g4, h⟩ := h
        refine q_iald C hP g3 g4 dX3_leastAt_36 ?_
        refine lv_iload_n hx hb dX3_leastAt_37 rfl (lv_at hl 3 rfl) ?_
        refine lv_icmp_ge (tgt := 49) hx hb dX3_leastAt_38 (by decide) (fun c38 => ?_) (fun c38 => ?_)
        · have h := h.1 c38
          exact b_X3_leastAt_49 C hr hlk hk_5 h (lv_sub hl [0, 1, 2, 3, 4] rfl) hP
        · have h := h.2 c38
          exact b_X3_leastAt_41 C hr hlk hk_5 h (lv_sub hl [0, 1, 2, 4] rfl) hP
theorem l_X3_leastAt_5 {G : Gx} {Q : Int32 → Mm → Prop} {p : Program} {l : Launch} {e : Env} {s : State} {m : MethodId} {args : Array Value} {below : List Frame} {meth : Method} {c : Code} (C : Cx G p s m c cX3_leastAt RX3 5) (hr : meth.sig.returnType = (some .int)) (hlk : meth.locks = false) : ∀ (n : Nat) (x0 : Nat) (x1 : Int32) (x2 : Nat) (x3 : Int32) (x4 : Int32) (u : Mm) (H : Heap) (locs : List Loc) (ls : Array Slot), V_X3_leastAt_5 G Q n x0 x1 x2 x3 x4 u → lv_has ls 5 [(0, .ref x0), (1, .int x1), (2, .ref x2), (3, .int x3), (4, .int x4)] → Hp G u s H locs → W p l e rm_X3_leastAt s m args below meth c H locs 0 0 (MQ below (Ei G Q) args s 0 0 (ag G)) (F0 m 5 ls []) := by
  intro n
  induction n with
  | zero => intro x0 x1 x2 x3 x4 u H locs ls h; exact h.elim
  | succ n ih => intro x0 x1 x2 x3 x4 u H locs ls h hl hP; exact b_X3_leastAt_5 C hr hlk ih h hl hP
set_option maxHeartbeats 4000000 in
set_option maxRecDepth 100000 in
theorem c_X3_leastAt {l : Launch} {G : Gx} {p0 : Nat} {p1 : Int32} {p2 : Nat} {u : Mm} {Q : Int32 → Mm → Prop} (h : V_X3_leastAt G p0 p1 p2 u Q) : Met l yX3_leastAt [.code yX3_leastAt cX3_leastAt 5 (some .int)] rm_X3_leastAt (va_Pc [.ref p0, .int p1, .ref p2] (Wd G u)) (Ei G Q) 0 0 (ag G) := by
  refine q_met (by decide) (Nat.le_of_ble_eq_true rfl) ?_
  intro p e s m below meth c ls C hr hlk hnm hl hP
  have hl : lv_has ls 5 [(0, .ref p0), (1, .int p1), (2, .ref p2)] := hl
  generalize ([.ref p0, .int p1, .ref p2] : List Value).toArray = args
  have hx := C.1
  have hb := C.2.1
  unfold V_X3_leastAt at h
  refine lv_iconst (v := (-1 : Int32)) hx hb dX3_leastAt_0 (by decide) ?_
  refine lv_istore_n (lv' := [(3, .int (-1 : Int32)), (0, .ref p0), (1, .int p1), (2, .ref p2)]) hx hb dX3_leastAt_1 rfl hl (by decide) rfl (fun ls hl => ?_)
  refine lv_iconst (v := (0 : Int32)) hx hb dX3_leastAt_2 (by decide) ?_
  refine lv_istore (lv' := [(4, .int (0 : Int32)), (3, .int (-1 : Int32)), (0, .ref p0), (1, .int p1), (2, .ref p2)]) hx hb dX3_leastAt_3 hl (by decide) rfl (fun ls hl => ?_)
  obtain ⟨n, h⟩ := h
  exact l_X3_leastAt_5 C hr hlk n p0 p1 p2 (-1 : Int32) (0 : Int32) u _ _ _ h (lv_sub hl [2, 3, 4, 1, 0] rfl) hP
-- X1_pickNamed
abbrev rm_X1_pickNamed : Room := { frames := 1, cells := 0, slots := 0, locals := 20 }
theorem hd_X1_pickNamed : yX1_pickNamed.cls ≠ "java/lang/invoke/MethodHandle" ∧ yX1_pickNamed.cls ≠ "java/lang/invoke/VarHandle" ∧ (parseMethodDescriptor yX1_pickNamed.desc).map (fun d => d.parameters.length) = some 1 := by decide +kernel
def V_X1_pickNamed_65 (G : Gx) (Q : Int32 → Mm → Prop) (k_7 : Nat → Int32 → Int32 → Mm → Prop) (x0 : Nat) (x1 : Int32) (x2 : Int32) (u : Mm) : Prop :=
  ∀ x2_65 : Int32, x2_65 = x2 + (1 : Int32) → k_7 x0 x1 x2_65 u
def V_X1_pickNamed_7_B (G : Gx) (Q : Int32 → Mm → Prop) (k_7 : Nat → Int32 → Int32 → Mm → Prop) (x0 : Nat) (x1 : Int32) (x2 : Int32) (u : Mm) : Prop :=
  kd G x0 = 1 ∧ (((gI u x0 1) ≤ x2 → Q (gI u x0 7) u) ∧ (¬ (gI u x0 1) ≤ x2 → (gR u x0 0) ≠ 0 ∧ kd G (gR u x0 0) = 21 ∧ vp_in x2 (ln G (gR u x0 0)) ∧ (gR u (gR u x0 0) x2.toNatClampNeg) ≠ 0 ∧ kd G (gR u (gR u x0 0) x2.toNatClampNeg) = 7 ∧ V_X7_isNamed G (gR u (gR u x0 0) x2.toNatClampNeg) u (fun (v_21 : Int32) (u_21 : Mm) => ((v_21 = 0 → V_X1_pickNamed_65 G Q k_7 x0 x1 x2 u_21) ∧ (¬ v_21 = 0 → (gR u_21 x0 0) ≠ 0 ∧ kd G (gR u_21 x0 0) = 21 ∧ vp_in x2 (ln G (gR u_21 x0 0)) ∧ (gR u_21 (gR u_21 x0 0) x2.toNatClampNeg) ≠ 0 ∧ kd G (gR u_21 (gR u_21 x0 0) x2.toNatClampNeg) = 7 ∧ (((gI u_21 (gR u_21 (gR u_21 x0 0) x2.toNatClampNeg) 2) = x1 → (gR u_21 x0 6) ≠ 0 ∧ kd G (gR u_21 x0 6) = 21 ∧ vp_in (gI u_21 x0 7) (ln G (gR u_21 x0 6)) ∧ ∀ u_54 : Mm, u_54 = sR u_21 (gR u_21 x0 6) (gI u_21 x0 7).toNatClampNeg (gR u_21 (gR u_21 x0 0) x2.toNatClampNeg) → ∀ u_62 : Mm, u_62 = sI u_54 x0 7 ((gI u_54 x0 7) + (1 : Int32)) → V_X1_pickNamed_65 G Q k_7 x0 x1 x2 u_62) ∧ (¬ (gI u_21 (gR u_21 (gR u_21 x0 0) x2.toNatClampNeg) 2) = x1 → V_X1_pickNamed_65 G Q k_7 x0 x1 x2 u_21)))))))
def V_X1_pickNamed_7 (G : Gx) (Q : Int32 → Mm → Prop) : Nat → (Nat → Int32 → Int32 → Mm → Prop)
  | 0 => fun _ _ _ _ => False
  | n + 1 => fun x0 x1 x2 u => V_X1_pickNamed_7_B G Q (V_X1_pickNamed_7 G Q n) x0 x1 x2 u
def V_X1_pickNamed (G : Gx) (p0 : Nat) (p1 : Int32) (u : Mm) (Q : Int32 → Mm → Prop) : Prop :=
  kd G p0 = 1 ∧ ∀ u_2 : Mm, u_2 = sI u p0 7 (0 : Int32) → ∃ n : Nat, V_X1_pickNamed_7 G Q n p0 p1 (0 : Int32) u_2
set_option maxHeartbeats 4000000 in
set_option maxRecDepth 100000 in
theorem b_X1_pickNamed_65 {G : Gx} {Q : Int32 → Mm → Prop} {p : Program} {l : Launch} {e : Env} {s : State} {m : MethodId} {args : Array Value} {below : List Frame} {meth : Method} {c : Code} (C : Cx G p s m c cX1_pickNamed RX1 3) (hr : meth.sig.returnType = (some .int)) (hlk : meth.locks = false) {k_7 : Nat → Int32 → Int32 → Mm → Prop} (hk_7 : ∀ (x0 : Nat) (x1 : Int32) (x2 : Int32) (u : Mm) (H : Heap) (locs : List Loc) (ls : Array Slot), k_7 x0 x1 x2 u → lv_has ls 3 [(0, .ref x0), (1, .int x1), (2, .int x2)] → Hp G u s H locs → W p l e rm_X1_pickNamed s m args below meth c H locs 0 0 (MQ below (Ei G Q) args s 0 0 (ag G)) (F0 m 7 ls [])) {x0 : Nat} {x1 : Int32} {x2 : Int32} {u : Mm} {H : Heap} {locs : List Loc} {ls : Array Slot} (h : V_X1_pickNamed_65 G Q k_7 x0 x1 x2 u) (hl : lv_has ls 3 [(0, .ref x0), (1, .int x1), (2, .int x2)]) (hP : Hp G u s H locs) : W p l e rm_X1_pickNamed s m args below meth c H locs 0 0 (MQ below (Ei G Q) args s 0 0 (ag G)) (F0 m 65 ls []) := by
  have hx := C.1
  have hb := C.2.1
  unfold V_X1_pickNamed_65 at h
  obtain ⟨x2_65, ex2_65⟩ : ∃ y : Int32, y = x2 + (1 : Int32) := ⟨_, rfl⟩
  have h := h x2_65 ex2_65
  refine lv_iinc (v := x2_65) (lv' := [(2, .int x2_65), (0, .ref x0), (1, .int x1)]) hx hb dX1_pickNamed_65 hl (k := 2) rfl (by rw [ex2_65]; rfl) (by decide) rfl (fun ls hl => ?_)
  refine lv_goto (tgt := 7) hx hb dX1_pickNamed_68 (by decide) ?_
  exact hk_7 x0 x1 x2_65 u _ _ _ h (lv_sub hl [1, 2, 0] rfl) hP
set_option maxHeartbeats 4000000 in
set_option maxRecDepth 100000 in
theorem b_X1_pickNamed_7 {G : Gx} {Q : Int32 → Mm → Prop} {p : Program} {l : Launch} {e : Env} {s : State} {m : MethodId} {args : Array Value} {below : List Frame} {meth : Method} {c : Code} (C : Cx G p s m c cX1_pickNamed RX1 3) (hr : meth.sig.returnType = (some .int)) (hlk : meth.locks = false) {k_7 : Nat → Int32 → Int32 → Mm → Prop} (hk_7 : ∀ (x0 : Nat) (x1 : Int32) (x2 : Int32) (u : Mm) (H : Heap) (locs : List Loc) (ls : Array Slot), k_7 x0 x1 x2 u → lv_has ls 3 [(0, .ref x0), (1, .int x1), (2, .int x2)] → Hp G u s H locs → W p l e rm_X1_pickNamed s m args below meth c H locs 0 0 (MQ below (Ei G Q) args s 0 0 (ag G)) (F0 m 7 ls [])) {x0 : Nat} {x1 : Int32} {x2 : Int32} {u : Mm} {H : Heap} {locs : List Loc} {ls : Array Slot} (h : V_X1_pickNamed_7_B G Q k_7 x0 x1 x2 u) (hl : lv_has ls 3 [(0, .ref x0), (1, .int x1), (2, .int x2)]) (hP : Hp G u s H locs) : W p l e rm_X1_pickNamed s m args below meth c H locs 0 0 (MQ below (Ei G Q) args s 0 0 (ag G)) (F0 m 7 ls []) := by
  have hx := C.1
  have hb := C.2.1
  unfold V_X1_pickNamed_7_B at h
  refine lv_iload_n hx hb dX1_pickNamed_7 rfl (lv_at hl 2 rfl) ?_
  refine lv_aload_n hx hb dX1_pickNamed_8 rfl (lv_at hl 0 rfl) ?_
  obtain ⟨g1, h⟩ := h
  refine q_getI C hP (k := 1) (lay_X1 C.hA) rfl (by decide) g1 (fl_X1_31 C.hA) dX1_pickNamed_9 ?_
  refine lv_icmp_ge (tgt := 71) hx hb dX1_pickNamed_12 (by decide) (fun c12 => ?_) (fun c12 => ?_)
  · have h := h.1 c12
    refine lv_aload_n hx hb dX1_pickNamed_71 rfl (lv_at hl 0 rfl) ?_
    refine q_getI C hP (k := 7) (lay_X1 C.hA) rfl (by decide) g1 (fl_X1_38 C.hA) dX1_pickNamed_72 ?_
    exact q_iret C hr hlk hP h (by decide) (by decide) dX1_pickNamed_75
  · have h := h.2 c12
    refine lv_aload_n hx hb dX1_pickNamed_15 rfl (lv_at hl 0 rfl) ?_
    obtain ⟨g2, h⟩ := h
    refine q_getR C hP (k := 0) (lay_X1 C.hA) rfl (by decide) g1 g2 (fl_X1_23 C.hA) dX1_pickNamed_16 ?_
    refine lv_iload_n hx hb dX1_pickNamed_19 rfl (lv_at hl 2 rfl) ?_
    obtain ⟨g3, h⟩ := h
    obtain ⟨g4, h⟩ := h
    obtain ⟨g5, h⟩ := h
    refine q_aald C hP g3 (by decide) rfl g4 g5 dX1_pickNamed_20 ?_
    obtain ⟨g6, h⟩ := h
    refine q_cali (q_runVN C hP (c_X7_isNamed h) (cd_X7_isNamed C.hA) (ini_X7 C.hA) (mn_X1_41 C.hA) (im_X7_isNamed C.hA) (sl_X7_isNamed C.hA) g6 (by decide) rfl hd_X7_isNamed ⟨rfl, rfl⟩ ⟨Nat.le_of_ble_eq_true rfl, Nat.le_of_ble_eq_true rfl⟩ ⟨Nat.le_of_ble_eq_true rfl, Nat.le_of_ble_eq_true rfl⟩ hl.1 rfl (Nat.le_of_ble_eq_true rfl) dX1_pickNamed_21) hP (fun v_21 u_21 H locs h hP => ?_)
    refine lv_if_eq (tgt := 65) hx hb dX1_pickNamed_24 (by decide) (fun c24 => ?_) (fun c24 => ?_)
    · have h := h.1 c24
      exact b_X1_pickNamed_65 C hr hlk hk_7 h (lv_sub hl [0, 1, 2] rfl) hP
    · have h := h.2 c24
      refine lv_aload_n hx hb dX1_pickNamed_27 rfl (lv_at hl 0 rfl) ?_
      obtain ⟨g7, h⟩ := h
      refine q_getR C hP (k := 0) (lay_X1 C.hA) rfl (by decide) g1 g7 (fl_X1_23 C.hA) dX1_pickNamed_28 ?_
      refine lv_iload_n hx hb dX1_pickNamed_31 rfl (lv_at hl 2 rfl) ?_
      obtain ⟨g8, h⟩ := h
      obtain ⟨g9, h⟩ := h
      obtain ⟨g10, h⟩ := h
      refine q_aald C hP g8 (by decide) rfl g9 g10 dX1_pickNamed_32 ?_
      obtain ⟨g11, h⟩ := h
      refine q_getIN C hP (k := 2) (lay_X7 C.hA) rfl (by decide) g11 (fn_X1_45 C.hA) dX1_pickNamed_33 ?_
      refine lv_iload_n hx hb dX1_pickNamed_36 rfl (lv_at hl 1 rfl) ?_
      refine lv_icmp_ne (tgt := 65) hx hb dX1_pickNamed_37 (by decide) (fun c37 => ?_) (fun c37 => ?_)
      · have h := h.2 c37
        exact b_X1_pickNamed_65 C hr hlk hk_7 h (lv_sub hl [0, 1, 2] rfl) hP
      · have h := h.1 c37
        refine lv_aload_n hx hb dX1_pickNamed_40 rfl (lv_at hl 0 rfl) ?_
        obtain ⟨g12, h⟩ := h
        refine q_getR C hP (k := 6) (lay_X1 C.hA) rfl (by decide) g1 g12 (fl_X1_27 C.hA) dX1_pickNamed_41 ?_
        refine lv_aload_n hx hb dX1_pickNamed_44 rfl (lv_at hl 0 rfl) ?_
        refine q_getI C hP (k := 7) (lay_X1 C.hA) rfl (by decide) g1 (fl_X1_38 C.hA) dX1_pickNamed_45 ?_
        refine lv_aload_n hx hb dX1_pickNamed_48 rfl (lv_at hl 0 rfl) ?_
        refine q_getR C hP (k := 0) (lay_X1 C.hA) rfl (by decide) g1 g7 (fl_X1_23 C.hA) dX1_pickNamed_49 ?_
        refine lv_iload_n hx hb dX1_pickNamed_52 rfl (lv_at hl 2 rfl) ?_
        refine q_aald C hP g8 (by decide) rfl g9 g10 dX1_pickNamed_53 ?_
        obtain ⟨g13, h⟩ := h
        obtain ⟨g14, h⟩ := h
        refine q_aast C hP g13 (by decide) (r := (RX7, TX7, 7)) rfl rfl (by decide) g11 g14 dX1_pickNamed_54 (fun H locs hP => ?_)
        obtain ⟨u_54, eu_54, hP⟩ := Hp.nm hP
        have h := h u_54 eu_54
        refine lv_aload_n hx hb dX1_pickNamed_55 rfl (lv_at hl 0 rfl) ?_
        refine lv_dup hx hb dX1_pickNamed_56 rfl ?_
        refine q_getI C hP (k := 7) (lay_X1 C.hA) rfl (by decide) g1 (fl_X1_38 C.hA) dX1_pickNamed_57 ?_
        refine lv_iconst (v := (1 : Int32)) hx hb dX1_pickNamed_60 (by decide) ?_
        refine lv_iadd hx hb dX1_pickNamed_61 ?_
        refine q_putI C hP (k := 7) tyX1_ok nmX1 (lay_X1 C.hA) rfl (by decide) rfl rfl rfl rfl g1 (fl_X1_38 C.hA) dX1_pickNamed_62 (fun H locs hP => ?_)
        obtain ⟨u_62, eu_62, hP⟩ := Hp.nm hP
        have h := h u_62 eu_62
        exact b_X1_pickNamed_65 C hr hlk hk_7 h (lv_sub hl [0, 1, 2] rfl) hP
theorem l_X1_pickNamed_7 {G : Gx} {Q : Int32 → Mm → Prop} {p : Program} {l : Launch} {e : Env} {s : State} {m : MethodId} {args : Array Value} {below : List Frame} {meth : Method} {c : Code} (C : Cx G p s m c cX1_pickNamed RX1 3) (hr : meth.sig.returnType = (some .int)) (hlk : meth.locks = false) : ∀ (n : Nat) (x0 : Nat) (x1 : Int32) (x2 : Int32) (u : Mm) (H : Heap) (locs : List Loc) (ls : Array Slot), V_X1_pickNamed_7 G Q n x0 x1 x2 u → lv_has ls 3 [(0, .ref x0), (1, .int x1), (2, .int x2)] → Hp G u s H locs → W p l e rm_X1_pickNamed s m args below meth c H locs 0 0 (MQ below (Ei G Q) args s 0 0 (ag G)) (F0 m 7 ls []) := by
  intro n
  induction n with
  | zero => intro x0 x1 x2 u H locs ls h; exact h.elim
  | succ n ih => intro x0 x1 x2 u H locs ls h hl hP; exact b_X1_pickNamed_7 C hr hlk ih h hl hP
set_option maxHeartbeats 4000000 in
set_option maxRecDepth 100000 in
theorem c_X1_pickNamed {l : Launch} {G : Gx} {p0 : Nat} {p1 : Int32} {u : Mm} {Q : Int32 → Mm → Prop} (h : V_X1_pickNamed G p0 p1 u Q) : Met l yX1_pickNamed [.code yX1_pickNamed cX1_pickNamed 3 (some .int)] rm_X1_pickNamed (va_Pc [.ref p0, .int p1] (Wd G u)) (Ei G Q) 0 0 (ag G) := by
  refine q_met (by decide) (Nat.le_of_ble_eq_true rfl) ?_
  intro p e s m below meth c ls C hr hlk hnm hl hP
  have hl : lv_has ls 3 [(0, .ref p0), (1, .int p1)] := hl
  generalize ([.ref p0, .int p1] : List Value).toArray = args
  have hx := C.1
  have hb := C.2.1
  unfold V_X1_pickNamed at h
  refine lv_aload_n hx hb dX1_pickNamed_0 rfl (lv_at hl 0 rfl) ?_
  refine lv_iconst (v := (0 : Int32)) hx hb dX1_pickNamed_1 (by decide) ?_
  obtain ⟨g1, h⟩ := h
  refine q_putI C hP (k := 7) tyX1_ok nmX1 (lay_X1 C.hA) rfl (by decide) rfl rfl rfl rfl g1 (fl_X1_38 C.hA) dX1_pickNamed_2 (fun H locs hP => ?_)
  obtain ⟨u_2, eu_2, hP⟩ := Hp.nm hP
  have h := h u_2 eu_2
  refine lv_iconst (v := (0 : Int32)) hx hb dX1_pickNamed_5 (by decide) ?_
  refine lv_istore_n (lv' := [(2, .int (0 : Int32)), (0, .ref p0), (1, .int p1)]) hx hb dX1_pickNamed_6 rfl hl (by decide) rfl (fun ls hl => ?_)
  obtain ⟨n, h⟩ := h
  exact l_X1_pickNamed_7 C hr hlk n p0 p1 (0 : Int32) u_2 _ _ _ h (lv_sub hl [1, 2, 0] rfl) hP
-- X3_countFirstHeard
abbrev rm_X3_countFirstHeard : Room := { frames := 0, cells := 0, slots := 0, locals := 0 }
theorem hd_X3_countFirstHeard : yX3_countFirstHeard.cls ≠ "java/lang/invoke/MethodHandle" ∧ yX3_countFirstHeard.cls ≠ "java/lang/invoke/VarHandle" ∧ (parseMethodDescriptor yX3_countFirstHeard.desc).map (fun d => d.parameters.length) = some 1 := by decide +kernel
def V_X3_countFirstHeard_36 (G : Gx) (Q : Int32 → Mm → Prop) (k_4 : Nat → Int32 → Int32 → Int32 → Mm → Prop) (x0 : Nat) (x1 : Int32) (x2 : Int32) (x3 : Int32) (u : Mm) : Prop :=
  ∀ x3_36 : Int32, x3_36 = x3 + (1 : Int32) → k_4 x0 x1 x2 x3_36 u
def V_X3_countFirstHeard_4_B (G : Gx) (Q : Int32 → Mm → Prop) (k_4 : Nat → Int32 → Int32 → Int32 → Mm → Prop) (x0 : Nat) (x1 : Int32) (x2 : Int32) (x3 : Int32) (u : Mm) : Prop :=
  kd G x0 = 3 ∧ (((gI u x0 0) ≤ x3 → Q x2 u) ∧ (¬ (gI u x0 0) ≤ x3 → (gR u x0 1) ≠ 0 ∧ kd G (gR u x0 1) = 13 ∧ vp_in x3 (ln G (gR u x0 1)) ∧ (((16 : Int32) ≤ (gI u (gR u x0 1) x3.toNatClampNeg) → V_X3_countFirstHeard_36 G Q k_4 x0 x1 x2 x3 u) ∧ (¬ (16 : Int32) ≤ (gI u (gR u x0 1) x3.toNatClampNeg) → (gR u x0 3) ≠ 0 ∧ kd G (gR u x0 3) = 13 ∧ vp_in x3 (ln G (gR u x0 3)) ∧ (((gI u (gR u x0 3) x3.toNatClampNeg) < x1 → V_X3_countFirstHeard_36 G Q k_4 x0 x1 x2 x3 u) ∧ (¬ (gI u (gR u x0 3) x3.toNatClampNeg) < x1 → ∀ x2_33 : Int32, x2_33 = x2 + (1 : Int32) → V_X3_countFirstHeard_36 G Q k_4 x0 x1 x2_33 x3 u))))))
def V_X3_countFirstHeard_4 (G : Gx) (Q : Int32 → Mm → Prop) : Nat → (Nat → Int32 → Int32 → Int32 → Mm → Prop)
  | 0 => fun _ _ _ _ _ => False
  | n + 1 => fun x0 x1 x2 x3 u => V_X3_countFirstHeard_4_B G Q (V_X3_countFirstHeard_4 G Q n) x0 x1 x2 x3 u
def V_X3_countFirstHeard (G : Gx) (p0 : Nat) (p1 : Int32) (u : Mm) (Q : Int32 → Mm → Prop) : Prop :=
  ∃ n : Nat, V_X3_countFirstHeard_4 G Q n p0 p1 (0 : Int32) (0 : Int32) u
set_option maxHeartbeats 4000000 in
set_option maxRecDepth 100000 in
theorem b_X3_countFirstHeard_36 {G : Gx} {Q : Int32 → Mm → Prop} {p : Program} {l : Launch} {e : Env} {s : State} {m : MethodId} {args : Array Value} {below : List Frame} {meth : Method} {c : Code} (C : Cx G p s m c cX3_countFirstHeard RX3 4) (hr : meth.sig.returnType = (some .int)) (hlk : meth.locks = false) {k_4 : Nat → Int32 → Int32 → Int32 → Mm → Prop} (hk_4 : ∀ (x0 : Nat) (x1 : Int32) (x2 : Int32) (x3 : Int32) (u : Mm) (H : Heap) (locs : List Loc) (ls : Array Slot), k_4 x0 x1 x2 x3 u → lv_has ls 4 [(0, .ref x0), (1, .int x1), (2, .int x2), (3, .int x3)] → Hp G u s H locs → W p l e rm_X3_countFirstHeard s m args below meth c H locs 0 0 (MQ below (Ei G Q) args s 0 0 (ag G)) (F0 m 4 ls [])) {x0 : Nat} {x1 : Int32} {x2 : Int32} {x3 : Int32} {u : Mm} {H : Heap} {locs : List Loc} {ls : Array Slot} (h : V_X3_countFirstHeard_36 G Q k_4 x0 x1 x2 x3 u) (hl : lv_has ls 4 [(0, .ref x0), (1, .int x1), (2, .int x2), (3, .int x3)]) (hP : Hp G u s H locs) : W p l e rm_X3_countFirstHeard s m args below meth c H locs 0 0 (MQ below (Ei G Q) args s 0 0 (ag G)) (F0 m 36 ls []) := by
  have hx := C.1
  have hb := C.2.1
  unfold V_X3_countFirstHeard_36 at h
  obtain ⟨x3_36, ex3_36⟩ : ∃ y : Int32, y = x3 + (1 : Int32) := ⟨_, rfl⟩
  have h := h x3_36 ex3_36
  refine lv_iinc (v := x3_36) (lv' := [(3, .int x3_36), (0, .ref x0), (1, .int x1), (2, .int x2)]) hx hb dX3_countFirstHeard_36 hl (k := 3) rfl (by rw [ex3_36]; rfl) (by decide) rfl (fun ls hl => ?_)
  refine lv_goto (tgt := 4) hx hb dX3_countFirstHeard_39 (by decide) ?_
  exact hk_4 x0 x1 x2 x3_36 u _ _ _ h (lv_sub hl [1, 2, 3, 0] rfl) hP
set_option maxHeartbeats 4000000 in
set_option maxRecDepth 100000 in
theorem b_X3_countFirstHeard_4 {G : Gx} {Q : Int32 → Mm → Prop} {p : Program} {l : Launch} {e : Env} {s : State} {m : MethodId} {args : Array Value} {below : List Frame} {meth : Method} {c : Code} (C : Cx G p s m c cX3_countFirstHeard RX3 4) (hr : meth.sig.returnType = (some .int)) (hlk : meth.locks = false) {k_4 : Nat → Int32 → Int32 → Int32 → Mm → Prop} (hk_4 : ∀ (x0 : Nat) (x1 : Int32) (x2 : Int32) (x3 : Int32) (u : Mm) (H : Heap) (locs : List Loc) (ls : Array Slot), k_4 x0 x1 x2 x3 u → lv_has ls 4 [(0, .ref x0), (1, .int x1), (2, .int x2), (3, .int x3)] → Hp G u s H locs → W p l e rm_X3_countFirstHeard s m args below meth c H locs 0 0 (MQ below (Ei G Q) args s 0 0 (ag G)) (F0 m 4 ls [])) {x0 : Nat} {x1 : Int32} {x2 : Int32} {x3 : Int32} {u : Mm} {H : Heap} {locs : List Loc} {ls : Array Slot} (h : V_X3_countFirstHeard_4_B G Q k_4 x0 x1 x2 x3 u) (hl : lv_has ls 4 [(0, .ref x0), (1, .int x1), (2, .int x2), (3, .int x3)]) (hP : Hp G u s H locs) : W p l e rm_X3_countFirstHeard s m args below meth c H locs 0 0 (MQ below (Ei G Q) args s 0 0 (ag G)) (F0 m 4 ls []) := by
  have hx := C.1
  have hb := C.2.1
  unfold V_X3_countFirstHeard_4_B at h
  refine lv_iload_n hx hb dX3_countFirstHeard_4 rfl (lv_at hl 3 rfl) ?_
  refine lv_aload_n hx hb dX3_countFirstHeard_5 rfl (lv_at hl 0 rfl) ?_
  obtain ⟨g1, h⟩ := h
  refine q_getI C hP (k := 0) (lay_X3 C.hA) rfl (by decide) g1 (fl_X3_29 C.hA) dX3_countFirstHeard_6 ?_
  refine lv_icmp_ge (tgt := 42) hx hb dX3_countFirstHeard_9 (by decide) (fun c9 => ?_) (fun c9 => ?_)
  · have h := h.1 c9
    refine lv_iload_n hx hb dX3_countFirstHeard_42 rfl (lv_at hl 2 rfl) ?_
    exact q_iret C hr hlk hP h (by decide) (by decide) dX3_countFirstHeard_43
  · have h := h.2 c9
    refine lv_aload_n hx hb dX3_countFirstHeard_12 rfl (lv_at hl 0 rfl) ?_
    obtain ⟨g2, h⟩ := h
    refine q_getR C hP (k := 1) (lay_X3 C.hA) rfl (by decide) g1 g2 (fl_X3_9 C.hA) dX3_countFirstHeard_13 ?_
    refine lv_iload_n hx hb dX3_countFirstHeard_16 rfl (lv_at hl 3 rfl) ?_
    obtain ⟨g3, h⟩ := h
    obtain ⟨g4, h⟩ := h
    refine q_iald C hP g3 g4 dX3_countFirstHeard_17 ?_
    refine lv_bipush (v := (16 : Int32)) hx hb dX3_countFirstHeard_18 (by decide) ?_
    refine lv_icmp_ge (tgt := 36) hx hb dX3_countFirstHeard_20 (by decide) (fun c20 => ?_) (fun c20 => ?_)
    · have h := h.1 c20
      exact b_X3_countFirstHeard_36 C hr hlk hk_4 h (lv_sub hl [0, 1, 2, 3] rfl) hP
    · have h := h.2 c20
      refine lv_aload_n hx hb dX3_countFirstHeard_23 rfl (lv_at hl 0 rfl) ?_
      obtain ⟨g5, h⟩ := h
      refine q_getR C hP (k := 3) (lay_X3 C.hA) rfl (by decide) g1 g5 (fl_X3_18 C.hA) dX3_countFirstHeard_24 ?_
      refine lv_iload_n hx hb dX3_countFirstHeard_27 rfl (lv_at hl 3 rfl) ?_
      obtain ⟨g6, h⟩ := h
      obtain ⟨g7, h⟩ := h
      refine q_iald C hP g6 g7 dX3_countFirstHeard_28 ?_
      refine lv_iload_n hx hb dX3_countFirstHeard_29 rfl (lv_at hl 1 rfl) ?_
      refine lv_icmp_lt (tgt := 36) hx hb dX3_countFirstHeard_30 (by decide) (fun c30 => ?_) (fun c30 => ?_)
      · have h := h.1 c30
        exact b_X3_countFirstHeard_36 C hr hlk hk_4 h (lv_sub hl [0, 1, 2, 3] rfl) hP
      · have h := h.2 c30
        obtain ⟨x2_33, ex2_33⟩ : ∃ y : Int32, y = x2 + (1 : Int32) := ⟨_, rfl⟩
        have h := h x2_33 ex2_33
        refine lv_iinc (v := x2_33) (lv' := [(2, .int x2_33), (0, .ref x0), (1, .int x1), (3, .int x3)]) hx hb dX3_countFirstHeard_33 hl (k := 2) rfl (by rw [ex2_33]; rfl) (by decide) rfl (fun ls hl => ?_)
        exact b_X3_countFirstHeard_36 C hr hlk hk_4 h (lv_sub hl [1, 2, 0, 3] rfl) hP
theorem l_X3_countFirstHeard_4 {G : Gx} {Q : Int32 → Mm → Prop} {p : Program} {l : Launch} {e : Env} {s : State} {m : MethodId} {args : Array Value} {below : List Frame} {meth : Method} {c : Code} (C : Cx G p s m c cX3_countFirstHeard RX3 4) (hr : meth.sig.returnType = (some .int)) (hlk : meth.locks = false) : ∀ (n : Nat) (x0 : Nat) (x1 : Int32) (x2 : Int32) (x3 : Int32) (u : Mm) (H : Heap) (locs : List Loc) (ls : Array Slot), V_X3_countFirstHeard_4 G Q n x0 x1 x2 x3 u → lv_has ls 4 [(0, .ref x0), (1, .int x1), (2, .int x2), (3, .int x3)] → Hp G u s H locs → W p l e rm_X3_countFirstHeard s m args below meth c H locs 0 0 (MQ below (Ei G Q) args s 0 0 (ag G)) (F0 m 4 ls []) := by
  intro n
  induction n with
  | zero => intro x0 x1 x2 x3 u H locs ls h; exact h.elim
  | succ n ih => intro x0 x1 x2 x3 u H locs ls h hl hP; exact b_X3_countFirstHeard_4 C hr hlk ih h hl hP
set_option maxHeartbeats 4000000 in
set_option maxRecDepth 100000 in
theorem c_X3_countFirstHeard {l : Launch} {G : Gx} {p0 : Nat} {p1 : Int32} {u : Mm} {Q : Int32 → Mm → Prop} (h : V_X3_countFirstHeard G p0 p1 u Q) : Met l yX3_countFirstHeard [.code yX3_countFirstHeard cX3_countFirstHeard 4 (some .int)] rm_X3_countFirstHeard (va_Pc [.ref p0, .int p1] (Wd G u)) (Ei G Q) 0 0 (ag G) := by
  refine q_met (by decide) (Nat.le_of_ble_eq_true rfl) ?_
  intro p e s m below meth c ls C hr hlk hnm hl hP
  have hl : lv_has ls 4 [(0, .ref p0), (1, .int p1)] := hl
  generalize ([.ref p0, .int p1] : List Value).toArray = args
  have hx := C.1
  have hb := C.2.1
  unfold V_X3_countFirstHeard at h
  refine lv_iconst (v := (0 : Int32)) hx hb dX3_countFirstHeard_0 (by decide) ?_
  refine lv_istore_n (lv' := [(2, .int (0 : Int32)), (0, .ref p0), (1, .int p1)]) hx hb dX3_countFirstHeard_1 rfl hl (by decide) rfl (fun ls hl => ?_)
  refine lv_iconst (v := (0 : Int32)) hx hb dX3_countFirstHeard_2 (by decide) ?_
  refine lv_istore_n (lv' := [(3, .int (0 : Int32)), (2, .int (0 : Int32)), (0, .ref p0), (1, .int p1)]) hx hb dX3_countFirstHeard_3 rfl hl (by decide) rfl (fun ls hl => ?_)
  obtain ⟨n, h⟩ := h
  exact l_X3_countFirstHeard_4 C hr hlk n p0 p1 (0 : Int32) (0 : Int32) u _ _ _ h (lv_sub hl [2, 3, 1, 0] rfl) hP
-- X3_thiefRoots
abbrev rm_X3_thiefRoots : Room := { frames := 1, cells := 0, slots := 0, locals := 24 }
theorem hd_X3_thiefRoots : yX3_thiefRoots.cls ≠ "java/lang/invoke/MethodHandle" ∧ yX3_thiefRoots.cls ≠ "java/lang/invoke/VarHandle" ∧ (parseMethodDescriptor yX3_thiefRoots.desc).map (fun d => d.parameters.length) = some 5 := by decide +kernel
def V_X3_thiefRoots_64 (G : Gx) (Q : Int32 → Mm → Prop) (x0 : Nat) (x3 : Int32) (x4 : Int32) (x5 : Int32) (x6 : Int32) (u : Mm) : Prop :=
  kd G x0 = 6 ∧ V_X11_distanceSquare G (gI u x0 0) (gI u x0 1) x5 x6 u (fun (v_76 : Int32) (u_76 : Mm) => V_X11_wayRoot G v_76 u_76 (fun (v_79 : Int32) (u_79 : Mm) => V_X11_distanceSquare G x5 x6 x3 x4 u_79 (fun (v_89 : Int32) (u_89 : Mm) => V_X11_wayRoot G v_89 u_89 (fun (v_92 : Int32) (u_92 : Mm) => Q (v_79 + v_92) u_92))))
def V_X3_thiefRoots (G : Gx) (p0 : Nat) (p1 : Nat) (p2 : Int32) (p3 : Int32) (p4 : Int32) (u : Mm) (Q : Int32 → Mm → Prop) : Prop :=
  ((p2 < (8 : Int32) → kd G p1 = 4 ∧ (gR u p1 0) ≠ 0 ∧ kd G (gR u p1 0) = 17 ∧ vp_in p2 (ln G (gR u p1 0)) ∧ (gR u (gR u p1 0) p2.toNatClampNeg) ≠ 0 ∧ ∀ x7_40 : Nat, x7_40 = (gR u (gR u p1 0) p2.toNatClampNeg) → kd G p0 = 6 ∧ kd G x7_40 = 9 ∧ V_X9_footX G x7_40 (gI u p0 0) u (fun (v_48 : Int32) (u_48 : Mm) => V_X9_footY G x7_40 (gI u_48 p0 1) u_48 (fun (v_59 : Int32) (u_59 : Mm) => V_X3_thiefRoots_64 G Q p0 p3 p4 v_48 v_59 u_59))) ∧ (¬ p2 < (8 : Int32) → kd G p1 = 4 ∧ (gR u p1 1) ≠ 0 ∧ kd G (gR u p1 1) = 18 ∧ vp_in (p2 - (8 : Int32)) (ln G (gR u p1 1)) ∧ (gR u (gR u p1 1) (p2 - (8 : Int32)).toNatClampNeg) ≠ 0 ∧ ∀ x7_15 : Nat, x7_15 = (gR u (gR u p1 1) (p2 - (8 : Int32)).toNatClampNeg) → kd G x7_15 = 0 ∧ ∀ x5_22 : Int32, x5_22 = (gI u x7_15 0) → ∀ x6_29 : Int32, x6_29 = (gI u x7_15 1) → V_X3_thiefRoots_64 G Q p0 p3 p4 x5_22 x6_29 u))
set_option maxHeartbeats 4000000 in
set_option maxRecDepth 100000 in
theorem b_X3_thiefRoots_64 {G : Gx} {Q : Int32 → Mm → Prop} {p : Program} {l : Launch} {e : Env} {s : State} {m : MethodId} {args : Array Value} {below : List Frame} {meth : Method} {c : Code} (C : Cx G p s m c cX3_thiefRoots RX3 8) (hr : meth.sig.returnType = (some .int)) (hlk : meth.locks = false) {x0 : Nat} {x3 : Int32} {x4 : Int32} {x5 : Int32} {x6 : Int32} {u : Mm} {H : Heap} {locs : List Loc} {ls : Array Slot} (h : V_X3_thiefRoots_64 G Q x0 x3 x4 x5 x6 u) (hl : lv_has ls 8 [(0, .ref x0), (3, .int x3), (4, .int x4), (5, .int x5), (6, .int x6)]) (hP : Hp G u s H locs) : W p l e rm_X3_thiefRoots s m args below meth c H locs 0 0 (MQ below (Ei G Q) args s 0 0 (ag G)) (F0 m 64 ls []) := by
  have hx := C.1
  have hb := C.2.1
  unfold V_X3_thiefRoots_64 at h
  refine lv_aload_n hx hb dX3_thiefRoots_64 rfl (lv_at hl 0 rfl) ?_
  obtain ⟨g1, h⟩ := h
  refine q_getIN C hP (k := 0) (lay_X6 C.hA) rfl (by decide) g1 (fn_X3_128 C.hA) dX3_thiefRoots_65 ?_
  refine lv_aload_n hx hb dX3_thiefRoots_68 rfl (lv_at hl 0 rfl) ?_
  refine q_getIN C hP (k := 1) (lay_X6 C.hA) rfl (by decide) g1 (fn_X3_131 C.hA) dX3_thiefRoots_69 ?_
  refine lv_iload hx hb dX3_thiefRoots_72 (lv_at hl 3 rfl) ?_
  refine lv_iload hx hb dX3_thiefRoots_74 (lv_at hl 4 rfl) ?_
  refine q_cali (q_runSN C hP (c_X11_distanceSquare h) (cd_X11_distanceSquare C.hA) (ini_X11 C.hA) (mn_X3_134 C.hA) (st_X11_distanceSquare C.hA) hd_X11_distanceSquare ⟨rfl, rfl⟩ ⟨Nat.le_of_ble_eq_true rfl, Nat.le_of_ble_eq_true rfl⟩ ⟨Nat.le_of_ble_eq_true rfl, Nat.le_of_ble_eq_true rfl⟩ hl.1 rfl (Nat.le_of_ble_eq_true rfl) dX3_thiefRoots_76) hP (fun v_76 u_76 H locs h hP => ?_)
  refine q_cali (q_runSN C hP (c_X11_wayRoot h) (cd_X11_wayRoot C.hA) (ini_X11 C.hA) (mn_X3_90 C.hA) (st_X11_wayRoot C.hA) hd_X11_wayRoot ⟨rfl, rfl⟩ ⟨Nat.le_of_ble_eq_true rfl, Nat.le_of_ble_eq_true rfl⟩ ⟨Nat.le_of_ble_eq_true rfl, Nat.le_of_ble_eq_true rfl⟩ hl.1 rfl (Nat.le_of_ble_eq_true rfl) dX3_thiefRoots_79) hP (fun v_79 u_79 H locs h hP => ?_)
  refine lv_iload hx hb dX3_thiefRoots_82 (lv_at hl 3 rfl) ?_
  refine lv_iload hx hb dX3_thiefRoots_84 (lv_at hl 4 rfl) ?_
  refine lv_iload_n hx hb dX3_thiefRoots_86 rfl (lv_at hl 1 rfl) ?_
  refine lv_iload hx hb dX3_thiefRoots_87 (lv_at hl 2 rfl) ?_
  refine q_cali (q_runSN C hP (c_X11_distanceSquare h) (cd_X11_distanceSquare C.hA) (ini_X11 C.hA) (mn_X3_134 C.hA) (st_X11_distanceSquare C.hA) hd_X11_distanceSquare ⟨rfl, rfl⟩ ⟨Nat.le_of_ble_eq_true rfl, Nat.le_of_ble_eq_true rfl⟩ ⟨Nat.le_of_ble_eq_true rfl, Nat.le_of_ble_eq_true rfl⟩ hl.1 rfl (Nat.le_of_ble_eq_true rfl) dX3_thiefRoots_89) hP (fun v_89 u_89 H locs h hP => ?_)
  refine q_cali (q_runSN C hP (c_X11_wayRoot h) (cd_X11_wayRoot C.hA) (ini_X11 C.hA) (mn_X3_90 C.hA) (st_X11_wayRoot C.hA) hd_X11_wayRoot ⟨rfl, rfl⟩ ⟨Nat.le_of_ble_eq_true rfl, Nat.le_of_ble_eq_true rfl⟩ ⟨Nat.le_of_ble_eq_true rfl, Nat.le_of_ble_eq_true rfl⟩ hl.1 rfl (Nat.le_of_ble_eq_true rfl) dX3_thiefRoots_92) hP (fun v_92 u_92 H locs h hP => ?_)
  refine lv_iadd hx hb dX3_thiefRoots_95 ?_
  exact q_iret C hr hlk hP h (by decide) (by decide) dX3_thiefRoots_96
set_option maxHeartbeats 4000000 in
set_option maxRecDepth 100000 in
theorem c_X3_thiefRoots {l : Launch} {G : Gx} {p0 : Nat} {p1 : Nat} {p2 : Int32} {p3 : Int32} {p4 : Int32} {u : Mm} {Q : Int32 → Mm → Prop} (h : V_X3_thiefRoots G p0 p1 p2 p3 p4 u Q) : Met l yX3_thiefRoots [.code yX3_thiefRoots cX3_thiefRoots 8 (some .int)] rm_X3_thiefRoots (va_Pc [.ref p0, .ref p1, .int p2, .int p3, .int p4] (Wd G u)) (Ei G Q) 0 0 (ag G) := by
  refine q_met (by decide) (Nat.le_of_ble_eq_true rfl) ?_
  intro p e s m below meth c ls C hr hlk hnm hl hP
  have hl : lv_has ls 8 [(0, .ref p0), (1, .ref p1), (2, .int p2), (3, .int p3), (4, .int p4)] := hl
  generalize ([.ref p0, .ref p1, .int p2, .int p3, .int p4] : List Value).toArray = args
  have hx := C.1
  have hb := C.2.1
  unfold V_X3_thiefRoots at h
  refine lv_iload_n hx hb dX3_thiefRoots_0 rfl (lv_at hl 2 rfl) ?_
  refine lv_bipush (v := (8 : Int32)) hx hb dX3_thiefRoots_1 (by decide) ?_
  refine lv_icmp_lt (tgt := 34) hx hb dX3_thiefRoots_3 (by decide) (fun c3 => ?_) (fun c3 => ?_)
  · have h := h.1 c3
    refine lv_aload_n hx hb dX3_thiefRoots_34 rfl (lv_at hl 1 rfl) ?_
    obtain ⟨g1, h⟩ := h
    obtain ⟨g2, h⟩ := h
    refine q_getRN C hP (k := 0) (lay_X4 C.hA) rfl (by decide) g1 g2 (fn_X3_150 C.hA) dX3_thiefRoots_35 ?_
    refine lv_iload_n hx hb dX3_thiefRoots_38 rfl (lv_at hl 2 rfl) ?_
    obtain ⟨g3, h⟩ := h
    obtain ⟨g4, h⟩ := h
    obtain ⟨g5, h⟩ := h
    refine q_aald C hP g3 (by decide) rfl g4 g5 dX3_thiefRoots_39 ?_
    refine q_topr (fun x7_40 ex7_40 => ?_)
    have h := h x7_40 ex7_40
    refine lv_astore (lv' := [(7, .ref x7_40), (0, .ref p0), (1, .ref p1), (2, .int p2), (3, .int p3), (4, .int p4)]) hx hb dX3_thiefRoots_40 hl (by decide) rfl (fun ls hl => ?_)
    refine lv_aload hx hb dX3_thiefRoots_42 (lv_at hl 0 rfl) ?_
    refine lv_aload_n hx hb dX3_thiefRoots_44 rfl (lv_at hl 1 rfl) ?_
    obtain ⟨g6, h⟩ := h
    refine q_getIN C hP (k := 0) (lay_X6 C.hA) rfl (by decide) g6 (fn_X3_128 C.hA) dX3_thiefRoots_45 ?_
    obtain ⟨g7, h⟩ := h
    refine q_cali (q_runVN C hP (c_X9_footX h) (cd_X9_footX C.hA) (ini_X9 C.hA) (mn_X3_154 C.hA) (im_X9_footX C.hA) (sl_X9_footX C.hA) g7 (by decide) rfl hd_X9_footX ⟨rfl, rfl⟩ ⟨Nat.le_of_ble_eq_true rfl, Nat.le_of_ble_eq_true rfl⟩ ⟨Nat.le_of_ble_eq_true rfl, Nat.le_of_ble_eq_true rfl⟩ hl.1 rfl (Nat.le_of_ble_eq_true rfl) dX3_thiefRoots_48) hP (fun v_48 u_48 H locs h hP => ?_)
    refine lv_istore (lv' := [(5, .int v_48), (7, .ref x7_40), (0, .ref p0), (1, .ref p1), (2, .int p2), (3, .int p3), (4, .int p4)]) hx hb dX3_thiefRoots_51 hl (by decide) rfl (fun ls hl => ?_)
    refine lv_aload hx hb dX3_thiefRoots_53 (lv_at hl 1 rfl) ?_
    refine lv_aload_n hx hb dX3_thiefRoots_55 rfl (lv_at hl 2 rfl) ?_
    refine q_getIN C hP (k := 1) (lay_X6 C.hA) rfl (by decide) g6 (fn_X3_131 C.hA) dX3_thiefRoots_56 ?_
    refine q_cali (q_runVN C hP (c_X9_footY h) (cd_X9_footY C.hA) (ini_X9 C.hA) (mn_X3_159 C.hA) (im_X9_footY C.hA) (sl_X9_footY C.hA) g7 (by decide) rfl hd_X9_footY ⟨rfl, rfl⟩ ⟨Nat.le_of_ble_eq_true rfl, Nat.le_of_ble_eq_true rfl⟩ ⟨Nat.le_of_ble_eq_true rfl, Nat.le_of_ble_eq_true rfl⟩ hl.1 rfl (Nat.le_of_ble_eq_true rfl) dX3_thiefRoots_59) hP (fun v_59 u_59 H locs h hP => ?_)
    refine lv_istore (lv' := [(6, .int v_59), (5, .int v_48), (7, .ref x7_40), (0, .ref p0), (1, .ref p1), (2, .int p2), (3, .int p3), (4, .int p4)]) hx hb dX3_thiefRoots_62 hl (by decide) rfl (fun ls hl => ?_)
    exact b_X3_thiefRoots_64 C hr hlk h (lv_sub hl [3, 6, 7, 1, 0] rfl) hP
  · have h := h.2 c3
    refine lv_aload_n hx hb dX3_thiefRoots_6 rfl (lv_at hl 1 rfl) ?_
    obtain ⟨g8, h⟩ := h
    obtain ⟨g9, h⟩ := h
    refine q_getRN C hP (k := 1) (lay_X4 C.hA) rfl (by decide) g8 g9 (fn_X3_142 C.hA) dX3_thiefRoots_7 ?_
    refine lv_iload_n hx hb dX3_thiefRoots_10 rfl (lv_at hl 2 rfl) ?_
    refine lv_bipush (v := (8 : Int32)) hx hb dX3_thiefRoots_11 (by decide) ?_
    refine lv_isub hx hb dX3_thiefRoots_13 ?_
    obtain ⟨g10, h⟩ := h
    obtain ⟨g11, h⟩ := h
    obtain ⟨g12, h⟩ := h
    refine q_aald C hP g10 (by decide) rfl g11 g12 dX3_thiefRoots_14 ?_
    refine q_topr (fun x7_15 ex7_15 => ?_)
    have h := h x7_15 ex7_15
    refine lv_astore (lv' := [(7, .ref x7_15), (0, .ref p0), (1, .ref p1), (2, .int p2), (3, .int p3), (4, .int p4)]) hx hb dX3_thiefRoots_15 hl (by decide) rfl (fun ls hl => ?_)
    refine lv_aload hx hb dX3_thiefRoots_17 (lv_at hl 0 rfl) ?_
    obtain ⟨g13, h⟩ := h
    refine q_getIN C hP (k := 0) (lay_X0 C.hA) rfl (by decide) g13 (fn_X3_146 C.hA) dX3_thiefRoots_19 ?_
    refine lv_topi (fun x5_22 ex5_22 => ?_)
    have h := h x5_22 ex5_22
    refine lv_istore (lv' := [(5, .int x5_22), (7, .ref x7_15), (0, .ref p0), (1, .ref p1), (2, .int p2), (3, .int p3), (4, .int p4)]) hx hb dX3_thiefRoots_22 hl (by decide) rfl (fun ls hl => ?_)
    refine lv_aload hx hb dX3_thiefRoots_24 (lv_at hl 1 rfl) ?_
    refine q_getIN C hP (k := 1) (lay_X0 C.hA) rfl (by decide) g13 (fn_X3_149 C.hA) dX3_thiefRoots_26 ?_
    refine lv_topi (fun x6_29 ex6_29 => ?_)
    have h := h x6_29 ex6_29
    refine lv_istore (lv' := [(6, .int x6_29), (5, .int x5_22), (7, .ref x7_15), (0, .ref p0), (1, .ref p1), (2, .int p2), (3, .int p3), (4, .int p4)]) hx hb dX3_thiefRoots_29 hl (by decide) rfl (fun ls hl => ?_)
    refine lv_goto (tgt := 64) hx hb dX3_thiefRoots_31 (by decide) ?_
    exact b_X3_thiefRoots_64 C hr hlk h (lv_sub hl [3, 6, 7, 1, 0] rfl) hP
-- X3_orderForThief
abbrev rm_X3_orderForThief : Room := { frames := 2, cells := 0, slots := 0, locals := 51 }
theorem hd_X3_orderForThief : yX3_orderForThief.cls ≠ "java/lang/invoke/MethodHandle" ∧ yX3_orderForThief.cls ≠ "java/lang/invoke/VarHandle" ∧ (parseMethodDescriptor yX3_orderForThief.desc).map (fun d => d.parameters.length) = some 5 := by decide +kernel
def V_X3_orderForThief_126 (G : Gx) (Q : Mm → Prop) (k_32 : Nat → Nat → Nat → Int32 → Int32 → Nat → Int32 → Int32 → Int32 → Mm → Prop) (x0 : Nat) (x1 : Nat) (x2 : Nat) (x3 : Int32) (x4 : Int32) (x5 : Nat) (x6 : Int32) (x7 : Int32) (x8 : Int32) (u : Mm) : Prop :=
  ∀ x8_126 : Int32, x8_126 = x8 + (1 : Int32) → k_32 x0 x1 x2 x3 x4 x5 x6 x7 x8_126 u
def V_X3_orderForThief_58 (G : Gx) (Q : Mm → Prop) (k_32 : Nat → Nat → Nat → Int32 → Int32 → Nat → Int32 → Int32 → Int32 → Mm → Prop) (x0 : Nat) (x1 : Nat) (x2 : Nat) (x3 : Int32) (x4 : Int32) (x5 : Nat) (x6 : Int32) (x7 : Int32) (x8 : Int32) (t0 : Int32) (u : Mm) : Prop :=
  ((t0 = 0 → V_X3_orderForThief_126 G Q k_32 x0 x1 x2 x3 x4 x5 x6 x7 x8 u) ∧ (¬ t0 = 0 → kd G x0 = 3 ∧ (gR u x0 3) ≠ 0 ∧ kd G (gR u x0 3) = 13 ∧ vp_in x8 (ln G (gR u x0 3)) ∧ kd G x2 = 4 ∧ (((gI u (gR u x0 3) x8.toNatClampNeg) < (gI u x2 6) → V_X3_orderForThief_126 G Q k_32 x0 x1 x2 x3 x4 x5 x6 x7 x8 u) ∧ (¬ (gI u (gR u x0 3) x8.toNatClampNeg) < (gI u x2 6) → kd G x5 = 13 ∧ (((nI (ln G x5)) ≤ x7 → V_X3_orderForThief_126 G Q k_32 x0 x1 x2 x3 x4 x5 x6 x7 x8 u) ∧ (¬ (nI (ln G x5)) ≤ x7 → (gR u x0 1) ≠ 0 ∧ kd G (gR u x0 1) = 13 ∧ vp_in x8 (ln G (gR u x0 1)) ∧ V_X3_thiefRoots G x1 x2 (gI u (gR u x0 1) x8.toNatClampNeg) x3 x4 u (fun (v_99 : Int32) (u_99 : Mm) => V_X11_byAir G v_99 (gI u_99 x2 7) u_99 (fun (v_114 : Int32) (u_114 : Mm) => V_X11_insert G x5 x7 (v_114 - x6) u_114 (fun (u_120 : Mm) => ∀ x7_123 : Int32, x7_123 = x7 + (1 : Int32) → V_X3_orderForThief_126 G Q k_32 x0 x1 x2 x3 x4 x5 x6 x7_123 x8 u_120)))))))))
def V_X3_orderForThief_32_B (G : Gx) (Q : Mm → Prop) (k_32 : Nat → Nat → Nat → Int32 → Int32 → Nat → Int32 → Int32 → Int32 → Mm → Prop) (x0 : Nat) (x1 : Nat) (x2 : Nat) (x3 : Int32) (x4 : Int32) (x5 : Nat) (x6 : Int32) (x7 : Int32) (x8 : Int32) (u : Mm) : Prop :=
  kd G x0 = 3 ∧ (((gI u x0 0) ≤ x8 → Q u) ∧ (¬ (gI u x0 0) ≤ x8 → (gR u x0 1) ≠ 0 ∧ kd G (gR u x0 1) = 13 ∧ vp_in x8 (ln G (gR u x0 1)) ∧ (((16 : Int32) ≤ (gI u (gR u x0 1) x8.toNatClampNeg) → V_X3_orderForThief_58 G Q k_32 x0 x1 x2 x3 x4 x5 x6 x7 x8 (0 : Int32) u) ∧ (¬ (16 : Int32) ≤ (gI u (gR u x0 1) x8.toNatClampNeg) → V_X3_orderForThief_58 G Q k_32 x0 x1 x2 x3 x4 x5 x6 x7 x8 (1 : Int32) u))))
def V_X3_orderForThief_32 (G : Gx) (Q : Mm → Prop) : Nat → (Nat → Nat → Nat → Int32 → Int32 → Nat → Int32 → Int32 → Int32 → Mm → Prop)
  | 0 => fun _ _ _ _ _ _ _ _ _ _ => False
  | n + 1 => fun x0 x1 x2 x3 x4 x5 x6 x7 x8 u => V_X3_orderForThief_32_B G Q (V_X3_orderForThief_32 G Q n) x0 x1 x2 x3 x4 x5 x6 x7 x8 u
def V_X3_orderForThief (G : Gx) (p0 : Nat) (p1 : Nat) (p2 : Nat) (p3 : Int32) (p4 : Int32) (p5 : Nat) (u : Mm) (Q : Mm → Prop) : Prop :=
  kd G p1 = 6 ∧ V_X11_distanceSquare G (gI u p1 0) (gI u p1 1) p3 p4 u (fun (v_11 : Int32) (u_11 : Mm) => V_X11_wayRoot G v_11 u_11 (fun (v_14 : Int32) (u_14 : Mm) => kd G p2 = 4 ∧ V_X11_byAir G v_14 (gI u_14 p2 7) u_14 (fun (v_21 : Int32) (u_21 : Mm) => ∃ n : Nat, V_X3_orderForThief_32 G Q n p0 p1 p2 p3 p4 p5 v_21 (0 : Int32) (0 : Int32) u_21)))
set_option maxHeartbeats 4000000 in
set_option maxRecDepth 100000 in
theorem b_X3_orderForThief_126 {G : Gx} {Q : Mm → Prop} {p : Program} {l : Launch} {e : Env} {s : State} {m : MethodId} {args : Array Value} {below : List Frame} {meth : Method} {c : Code} (C : Cx G p s m c cX3_orderForThief RX3 11) (hr : meth.sig.returnType = none) (hlk : meth.locks = false) {k_32 : Nat → Nat → Nat → Int32 → Int32 → Nat → Int32 → Int32 → Int32 → Mm → Prop} (hk_32 : ∀ (x0 : Nat) (x1 : Nat) (x2 : Nat) (x3 : Int32) (x4 : Int32) (x5 : Nat) (x6 : Int32) (x7 : Int32) (x8 : Int32) (u : Mm) (H : Heap) (locs : List Loc) (ls : Array Slot), k_32 x0 x1 x2 x3 x4 x5 x6 x7 x8 u → lv_has ls 11 [(0, .ref x0), (1, .ref x1), (2, .ref x2), (3, .int x3), (4, .int x4), (5, .ref x5), (6, .int x6), (7, .int x7), (8, .int x8)] → Hp G u s H locs → W p l e rm_X3_orderForThief s m args below meth c H locs 0 0 (MQ below (Ev G Q) args s 0 0 (ag G)) (F0 m 32 ls [])) {x0 : Nat} {x1 : Nat} {x2 : Nat} {x3 : Int32} {x4 : Int32} {x5 : Nat} {x6 : Int32} {x7 : Int32} {x8 : Int32} {u : Mm} {H : Heap} {locs : List Loc} {ls : Array Slot} (h : V_X3_orderForThief_126 G Q k_32 x0 x1 x2 x3 x4 x5 x6 x7 x8 u) (hl : lv_has ls 11 [(0, .ref x0), (1, .ref x1), (2, .ref x2), (3, .int x3), (4, .int x4), (5, .ref x5), (6, .int x6), (7, .int x7), (8, .int x8)]) (hP : Hp G u s H locs) : W p l e rm_X3_orderForThief s m args below meth c H locs 0 0 (MQ below (Ev G Q) args s 0 0 (ag G)) (F0 m 126 ls []) := by
  have hx := C.1
  have hb := C.2.1
  unfold V_X3_orderForThief_126 at h
  obtain ⟨x8_126, ex8_126⟩ : ∃ y : Int32, y = x8 + (1 : Int32) := ⟨_, rfl⟩
  have h := h x8_126 ex8_126
  refine lv_iinc (v := x8_126) (lv' := [(8, .int x8_126), (0, .ref x0), (1, .ref x1), (2, .ref x2), (3, .int x3), (4, .int x4), (5, .ref x5), (6, .int x6), (7, .int x7)]) hx hb dX3_orderForThief_126 hl (k := 8) rfl (by rw [ex8_126]; rfl) (by decide) rfl (fun ls hl => ?_)
  refine lv_goto (tgt := 32) hx hb dX3_orderForThief_129 (by decide) ?_
  exact hk_32 x0 x1 x2 x3 x4 x5 x6 x7 x8_126 u _ _ _ h (lv_sub hl [1, 2, 3, 4, 5, 6, 7, 8, 0] rfl) hP
set_option maxHeartbeats 4000000 in
set_option maxRecDepth 100000 in
theorem b_X3_orderForThief_58 {G : Gx} {Q : Mm → Prop} {p : Program} {l : Launch} {e : Env} {s : State} {m : MethodId} {args : Array Value} {below : List Frame} {meth : Method} {c : Code} (C : Cx G p s m c cX3_orderForThief RX3 11) (hr : meth.sig.returnType = none) (hlk : meth.locks = false) {k_32 : Nat → Nat → Nat → Int32 → Int32 → Nat → Int32 → Int32 → Int32 → Mm → Prop} (hk_32 : ∀ (x0 : Nat) (x1 : Nat) (x2 : Nat) (x3 : Int32) (x4 : Int32) (x5 : Nat) (x6 : Int32) (x7 : Int32) (x8 : Int32) (u : Mm) (H : Heap) (locs : List Loc) (ls : Array Slot), k_32 x0 x1 x2 x3 x4 x5 x6 x7 x8 u → lv_has ls 11 [(0, .ref x0), (1, .ref x1), (2, .ref x2), (3, .int x3), (4, .int x4), (5, .ref x5), (6, .int x6), (7, .int x7), (8, .int x8)] → Hp G u s H locs → W p l e rm_X3_orderForThief s m args below meth c H locs 0 0 (MQ below (Ev G Q) args s 0 0 (ag G)) (F0 m 32 ls [])) {x0 : Nat} {x1 : Nat} {x2 : Nat} {x3 : Int32} {x4 : Int32} {x5 : Nat} {x6 : Int32} {x7 : Int32} {x8 : Int32} {t0 : Int32} {u : Mm} {H : Heap} {locs : List Loc} {ls : Array Slot} (h : V_X3_orderForThief_58 G Q k_32 x0 x1 x2 x3 x4 x5 x6 x7 x8 t0 u) (hl : lv_has ls 11 [(0, .ref x0), (1, .ref x1), (2, .ref x2), (3, .int x3), (4, .int x4), (5, .ref x5), (6, .int x6), (7, .int x7), (8, .int x8)]) (hP : Hp G u s H locs) : W p l e rm_X3_orderForThief s m args below meth c H locs 0 0 (MQ below (Ev G Q) args s 0 0 (ag G)) (F0 m 58 ls [.int t0]) := by
  have hx := C.1
  have hb := C.2.1
  unfold V_X3_orderForThief_58 at h
  refine lv_istore (lv' := [(9, .int t0), (0, .ref x0), (1, .ref x1), (2, .ref x2), (3, .int x3), (4, .int x4), (5, .ref x5), (6, .int x6), (7, .int x7), (8, .int x8)]) hx hb dX3_orderForThief_58 hl (by decide) rfl (fun ls hl => ?_)
  refine lv_iload hx hb dX3_orderForThief_60 (lv_at hl 0 rfl) ?_
  refine lv_if_eq (tgt := 126) hx hb dX3_orderForThief_62 (by decide) (fun c62 => ?_) (fun c62 => ?_)
  · have h := h.1 c62
    exact b_X3_orderForThief_126 C hr hlk hk_32 h (lv_sub hl [1, 2, 3, 4, 5, 6, 7, 8, 9] rfl) hP
  · have h := h.2 c62
    refine lv_aload_n hx hb dX3_orderForThief_65 rfl (lv_at hl 1 rfl) ?_
    obtain ⟨g1, h⟩ := h
    obtain ⟨g2, h⟩ := h
    refine q_getR C hP (k := 3) (lay_X3 C.hA) rfl (by decide) g1 g2 (fl_X3_18 C.hA) dX3_orderForThief_66 ?_
    refine lv_iload hx hb dX3_orderForThief_69 (lv_at hl 9 rfl) ?_
    obtain ⟨g3, h⟩ := h
    obtain ⟨g4, h⟩ := h
    refine q_iald C hP g3 g4 dX3_orderForThief_71 ?_
    refine lv_aload_n hx hb dX3_orderForThief_72 rfl (lv_at hl 3 rfl) ?_
    obtain ⟨g5, h⟩ := h
    refine q_getIN C hP (k := 6) (lay_X4 C.hA) rfl (by decide) g5 (fn_X3_100 C.hA) dX3_orderForThief_73 ?_
    refine lv_icmp_lt (tgt := 126) hx hb dX3_orderForThief_76 (by decide) (fun c76 => ?_) (fun c76 => ?_)
    · have h := h.1 c76
      exact b_X3_orderForThief_126 C hr hlk hk_32 h (lv_sub hl [1, 2, 3, 4, 5, 6, 7, 8, 9] rfl) hP
    · have h := h.2 c76
      refine lv_iload hx hb dX3_orderForThief_79 (lv_at hl 8 rfl) ?_
      refine lv_aload hx hb dX3_orderForThief_81 (lv_at hl 6 rfl) ?_
      obtain ⟨g6, h⟩ := h
      refine q_alen C hP g6 (by decide) dX3_orderForThief_83 ?_
      refine lv_icmp_ge (tgt := 126) hx hb dX3_orderForThief_84 (by decide) (fun c84 => ?_) (fun c84 => ?_)
      · have h := h.1 c84
        exact b_X3_orderForThief_126 C hr hlk hk_32 h (lv_sub hl [1, 2, 3, 4, 5, 6, 7, 8, 9] rfl) hP
      · have h := h.2 c84
        refine lv_aload_n hx hb dX3_orderForThief_87 rfl (lv_at hl 2 rfl) ?_
        refine lv_aload_n hx hb dX3_orderForThief_88 rfl (lv_at hl 3 rfl) ?_
        refine lv_aload_n hx hb dX3_orderForThief_89 rfl (lv_at hl 1 rfl) ?_
        obtain ⟨g7, h⟩ := h
        refine q_getR C hP (k := 1) (lay_X3 C.hA) rfl (by decide) g1 g7 (fl_X3_9 C.hA) dX3_orderForThief_90 ?_
        refine lv_iload hx hb dX3_orderForThief_93 (lv_at hl 9 rfl) ?_
        obtain ⟨g8, h⟩ := h
        obtain ⟨g9, h⟩ := h
        refine q_iald C hP g8 g9 dX3_orderForThief_95 ?_
        refine lv_iload_n hx hb dX3_orderForThief_96 rfl (lv_at hl 4 rfl) ?_
        refine lv_iload hx hb dX3_orderForThief_97 (lv_at hl 5 rfl) ?_
        refine q_cali (q_runS C hP (c_X3_thiefRoots h) (cd_X3_thiefRoots C.hA) (ini_X3 C.hA) (ml_X3_138 C.hA) (st_X3_thiefRoots C.hA) hd_X3_thiefRoots ⟨rfl, rfl⟩ ⟨Nat.le_of_ble_eq_true rfl, Nat.le_of_ble_eq_true rfl⟩ ⟨Nat.le_of_ble_eq_true rfl, Nat.le_of_ble_eq_true rfl⟩ hl.1 rfl (Nat.le_of_ble_eq_true rfl) dX3_orderForThief_99) hP (fun v_99 u_99 H locs h hP => ?_)
        refine lv_istore (lv' := [(10, .int v_99), (9, .int t0), (0, .ref x0), (1, .ref x1), (2, .ref x2), (3, .int x3), (4, .int x4), (5, .ref x5), (6, .int x6), (7, .int x7), (8, .int x8)]) hx hb dX3_orderForThief_102 hl (by decide) rfl (fun ls hl => ?_)
        refine lv_aload hx hb dX3_orderForThief_104 (lv_at hl 7 rfl) ?_
        refine lv_iload hx hb dX3_orderForThief_106 (lv_at hl 9 rfl) ?_
        refine lv_iload hx hb dX3_orderForThief_108 (lv_at hl 0 rfl) ?_
        refine lv_aload_n hx hb dX3_orderForThief_110 rfl (lv_at hl 4 rfl) ?_
        refine q_getIN C hP (k := 7) (lay_X4 C.hA) rfl (by decide) g5 (fn_X3_117 C.hA) dX3_orderForThief_111 ?_
        refine q_cali (q_runSN C hP (c_X11_byAir h) (cd_X11_byAir C.hA) (ini_X11 C.hA) (mn_X3_97 C.hA) (st_X11_byAir C.hA) hd_X11_byAir ⟨rfl, rfl⟩ ⟨Nat.le_of_ble_eq_true rfl, Nat.le_of_ble_eq_true rfl⟩ ⟨Nat.le_of_ble_eq_true rfl, Nat.le_of_ble_eq_true rfl⟩ hl.1 rfl (Nat.le_of_ble_eq_true rfl) dX3_orderForThief_114) hP (fun v_114 u_114 H locs h hP => ?_)
        refine lv_iload hx hb dX3_orderForThief_117 (lv_at hl 8 rfl) ?_
        refine lv_isub hx hb dX3_orderForThief_119 ?_
        refine q_calv (q_runSN C hP (c_X11_insert h) (cd_X11_insert C.hA) (ini_X11 C.hA) (mn_X3_93 C.hA) (st_X11_insert C.hA) hd_X11_insert ⟨rfl, rfl⟩ ⟨Nat.le_of_ble_eq_true rfl, Nat.le_of_ble_eq_true rfl⟩ ⟨Nat.le_of_ble_eq_true rfl, Nat.le_of_ble_eq_true rfl⟩ hl.1 rfl (Nat.le_of_ble_eq_true rfl) dX3_orderForThief_120) hP (fun u_120 H locs h hP => ?_)
        obtain ⟨x7_123, ex7_123⟩ : ∃ y : Int32, y = x7 + (1 : Int32) := ⟨_, rfl⟩
        have h := h x7_123 ex7_123
        refine lv_iinc (v := x7_123) (lv' := [(7, .int x7_123), (10, .int v_99), (9, .int t0), (0, .ref x0), (1, .ref x1), (2, .ref x2), (3, .int x3), (4, .int x4), (5, .ref x5), (6, .int x6), (8, .int x8)]) hx hb dX3_orderForThief_123 hl (k := 9) rfl (by rw [ex7_123]; rfl) (by decide) rfl (fun ls hl => ?_)
        exact b_X3_orderForThief_126 C hr hlk hk_32 h (lv_sub hl [3, 4, 5, 6, 7, 8, 9, 0, 10] rfl) hP
set_option maxHeartbeats 4000000 in
set_option maxRecDepth 100000 in
theorem b_X3_orderForThief_32 {G : Gx} {Q : Mm → Prop} {p : Program} {l : Launch} {e : Env} {s : State} {m : MethodId} {args : Array Value} {below : List Frame} {meth : Method} {c : Code} (C : Cx G p s m c cX3_orderForThief RX3 11) (hr : meth.sig.returnType = none) (hlk : meth.locks = false) {k_32 : Nat → Nat → Nat → Int32 → Int32 → Nat → Int32 → Int32 → Int32 → Mm → Prop} (hk_32 : ∀ (x0 : Nat) (x1 : Nat) (x2 : Nat) (x3 : Int32) (x4 : Int32) (x5 : Nat) (x6 : Int32) (x7 : Int32) (x8 : Int32) (u : Mm) (H : Heap) (locs : List Loc) (ls : Array Slot), k_32 x0 x1 x2 x3 x4 x5 x6 x7 x8 u → lv_has ls 11 [(0, .ref x0), (1, .ref x1), (2, .ref x2), (3, .int x3), (4, .int x4), (5, .ref x5), (6, .int x6), (7, .int x7), (8, .int x8)] → Hp G u s H locs → W p l e rm_X3_orderForThief s m args below meth c H locs 0 0 (MQ below (Ev G Q) args s 0 0 (ag G)) (F0 m 32 ls [])) {x0 : Nat} {x1 : Nat} {x2 : Nat} {x3 : Int32} {x4 : Int32} {x5 : Nat} {x6 : Int32} {x7 : Int32} {x8 : Int32} {u : Mm} {H : Heap} {locs : List Loc} {ls : Array Slot} (h : V_X3_orderForThief_32_B G Q k_32 x0 x1 x2 x3 x4 x5 x6 x7 x8 u) (hl : lv_has ls 11 [(0, .ref x0), (1, .ref x1), (2, .ref x2), (3, .int x3), (4, .int x4), (5, .ref x5), (6, .int x6), (7, .int x7), (8, .int x8)]) (hP : Hp G u s H locs) : W p l e rm_X3_orderForThief s m args below meth c H locs 0 0 (MQ below (Ev G Q) args s 0 0 (ag G)) (F0 m 32 ls []) := by
  have hx := C.1
  have hb := C.2.1
  unfold V_X3_orderForThief_32_B at h
  refine lv_iload hx hb dX3_orderForThief_32 (lv_at hl 8 rfl) ?_
  refine lv_aload_n hx hb dX3_orderForThief_34 rfl (lv_at hl 0 rfl) ?_
  obtain ⟨g1, h⟩ := h
  refine q_getI C hP (k := 0) (lay_X3 C.hA) rfl (by decide) g1 (fl_X3_29 C.hA) dX3_orderForThief_35 ?_
  refine lv_icmp_ge (tgt := 132) hx hb dX3_orderForThief_38 (by decide) (fun c38 => ?_) (fun c38 => ?_)
  · have h := h.1 c38
    exact q_vret C hr hlk hP h (by decide) (by decide) dX3_orderForThief_132
  · have h := h.2 c38
    refine lv_aload_n hx hb dX3_orderForThief_41 rfl (lv_at hl 0 rfl) ?_
    obtain ⟨g2, h⟩ := h
    refine q_getR C hP (k := 1) (lay_X3 C.hA) rfl (by decide) g1 g2 (fl_X3_9 C.hA) dX3_orderForThief_42 ?_
    refine lv_iload hx hb dX3_orderForThief_45 (lv_at hl 8 rfl) ?_
    obtain ⟨g3, h⟩ := h
    obtain ⟨g4, h⟩ := h
    refine q_iald C hP g3 g4 dX3_orderForThief_47 ?_
    refine lv_bipush (v := (16 : Int32)) hx hb dX3_orderForThief_48 (by decide) ?_
    refine lv_icmp_ge (tgt := 57) hx hb dX3_orderForThief_50 (by decide) (fun c50 => ?_) (fun c50 => ?_)
    · have h := h.1 c50
      refine lv_iconst (v := (0 : Int32)) hx hb dX3_orderForThief_57 (by decide) ?_
      exact b_X3_orderForThief_58 C hr hlk hk_32 h (lv_sub hl [0, 1, 2, 3, 4, 5, 6, 7, 8] rfl) hP
    · have h := h.2 c50
      refine lv_iconst (v := (1 : Int32)) hx hb dX3_orderForThief_53 (by decide) ?_
      refine lv_goto (tgt := 58) hx hb dX3_orderForThief_54 (by decide) ?_
      exact b_X3_orderForThief_58 C hr hlk hk_32 h (lv_sub hl [0, 1, 2, 3, 4, 5, 6, 7, 8] rfl) hP
theorem l_X3_orderForThief_32 {G : Gx} {Q : Mm → Prop} {p : Program} {l : Launch} {e : Env} {s : State} {m : MethodId} {args : Array Value} {below : List Frame} {meth : Method} {c : Code} (C : Cx G p s m c cX3_orderForThief RX3 11) (hr : meth.sig.returnType = none) (hlk : meth.locks = false) : ∀ (n : Nat) (x0 : Nat) (x1 : Nat) (x2 : Nat) (x3 : Int32) (x4 : Int32) (x5 : Nat) (x6 : Int32) (x7 : Int32) (x8 : Int32) (u : Mm) (H : Heap) (locs : List Loc) (ls : Array Slot), V_X3_orderForThief_32 G Q n x0 x1 x2 x3 x4 x5 x6 x7 x8 u → lv_has ls 11 [(0, .ref x0), (1, .ref x1), (2, .ref x2), (3, .int x3), (4, .int x4), (5, .ref x5), (6, .int x6), (7, .int x7), (8, .int x8)] → Hp G u s H locs → W p l e rm_X3_orderForThief s m args below meth c H locs 0 0 (MQ below (Ev G Q) args s 0 0 (ag G)) (F0 m 32 ls []) := by
  intro n
  induction n with
  | zero => intro x0 x1 x2 x3 x4 x5 x6 x7 x8 u H locs ls h; exact h.elim
  | succ n ih => intro x0 x1 x2 x3 x4 x5 x6 x7 x8 u H locs ls h hl hP; exact b_X3_orderForThief_32 C hr hlk ih h hl hP
set_option maxHeartbeats 4000000 in
set_option maxRecDepth 100000 in
theorem c_X3_orderForThief {l : Launch} {G : Gx} {p0 : Nat} {p1 : Nat} {p2 : Nat} {p3 : Int32} {p4 : Int32} {p5 : Nat} {u : Mm} {Q : Mm → Prop} (h : V_X3_orderForThief G p0 p1 p2 p3 p4 p5 u Q) : Met l yX3_orderForThief [.code yX3_orderForThief cX3_orderForThief 11 none] rm_X3_orderForThief (va_Pc [.ref p0, .ref p1, .ref p2, .int p3, .int p4, .ref p5] (Wd G u)) (Ev G Q) 0 0 (ag G) := by
  refine q_met (by decide) (Nat.le_of_ble_eq_true rfl) ?_
  intro p e s m below meth c ls C hr hlk hnm hl hP
  have hl : lv_has ls 11 [(0, .ref p0), (1, .ref p1), (2, .ref p2), (3, .int p3), (4, .int p4), (5, .ref p5)] := hl
  generalize ([.ref p0, .ref p1, .ref p2, .int p3, .int p4, .ref p5] : List Value).toArray = args
  have hx := C.1
  have hb := C.2.1
  unfold V_X3_orderForThief at h
  refine lv_aload_n hx hb dX3_orderForThief_0 rfl (lv_at hl 1 rfl) ?_
  obtain ⟨g1, h⟩ := h
  refine q_getIN C hP (k := 0) (lay_X6 C.hA) rfl (by decide) g1 (fn_X3_128 C.hA) dX3_orderForThief_1 ?_
  refine lv_aload_n hx hb dX3_orderForThief_4 rfl (lv_at hl 1 rfl) ?_
  refine q_getIN C hP (k := 1) (lay_X6 C.hA) rfl (by decide) g1 (fn_X3_131 C.hA) dX3_orderForThief_5 ?_
  refine lv_iload_n hx hb dX3_orderForThief_8 rfl (lv_at hl 3 rfl) ?_
  refine lv_iload hx hb dX3_orderForThief_9 (lv_at hl 4 rfl) ?_
  refine q_cali (q_runSN C hP (c_X11_distanceSquare h) (cd_X11_distanceSquare C.hA) (ini_X11 C.hA) (mn_X3_134 C.hA) (st_X11_distanceSquare C.hA) hd_X11_distanceSquare ⟨rfl, rfl⟩ ⟨Nat.le_of_ble_eq_true rfl, Nat.le_of_ble_eq_true rfl⟩ ⟨Nat.le_of_ble_eq_true rfl, Nat.le_of_ble_eq_true rfl⟩ hl.1 rfl (Nat.le_of_ble_eq_true rfl) dX3_orderForThief_11) hP (fun v_11 u_11 H locs h hP => ?_)
  refine q_cali (q_runSN C hP (c_X11_wayRoot h) (cd_X11_wayRoot C.hA) (ini_X11 C.hA) (mn_X3_90 C.hA) (st_X11_wayRoot C.hA) hd_X11_wayRoot ⟨rfl, rfl⟩ ⟨Nat.le_of_ble_eq_true rfl, Nat.le_of_ble_eq_true rfl⟩ ⟨Nat.le_of_ble_eq_true rfl, Nat.le_of_ble_eq_true rfl⟩ hl.1 rfl (Nat.le_of_ble_eq_true rfl) dX3_orderForThief_14) hP (fun v_14 u_14 H locs h hP => ?_)
  refine lv_aload_n hx hb dX3_orderForThief_17 rfl (lv_at hl 2 rfl) ?_
  obtain ⟨g2, h⟩ := h
  refine q_getIN C hP (k := 7) (lay_X4 C.hA) rfl (by decide) g2 (fn_X3_117 C.hA) dX3_orderForThief_18 ?_
  refine q_cali (q_runSN C hP (c_X11_byAir h) (cd_X11_byAir C.hA) (ini_X11 C.hA) (mn_X3_97 C.hA) (st_X11_byAir C.hA) hd_X11_byAir ⟨rfl, rfl⟩ ⟨Nat.le_of_ble_eq_true rfl, Nat.le_of_ble_eq_true rfl⟩ ⟨Nat.le_of_ble_eq_true rfl, Nat.le_of_ble_eq_true rfl⟩ hl.1 rfl (Nat.le_of_ble_eq_true rfl) dX3_orderForThief_21) hP (fun v_21 u_21 H locs h hP => ?_)
  refine lv_istore (lv' := [(6, .int v_21), (0, .ref p0), (1, .ref p1), (2, .ref p2), (3, .int p3), (4, .int p4), (5, .ref p5)]) hx hb dX3_orderForThief_24 hl (by decide) rfl (fun ls hl => ?_)
  refine lv_iconst (v := (0 : Int32)) hx hb dX3_orderForThief_26 (by decide) ?_
  refine lv_istore (lv' := [(7, .int (0 : Int32)), (6, .int v_21), (0, .ref p0), (1, .ref p1), (2, .ref p2), (3, .int p3), (4, .int p4), (5, .ref p5)]) hx hb dX3_orderForThief_27 hl (by decide) rfl (fun ls hl => ?_)
  refine lv_iconst (v := (0 : Int32)) hx hb dX3_orderForThief_29 (by decide) ?_
  refine lv_istore (lv' := [(8, .int (0 : Int32)), (7, .int (0 : Int32)), (6, .int v_21), (0, .ref p0), (1, .ref p1), (2, .ref p2), (3, .int p3), (4, .int p4), (5, .ref p5)]) hx hb dX3_orderForThief_30 hl (by decide) rfl (fun ls hl => ?_)
  obtain ⟨n, h⟩ := h
  exact l_X3_orderForThief_32 C hr hlk n p0 p1 p2 p3 p4 p5 v_21 (0 : Int32) (0 : Int32) u_21 _ _ _ h (lv_sub hl [3, 4, 5, 6, 7, 8, 2, 1, 0] rfl) hP
-- X1_empty
abbrev rm_X1_empty : Room := { frames := 0, cells := 0, slots := 0, locals := 0 }
theorem hd_X1_empty : yX1_empty.cls ≠ "java/lang/invoke/MethodHandle" ∧ yX1_empty.cls ≠ "java/lang/invoke/VarHandle" ∧ (parseMethodDescriptor yX1_empty.desc).map (fun d => d.parameters.length) = some 0 := by decide +kernel
def V_X1_empty (G : Gx) (p0 : Nat) (u : Mm) (Q : Mm → Prop) : Prop :=
  kd G p0 = 1 ∧ ∀ u_2 : Mm, u_2 = sI u p0 1 (0 : Int32) → ∀ u_7 : Mm, u_7 = sI u_2 p0 4 (0 : Int32) → Q u_7
set_option maxHeartbeats 4000000 in
set_option maxRecDepth 100000 in
theorem c_X1_empty {l : Launch} {G : Gx} {p0 : Nat} {u : Mm} {Q : Mm → Prop} (h : V_X1_empty G p0 u Q) : Met l yX1_empty [.code yX1_empty cX1_empty 1 none] rm_X1_empty (va_Pc [.ref p0] (Wd G u)) (Ev G Q) 0 0 (ag G) := by
  refine q_met (by decide) (Nat.le_of_ble_eq_true rfl) ?_
  intro p e s m below meth c ls C hr hlk hnm hl hP
  have hl : lv_has ls 1 [(0, .ref p0)] := hl
  generalize ([.ref p0] : List Value).toArray = args
  have hx := C.1
  have hb := C.2.1
  unfold V_X1_empty at h
  refine lv_aload_n hx hb dX1_empty_0 rfl (lv_at hl 0 rfl) ?_
  refine lv_iconst (v := (0 : Int32)) hx hb dX1_empty_1 (by decide) ?_
  obtain ⟨g1, h⟩ := h
  refine q_putI C hP (k := 1) tyX1_ok nmX1 (lay_X1 C.hA) rfl (by decide) rfl rfl rfl rfl g1 (fl_X1_31 C.hA) dX1_empty_2 (fun H locs hP => ?_)
  obtain ⟨u_2, eu_2, hP⟩ := Hp.nm hP
  have h := h u_2 eu_2
  refine lv_aload_n hx hb dX1_empty_5 rfl (lv_at hl 0 rfl) ?_
  refine lv_iconst (v := (0 : Int32)) hx hb dX1_empty_6 (by decide) ?_
  refine q_putI C hP (k := 4) tyX1_ok nmX1 (lay_X1 C.hA) rfl (by decide) rfl rfl rfl rfl g1 (fl_X1_35 C.hA) dX1_empty_7 (fun H locs hP => ?_)
  obtain ⟨u_7, eu_7, hP⟩ := Hp.nm hP
  have h := h u_7 eu_7
  exact q_vret C hr hlk hP h (by decide) (by decide) dX1_empty_10
-- X7_copyFrom
abbrev rm_X7_copyFrom : Room := { frames := 1, cells := 0, slots := 0, locals := 40 }
theorem hd_X7_copyFrom : yX7_copyFrom.cls ≠ "java/lang/invoke/MethodHandle" ∧ yX7_copyFrom.cls ≠ "java/lang/invoke/VarHandle" ∧ (parseMethodDescriptor yX7_copyFrom.desc).map (fun d => d.parameters.length) = some 1 := by decide +kernel
def V_X7_copyFrom (G : Gx) (p0 : Nat) (p1 : Nat) (u : Mm) (Q : Mm → Prop) : Prop :=
  kd G p1 = 7 ∧ kd G p0 = 7 ∧ V_X7_begin G p0 (gI u p1 0) (gI u p1 1) (gI u p1 2) (gI u p1 3) u (fun (u_17 : Mm) => ∀ u_25 : Mm, u_25 = sI u_17 p0 4 (gI u_17 p1 4) → (gR u_25 p1 5) ≠ 0 ∧ (gR u_25 p0 5) ≠ 0 ∧ kd G (gR u_25 p1 5) = 13 ∧ kd G (gR u_25 p0 5) = 13 ∧ cpOk G (gR u_25 p1 5) (0 : Int32) (gR u_25 p0 5) (0 : Int32) (12 : Int32) ∧ ∀ u_40 : Mm, u_40 = sC u_25 (gR u_25 p1 5) (0 : Int32).toNatClampNeg (gR u_25 p0 5) (0 : Int32).toNatClampNeg (12 : Int32).toNatClampNeg → (gR u_40 p1 6) ≠ 0 ∧ (gR u_40 p0 6) ≠ 0 ∧ kd G (gR u_40 p1 6) = 13 ∧ kd G (gR u_40 p0 6) = 13 ∧ cpOk G (gR u_40 p1 6) (0 : Int32) (gR u_40 p0 6) (0 : Int32) (12 : Int32) ∧ ∀ u_55 : Mm, u_55 = sC u_40 (gR u_40 p1 6) (0 : Int32).toNatClampNeg (gR u_40 p0 6) (0 : Int32).toNatClampNeg (12 : Int32).toNatClampNeg → Q u_55)
set_option maxHeartbeats 4000000 in
set_option maxRecDepth 100000 in
theorem c_X7_copyFrom {l : Launch} {G : Gx} {p0 : Nat} {p1 : Nat} {u : Mm} {Q : Mm → Prop} (h : V_X7_copyFrom G p0 p1 u Q) : Met l yX7_copyFrom [.code yX7_copyFrom cX7_copyFrom 2 none] rm_X7_copyFrom (va_Pc [.ref p0, .ref p1] (Wd G u)) (Ev G Q) 0 0 (ag G) := by
  refine q_met (by decide) (Nat.le_of_ble_eq_true rfl) ?_
  intro p e s m below meth c ls C hr hlk hnm hl hP
  have hl : lv_has ls 2 [(0, .ref p0), (1, .ref p1)] := hl
  generalize ([.ref p0, .ref p1] : List Value).toArray = args
  have hx := C.1
  have hb := C.2.1
  unfold V_X7_copyFrom at h
  refine lv_aload_n hx hb dX7_copyFrom_0 rfl (lv_at hl 0 rfl) ?_
  refine lv_aload_n hx hb dX7_copyFrom_1 rfl (lv_at hl 1 rfl) ?_
  obtain ⟨g1, h⟩ := h
  refine q_getI C hP (k := 0) (lay_X7 C.hA) rfl (by decide) g1 (fl_X7_18 C.hA) dX7_copyFrom_2 ?_
  refine lv_aload_n hx hb dX7_copyFrom_5 rfl (lv_at hl 1 rfl) ?_
  refine q_getI C hP (k := 1) (lay_X7 C.hA) rfl (by decide) g1 (fl_X7_22 C.hA) dX7_copyFrom_6 ?_
  refine lv_aload_n hx hb dX7_copyFrom_9 rfl (lv_at hl 1 rfl) ?_
  refine q_getI C hP (k := 2) (lay_X7 C.hA) rfl (by decide) g1 (fl_X7_25 C.hA) dX7_copyFrom_10 ?_
  refine lv_aload_n hx hb dX7_copyFrom_13 rfl (lv_at hl 1 rfl) ?_
  refine q_getI C hP (k := 3) (lay_X7 C.hA) rfl (by decide) g1 (fl_X7_28 C.hA) dX7_copyFrom_14 ?_
  obtain ⟨g2, h⟩ := h
  refine q_calv (q_runV C hP (c_X7_begin h) (cd_X7_begin C.hA) (ini_X7 C.hA) (ml_X7_38 C.hA) (im_X7_begin C.hA) (sl_X7_begin C.hA) g2 (by decide) rfl hd_X7_begin ⟨rfl, rfl⟩ ⟨Nat.le_of_ble_eq_true rfl, Nat.le_of_ble_eq_true rfl⟩ ⟨Nat.le_of_ble_eq_true rfl, Nat.le_of_ble_eq_true rfl⟩ hl.1 rfl (Nat.le_of_ble_eq_true rfl) dX7_copyFrom_17) hP (fun u_17 H locs h hP => ?_)
  refine lv_aload_n hx hb dX7_copyFrom_20 rfl (lv_at hl 0 rfl) ?_
  refine lv_aload_n hx hb dX7_copyFrom_21 rfl (lv_at hl 1 rfl) ?_
  refine q_getI C hP (k := 4) (lay_X7 C.hA) rfl (by decide) g1 (fl_X7_31 C.hA) dX7_copyFrom_22 ?_
  refine q_putI C hP (k := 4) tyX7_ok nmX7 (lay_X7 C.hA) rfl (by decide) rfl rfl rfl rfl g2 (fl_X7_31 C.hA) dX7_copyFrom_25 (fun H locs hP => ?_)
  obtain ⟨u_25, eu_25, hP⟩ := Hp.nm hP
  have h := h u_25 eu_25
  refine lv_aload_n hx hb dX7_copyFrom_28 rfl (lv_at hl 1 rfl) ?_
  obtain ⟨g3, h⟩ := h
  refine q_getR C hP (k := 5) (lay_X7 C.hA) rfl (by decide) g1 g3 (fl_X7_9 C.hA) dX7_copyFrom_29 ?_
  refine lv_iconst (v := (0 : Int32)) hx hb dX7_copyFrom_32 (by decide) ?_
  refine lv_aload_n hx hb dX7_copyFrom_33 rfl (lv_at hl 0 rfl) ?_
  obtain ⟨g4, h⟩ := h
  refine q_getR C hP (k := 5) (lay_X7 C.hA) rfl (by decide) g2 g4 (fl_X7_9 C.hA) dX7_copyFrom_34 ?_
  refine lv_iconst (v := (0 : Int32)) hx hb dX7_copyFrom_37 (by decide) ?_
  refine lv_bipush (v := (12 : Int32)) hx hb dX7_copyFrom_38 (by decide) ?_
  obtain ⟨g5, h⟩ := h
  obtain ⟨g6, h⟩ := h
  obtain ⟨g7, h⟩ := h
  refine q_copy C hP (hl.1.trans C.2.2.2.1.symm) (ml_X7_42 C.hA) g5 g6 g7 (Nat.le_of_ble_eq_true rfl) (by decide) dX7_copyFrom_40 (fun H locs hP => ?_)
  obtain ⟨u_40, eu_40, hP⟩ := Hp.nm hP
  have h := h u_40 eu_40
  refine lv_aload_n hx hb dX7_copyFrom_43 rfl (lv_at hl 1 rfl) ?_
  obtain ⟨g8, h⟩ := h
  refine q_getR C hP (k := 6) (lay_X7 C.hA) rfl (by decide) g1 g8 (fl_X7_15 C.hA) dX7_copyFrom_44 ?_
  refine lv_iconst (v := (0 : Int32)) hx hb dX7_copyFrom_47 (by decide) ?_
  refine lv_aload_n hx hb dX7_copyFrom_48 rfl (lv_at hl 0 rfl) ?_
  obtain ⟨g9, h⟩ := h
  refine q_getR C hP (k := 6) (lay_X7 C.hA) rfl (by decide) g2 g9 (fl_X7_15 C.hA) dX7_copyFrom_49 ?_
  refine lv_iconst (v := (0 : Int32)) hx hb dX7_copyFrom_52 (by decide) ?_
  refine lv_bipush (v := (12 : Int32)) hx hb dX7_copyFrom_53 (by decide) ?_
  obtain ⟨g10, h⟩ := h
  obtain ⟨g11, h⟩ := h
  obtain ⟨g12, h⟩ := h
  refine q_copy C hP (hl.1.trans C.2.2.2.1.symm) (ml_X7_42 C.hA) g10 g11 g12 (Nat.le_of_ble_eq_true rfl) (by decide) dX7_copyFrom_55 (fun H locs hP => ?_)
  obtain ⟨u_55, eu_55, hP⟩ := Hp.nm hP
  have h := h u_55 eu_55
  exact q_vret C hr hlk hP h (by decide) (by decide) dX7_copyFrom_58
-- X1_copyFrom
abbrev rm_X1_copyFrom : Room := { frames := 2, cells := 0, slots := 0, locals := 61 }
theorem hd_X1_copyFrom : yX1_copyFrom.cls ≠ "java/lang/invoke/MethodHandle" ∧ yX1_copyFrom.cls ≠ "java/lang/invoke/VarHandle" ∧ (parseMethodDescriptor yX1_copyFrom.desc).map (fun d => d.parameters.length) = some 1 := by decide +kernel
def V_X1_copyFrom_10_B (G : Gx) (Q : Mm → Prop) (k_10 : Nat → Nat → Int32 → Mm → Prop) (x0 : Nat) (x1 : Nat) (x2 : Int32) (u : Mm) : Prop :=
  kd G x0 = 1 ∧ (((gI u x0 1) ≤ x2 → kd G x1 = 1 ∧ ∀ u_44 : Mm, u_44 = sI u x0 4 (gI u x1 4) → (gR u_44 x1 2) ≠ 0 ∧ (gR u_44 x0 2) ≠ 0 ∧ kd G (gR u_44 x1 2) = 13 ∧ kd G (gR u_44 x0 2) = 13 ∧ cpOk G (gR u_44 x1 2) (0 : Int32) (gR u_44 x0 2) (0 : Int32) (8 : Int32) ∧ ∀ u_59 : Mm, u_59 = sC u_44 (gR u_44 x1 2) (0 : Int32).toNatClampNeg (gR u_44 x0 2) (0 : Int32).toNatClampNeg (8 : Int32).toNatClampNeg → (gR u_59 x1 3) ≠ 0 ∧ (gR u_59 x0 3) ≠ 0 ∧ kd G (gR u_59 x1 3) = 13 ∧ kd G (gR u_59 x0 3) = 13 ∧ cpOk G (gR u_59 x1 3) (0 : Int32) (gR u_59 x0 3) (0 : Int32) (8 : Int32) ∧ ∀ u_74 : Mm, u_74 = sC u_59 (gR u_59 x1 3) (0 : Int32).toNatClampNeg (gR u_59 x0 3) (0 : Int32).toNatClampNeg (8 : Int32).toNatClampNeg → (gR u_74 x1 5) ≠ 0 ∧ (gR u_74 x0 5) ≠ 0 ∧ kd G (gR u_74 x1 5) = 13 ∧ kd G (gR u_74 x0 5) = 13 ∧ cpOk G (gR u_74 x1 5) (0 : Int32) (gR u_74 x0 5) (0 : Int32) (4 : Int32) ∧ ∀ u_88 : Mm, u_88 = sC u_74 (gR u_74 x1 5) (0 : Int32).toNatClampNeg (gR u_74 x0 5) (0 : Int32).toNatClampNeg (4 : Int32).toNatClampNeg → Q u_88) ∧ (¬ (gI u x0 1) ≤ x2 → (gR u x0 0) ≠ 0 ∧ kd G (gR u x0 0) = 21 ∧ vp_in x2 (ln G (gR u x0 0)) ∧ (gR u (gR u x0 0) x2.toNatClampNeg) ≠ 0 ∧ kd G x1 = 1 ∧ (gR u x1 0) ≠ 0 ∧ kd G (gR u x1 0) = 21 ∧ vp_in x2 (ln G (gR u x1 0)) ∧ (gR u (gR u x1 0) x2.toNatClampNeg) ≠ 0 ∧ kd G (gR u (gR u x0 0) x2.toNatClampNeg) = 7 ∧ V_X7_copyFrom G (gR u (gR u x0 0) x2.toNatClampNeg) (gR u (gR u x1 0) x2.toNatClampNeg) u (fun (u_30 : Mm) => ∀ x2_33 : Int32, x2_33 = x2 + (1 : Int32) → k_10 x0 x1 x2_33 u_30)))
def V_X1_copyFrom_10 (G : Gx) (Q : Mm → Prop) : Nat → (Nat → Nat → Int32 → Mm → Prop)
  | 0 => fun _ _ _ _ => False
  | n + 1 => fun x0 x1 x2 u => V_X1_copyFrom_10_B G Q (V_X1_copyFrom_10 G Q n) x0 x1 x2 u
def V_X1_copyFrom (G : Gx) (p0 : Nat) (p1 : Nat) (u : Mm) (Q : Mm → Prop) : Prop :=
  kd G p1 = 1 ∧ kd G p0 = 1 ∧ ∀ u_5 : Mm, u_5 = sI u p0 1 (gI u p1 1) → ∃ n : Nat, V_X1_copyFrom_10 G Q n p0 p1 (0 : Int32) u_5
set_option maxHeartbeats 4000000 in
set_option maxRecDepth 100000 in
theorem b_X1_copyFrom_10 {G : Gx} {Q : Mm → Prop} {p : Program} {l : Launch} {e : Env} {s : State} {m : MethodId} {args : Array Value} {below : List Frame} {meth : Method} {c : Code} (C : Cx G p s m c cX1_copyFrom RX1 3) (hr : meth.sig.returnType = none) (hlk : meth.locks = false) {k_10 : Nat → Nat → Int32 → Mm → Prop} (hk_10 : ∀ (x0 : Nat) (x1 : Nat) (x2 : Int32) (u : Mm) (H : Heap) (locs : List Loc) (ls : Array Slot), k_10 x0 x1 x2 u → lv_has ls 3 [(0, .ref x0), (1, .ref x1), (2, .int x2)] → Hp G u s H locs → W p l e rm_X1_copyFrom s m args below meth c H locs 0 0 (MQ below (Ev G Q) args s 0 0 (ag G)) (F0 m 10 ls [])) {x0 : Nat} {x1 : Nat} {x2 : Int32} {u : Mm} {H : Heap} {locs : List Loc} {ls : Array Slot} (h : V_X1_copyFrom_10_B G Q k_10 x0 x1 x2 u) (hl : lv_has ls 3 [(0, .ref x0), (1, .ref x1), (2, .int x2)]) (hP : Hp G u s H locs) : W p l e rm_X1_copyFrom s m args below meth c H locs 0 0 (MQ below (Ev G Q) args s 0 0 (ag G)) (F0 m 10 ls []) := by
  have hx := C.1
  have hb := C.2.1
  unfold V_X1_copyFrom_10_B at h
  refine lv_iload_n hx hb dX1_copyFrom_10 rfl (lv_at hl 2 rfl) ?_
  refine lv_aload_n hx hb dX1_copyFrom_11 rfl (lv_at hl 0 rfl) ?_
  obtain ⟨g1, h⟩ := h
  refine q_getI C hP (k := 1) (lay_X1 C.hA) rfl (by decide) g1 (fl_X1_31 C.hA) dX1_copyFrom_12 ?_
  refine lv_icmp_ge (tgt := 39) hx hb dX1_copyFrom_15 (by decide) (fun c15 => ?_) (fun c15 => ?_)
  · have h := h.1 c15
    refine lv_aload_n hx hb dX1_copyFrom_39 rfl (lv_at hl 0 rfl) ?_
    refine lv_aload_n hx hb dX1_copyFrom_40 rfl (lv_at hl 1 rfl) ?_
    obtain ⟨g2, h⟩ := h
    refine q_getI C hP (k := 4) (lay_X1 C.hA) rfl (by decide) g2 (fl_X1_35 C.hA) dX1_copyFrom_41 ?_
    refine q_putI C hP (k := 4) tyX1_ok nmX1 (lay_X1 C.hA) rfl (by decide) rfl rfl rfl rfl g1 (fl_X1_35 C.hA) dX1_copyFrom_44 (fun H locs hP => ?_)
    obtain ⟨u_44, eu_44, hP⟩ := Hp.nm hP
    have h := h u_44 eu_44
    refine lv_aload_n hx hb dX1_copyFrom_47 rfl (lv_at hl 1 rfl) ?_
    obtain ⟨g3, h⟩ := h
    refine q_getR C hP (k := 2) (lay_X1 C.hA) rfl (by decide) g2 g3 (fl_X1_9 C.hA) dX1_copyFrom_48 ?_
    refine lv_iconst (v := (0 : Int32)) hx hb dX1_copyFrom_51 (by decide) ?_
    refine lv_aload_n hx hb dX1_copyFrom_52 rfl (lv_at hl 0 rfl) ?_
    obtain ⟨g4, h⟩ := h
    refine q_getR C hP (k := 2) (lay_X1 C.hA) rfl (by decide) g1 g4 (fl_X1_9 C.hA) dX1_copyFrom_53 ?_
    refine lv_iconst (v := (0 : Int32)) hx hb dX1_copyFrom_56 (by decide) ?_
    refine lv_bipush (v := (8 : Int32)) hx hb dX1_copyFrom_57 (by decide) ?_
    obtain ⟨g5, h⟩ := h
    obtain ⟨g6, h⟩ := h
    obtain ⟨g7, h⟩ := h
    refine q_copy C hP (hl.1.trans C.2.2.2.1.symm) (ml_X1_52 C.hA) g5 g6 g7 (Nat.le_of_ble_eq_true rfl) (by decide) dX1_copyFrom_59 (fun H locs hP => ?_)
    obtain ⟨u_59, eu_59, hP⟩ := Hp.nm hP
    have h := h u_59 eu_59
    refine lv_aload_n hx hb dX1_copyFrom_62 rfl (lv_at hl 1 rfl) ?_
    obtain ⟨g8, h⟩ := h
    refine q_getR C hP (k := 3) (lay_X1 C.hA) rfl (by decide) g2 g8 (fl_X1_15 C.hA) dX1_copyFrom_63 ?_
    refine lv_iconst (v := (0 : Int32)) hx hb dX1_copyFrom_66 (by decide) ?_
    refine lv_aload_n hx hb dX1_copyFrom_67 rfl (lv_at hl 0 rfl) ?_
    obtain ⟨g9, h⟩ := h
    refine q_getR C hP (k := 3) (lay_X1 C.hA) rfl (by decide) g1 g9 (fl_X1_15 C.hA) dX1_copyFrom_68 ?_
    refine lv_iconst (v := (0 : Int32)) hx hb dX1_copyFrom_71 (by decide) ?_
    refine lv_bipush (v := (8 : Int32)) hx hb dX1_copyFrom_72 (by decide) ?_
    obtain ⟨g10, h⟩ := h
    obtain ⟨g11, h⟩ := h
    obtain ⟨g12, h⟩ := h
    refine q_copy C hP (hl.1.trans C.2.2.2.1.symm) (ml_X1_52 C.hA) g10 g11 g12 (Nat.le_of_ble_eq_true rfl) (by decide) dX1_copyFrom_74 (fun H locs hP => ?_)
    obtain ⟨u_74, eu_74, hP⟩ := Hp.nm hP
    have h := h u_74 eu_74
    refine lv_aload_n hx hb dX1_copyFrom_77 rfl (lv_at hl 1 rfl) ?_
    obtain ⟨g13, h⟩ := h
    refine q_getR C hP (k := 5) (lay_X1 C.hA) rfl (by decide) g2 g13 (fl_X1_18 C.hA) dX1_copyFrom_78 ?_
    refine lv_iconst (v := (0 : Int32)) hx hb dX1_copyFrom_81 (by decide) ?_
    refine lv_aload_n hx hb dX1_copyFrom_82 rfl (lv_at hl 0 rfl) ?_
    obtain ⟨g14, h⟩ := h
    refine q_getR C hP (k := 5) (lay_X1 C.hA) rfl (by decide) g1 g14 (fl_X1_18 C.hA) dX1_copyFrom_83 ?_
    refine lv_iconst (v := (0 : Int32)) hx hb dX1_copyFrom_86 (by decide) ?_
    refine lv_iconst (v := (4 : Int32)) hx hb dX1_copyFrom_87 (by decide) ?_
    obtain ⟨g15, h⟩ := h
    obtain ⟨g16, h⟩ := h
    obtain ⟨g17, h⟩ := h
    refine q_copy C hP (hl.1.trans C.2.2.2.1.symm) (ml_X1_52 C.hA) g15 g16 g17 (Nat.le_of_ble_eq_true rfl) (by decide) dX1_copyFrom_88 (fun H locs hP => ?_)
    obtain ⟨u_88, eu_88, hP⟩ := Hp.nm hP
    have h := h u_88 eu_88
    exact q_vret C hr hlk hP h (by decide) (by decide) dX1_copyFrom_91
  · have h := h.2 c15
    refine lv_aload_n hx hb dX1_copyFrom_18 rfl (lv_at hl 0 rfl) ?_
    obtain ⟨g18, h⟩ := h
    refine q_getR C hP (k := 0) (lay_X1 C.hA) rfl (by decide) g1 g18 (fl_X1_23 C.hA) dX1_copyFrom_19 ?_
    refine lv_iload_n hx hb dX1_copyFrom_22 rfl (lv_at hl 2 rfl) ?_
    obtain ⟨g19, h⟩ := h
    obtain ⟨g20, h⟩ := h
    obtain ⟨g21, h⟩ := h
    refine q_aald C hP g19 (by decide) rfl g20 g21 dX1_copyFrom_23 ?_
    refine lv_aload_n hx hb dX1_copyFrom_24 rfl (lv_at hl 1 rfl) ?_
    obtain ⟨g22, h⟩ := h
    obtain ⟨g23, h⟩ := h
    refine q_getR C hP (k := 0) (lay_X1 C.hA) rfl (by decide) g22 g23 (fl_X1_23 C.hA) dX1_copyFrom_25 ?_
    refine lv_iload_n hx hb dX1_copyFrom_28 rfl (lv_at hl 2 rfl) ?_
    obtain ⟨g24, h⟩ := h
    obtain ⟨g25, h⟩ := h
    obtain ⟨g26, h⟩ := h
    refine q_aald C hP g24 (by decide) rfl g25 g26 dX1_copyFrom_29 ?_
    obtain ⟨g27, h⟩ := h
    refine q_calv (q_runVN C hP (c_X7_copyFrom h) (cd_X7_copyFrom C.hA) (ini_X7 C.hA) (mn_X1_48 C.hA) (im_X7_copyFrom C.hA) (sl_X7_copyFrom C.hA) g27 (by decide) rfl hd_X7_copyFrom ⟨rfl, rfl⟩ ⟨Nat.le_of_ble_eq_true rfl, Nat.le_of_ble_eq_true rfl⟩ ⟨Nat.le_of_ble_eq_true rfl, Nat.le_of_ble_eq_true rfl⟩ hl.1 rfl (Nat.le_of_ble_eq_true rfl) dX1_copyFrom_30) hP (fun u_30 H locs h hP => ?_)
    obtain ⟨x2_33, ex2_33⟩ : ∃ y : Int32, y = x2 + (1 : Int32) := ⟨_, rfl⟩
    have h := h x2_33 ex2_33
    refine lv_iinc (v := x2_33) (lv' := [(2, .int x2_33), (0, .ref x0), (1, .ref x1)]) hx hb dX1_copyFrom_33 hl (k := 2) rfl (by rw [ex2_33]; rfl) (by decide) rfl (fun ls hl => ?_)
    refine lv_goto (tgt := 10) hx hb dX1_copyFrom_36 (by decide) ?_
    exact hk_10 x0 x1 x2_33 u_30 _ _ _ h (lv_sub hl [1, 2, 0] rfl) hP
theorem l_X1_copyFrom_10 {G : Gx} {Q : Mm → Prop} {p : Program} {l : Launch} {e : Env} {s : State} {m : MethodId} {args : Array Value} {below : List Frame} {meth : Method} {c : Code} (C : Cx G p s m c cX1_copyFrom RX1 3) (hr : meth.sig.returnType = none) (hlk : meth.locks = false) : ∀ (n : Nat) (x0 : Nat) (x1 : Nat) (x2 : Int32) (u : Mm) (H : Heap) (locs : List Loc) (ls : Array Slot), V_X1_copyFrom_10 G Q n x0 x1 x2 u → lv_has ls 3 [(0, .ref x0), (1, .ref x1), (2, .int x2)] → Hp G u s H locs → W p l e rm_X1_copyFrom s m args below meth c H locs 0 0 (MQ below (Ev G Q) args s 0 0 (ag G)) (F0 m 10 ls []) := by
  intro n
  induction n with
  | zero => intro x0 x1 x2 u H locs ls h; exact h.elim
  | succ n ih => intro x0 x1 x2 u H locs ls h hl hP; exact b_X1_copyFrom_10 C hr hlk ih h hl hP
set_option maxHeartbeats 4000000 in
set_option maxRecDepth 100000 in
theorem c_X1_copyFrom {l : Launch} {G : Gx} {p0 : Nat} {p1 : Nat} {u : Mm} {Q : Mm → Prop} (h : V_X1_copyFrom G p0 p1 u Q) : Met l yX1_copyFrom [.code yX1_copyFrom cX1_copyFrom 3 none] rm_X1_copyFrom (va_Pc [.ref p0, .ref p1] (Wd G u)) (Ev G Q) 0 0 (ag G) := by
  refine q_met (by decide) (Nat.le_of_ble_eq_true rfl) ?_
  intro p e s m below meth c ls C hr hlk hnm hl hP
  have hl : lv_has ls 3 [(0, .ref p0), (1, .ref p1)] := hl
  generalize ([.ref p0, .ref p1] : List Value).toArray = args
  have hx := C.1
  have hb := C.2.1
  unfold V_X1_copyFrom at h
  refine lv_aload_n hx hb dX1_copyFrom_0 rfl (lv_at hl 0 rfl) ?_
  refine lv_aload_n hx hb dX1_copyFrom_1 rfl (lv_at hl 1 rfl) ?_
  obtain ⟨g1, h⟩ := h
  refine q_getI C hP (k := 1) (lay_X1 C.hA) rfl (by decide) g1 (fl_X1_31 C.hA) dX1_copyFrom_2 ?_
  obtain ⟨g2, h⟩ := h
  refine q_putI C hP (k := 1) tyX1_ok nmX1 (lay_X1 C.hA) rfl (by decide) rfl rfl rfl rfl g2 (fl_X1_31 C.hA) dX1_copyFrom_5 (fun H locs hP => ?_)
  obtain ⟨u_5, eu_5, hP⟩ := Hp.nm hP
  have h := h u_5 eu_5
  refine lv_iconst (v := (0 : Int32)) hx hb dX1_copyFrom_8 (by decide) ?_
  refine lv_istore_n (lv' := [(2, .int (0 : Int32)), (0, .ref p0), (1, .ref p1)]) hx hb dX1_copyFrom_9 rfl hl (by decide) rfl (fun ls hl => ?_)
  obtain ⟨n, h⟩ := h
  exact l_X1_copyFrom_10 C hr hlk n p0 p1 (0 : Int32) u_5 _ _ _ h (lv_sub hl [1, 2, 0] rfl) hP
