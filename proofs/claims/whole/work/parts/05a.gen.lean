-- X4_empty
abbrev rm_X4_empty : Room := { frames := 0, cells := 0, slots := 0, locals := 0 }
theorem hd_X4_empty : yX4_empty.cls ≠ "java/lang/invoke/MethodHandle" ∧ yX4_empty.cls ≠ "java/lang/invoke/VarHandle" ∧ (parseMethodDescriptor yX4_empty.desc).map (fun d => d.parameters.length) = some 0 := by decide +kernel
def V_X4_empty (G : Gx) (p0 : Nat) (u : Mm) (Q : Mm → Prop) : Prop :=
  kd G p0 = 4 ∧ ∀ u_2 : Mm, u_2 = sI u p0 3 (0 : Int32) → ∀ u_7 : Mm, u_7 = sI u_2 p0 4 (0 : Int32) → ∀ u_12 : Mm, u_12 = sI u_7 p0 5 (0 : Int32) → ∀ u_18 : Mm, u_18 = sI u_12 p0 6 (100 : Int32) → ∀ u_24 : Mm, u_24 = sI u_18 p0 7 (100 : Int32) → Q u_24
set_option maxHeartbeats 4000000 in
set_option maxRecDepth 100000 in
theorem c_X4_empty {l : Launch} {G : Gx} {p0 : Nat} {u : Mm} {Q : Mm → Prop} (h : V_X4_empty G p0 u Q) : Met l yX4_empty [.code yX4_empty cX4_empty 1 none] rm_X4_empty (va_Pc [.ref p0] (Wd G u)) (Ev G Q) 0 0 (ag G) := by
  refine q_met (by decide) (Nat.le_of_ble_eq_true rfl) ?_
  intro p e s m below meth c ls C hr hlk hnm hl hP
  have hl : lv_has ls 1 [(0, .ref p0)] := hl
  generalize ([.ref p0] : List Value).toArray = args
  have hx := C.1
  have hb := C.2.1
  unfold V_X4_empty at h
  refine lv_aload_n hx hb dX4_empty_0 rfl (lv_at hl 0 rfl) ?_
  refine lv_iconst (v := (0 : Int32)) hx hb dX4_empty_1 (by decide) ?_
  obtain ⟨g1, h⟩ := h
  refine q_putI C hP (k := 3) tyX4_ok nmX4 (lay_X4 C.hA) rfl (by decide) rfl rfl rfl rfl g1 (fl_X4_35 C.hA) dX4_empty_2 (fun H locs hP => ?_)
  obtain ⟨u_2, eu_2, hP⟩ := Hp.nm hP
  have h := h u_2 eu_2
  refine lv_aload_n hx hb dX4_empty_5 rfl (lv_at hl 0 rfl) ?_
  refine lv_iconst (v := (0 : Int32)) hx hb dX4_empty_6 (by decide) ?_
  refine q_putI C hP (k := 4) tyX4_ok nmX4 (lay_X4 C.hA) rfl (by decide) rfl rfl rfl rfl g1 (fl_X4_39 C.hA) dX4_empty_7 (fun H locs hP => ?_)
  obtain ⟨u_7, eu_7, hP⟩ := Hp.nm hP
  have h := h u_7 eu_7
  refine lv_aload_n hx hb dX4_empty_10 rfl (lv_at hl 0 rfl) ?_
  refine lv_iconst (v := (0 : Int32)) hx hb dX4_empty_11 (by decide) ?_
  refine q_putI C hP (k := 5) tyX4_ok nmX4 (lay_X4 C.hA) rfl (by decide) rfl rfl rfl rfl g1 (fl_X4_42 C.hA) dX4_empty_12 (fun H locs hP => ?_)
  obtain ⟨u_12, eu_12, hP⟩ := Hp.nm hP
  have h := h u_12 eu_12
  refine lv_aload_n hx hb dX4_empty_15 rfl (lv_at hl 0 rfl) ?_
  refine lv_bipush (v := (100 : Int32)) hx hb dX4_empty_16 (by decide) ?_
  refine q_putI C hP (k := 6) tyX4_ok nmX4 (lay_X4 C.hA) rfl (by decide) rfl rfl rfl rfl g1 (fl_X4_45 C.hA) dX4_empty_18 (fun H locs hP => ?_)
  obtain ⟨u_18, eu_18, hP⟩ := Hp.nm hP
  have h := h u_18 eu_18
  refine lv_aload_n hx hb dX4_empty_21 rfl (lv_at hl 0 rfl) ?_
  refine lv_bipush (v := (100 : Int32)) hx hb dX4_empty_22 (by decide) ?_
  refine q_putI C hP (k := 7) tyX4_ok nmX4 (lay_X4 C.hA) rfl (by decide) rfl rfl rfl rfl g1 (fl_X4_48 C.hA) dX4_empty_24 (fun H locs hP => ?_)
  obtain ⟨u_24, eu_24, hP⟩ := Hp.nm hP
  have h := h u_24 eu_24
  exact q_vret C hr hlk hP h (by decide) (by decide) dX4_empty_27
-- X9_holds
abbrev rm_X9_holds : Room := { frames := 0, cells := 0, slots := 0, locals := 0 }
theorem hd_X9_holds : yX9_holds.cls ≠ "java/lang/invoke/MethodHandle" ∧ yX9_holds.cls ≠ "java/lang/invoke/VarHandle" ∧ (parseMethodDescriptor yX9_holds.desc).map (fun d => d.parameters.length) = some 1 := by decide +kernel
def V_X9_holds (G : Gx) (p0 : Nat) (p1 : Int32) (u : Mm) (Q : Int32 → Mm → Prop) : Prop :=
  kd G p0 = 9 ∧ ((p1 < (gI u p0 2) → Q (0 : Int32) u) ∧ (¬ p1 < (gI u p0 2) → (((gI u p0 3) < p1 → Q (0 : Int32) u) ∧ (¬ (gI u p0 3) < p1 → Q (1 : Int32) u))))
set_option maxHeartbeats 4000000 in
set_option maxRecDepth 100000 in
theorem c_X9_holds {l : Launch} {G : Gx} {p0 : Nat} {p1 : Int32} {u : Mm} {Q : Int32 → Mm → Prop} (h : V_X9_holds G p0 p1 u Q) : Met l yX9_holds [.code yX9_holds cX9_holds 2 (some .boolean)] rm_X9_holds (va_Pc [.ref p0, .int p1] (Wd G u)) (Ei G Q) 0 0 (ag G) := by
  refine q_met (by decide) (Nat.le_of_ble_eq_true rfl) ?_
  intro p e s m below meth c ls C hr hlk hnm hl hP
  have hl : lv_has ls 2 [(0, .ref p0), (1, .int p1)] := hl
  generalize ([.ref p0, .int p1] : List Value).toArray = args
  have hx := C.1
  have hb := C.2.1
  unfold V_X9_holds at h
  refine lv_iload_n hx hb dX9_holds_0 rfl (lv_at hl 1 rfl) ?_
  refine lv_aload_n hx hb dX9_holds_1 rfl (lv_at hl 0 rfl) ?_
  obtain ⟨g1, h⟩ := h
  refine q_getI C hP (k := 2) (lay_X9 C.hA) rfl (by decide) g1 (fl_X9_7 C.hA) dX9_holds_2 ?_
  refine lv_icmp_lt (tgt := 20) hx hb dX9_holds_5 (by decide) (fun c5 => ?_) (fun c5 => ?_)
  · have h := h.1 c5
    refine lv_iconst (v := (0 : Int32)) hx hb dX9_holds_20 (by decide) ?_
    exact q_zret C hr hlk hP (by decide) h (by decide) (by decide) dX9_holds_21
  · have h := h.2 c5
    refine lv_iload_n hx hb dX9_holds_8 rfl (lv_at hl 1 rfl) ?_
    refine lv_aload_n hx hb dX9_holds_9 rfl (lv_at hl 0 rfl) ?_
    refine q_getI C hP (k := 3) (lay_X9 C.hA) rfl (by decide) g1 (fl_X9_13 C.hA) dX9_holds_10 ?_
    refine lv_icmp_gt (tgt := 20) hx hb dX9_holds_13 (by decide) (fun c13 => ?_) (fun c13 => ?_)
    · have h := h.1 c13
      refine lv_iconst (v := (0 : Int32)) hx hb dX9_holds_20 (by decide) ?_
      exact q_zret C hr hlk hP (by decide) h (by decide) (by decide) dX9_holds_21
    · have h := h.2 c13
      refine lv_iconst (v := (1 : Int32)) hx hb dX9_holds_16 (by decide) ?_
      refine lv_goto (tgt := 21) hx hb dX9_holds_17 (by decide) ?_
      exact q_zret C hr hlk hP (by decide) h (by decide) (by decide) dX9_holds_21
-- X9_standsBetween
abbrev rm_X9_standsBetween : Room := { frames := 1, cells := 0, slots := 0, locals := 14 }
theorem hd_X9_standsBetween : yX9_standsBetween.cls ≠ "java/lang/invoke/MethodHandle" ∧ yX9_standsBetween.cls ≠ "java/lang/invoke/VarHandle" ∧ (parseMethodDescriptor yX9_standsBetween.desc).map (fun d => d.parameters.length) = some 4 := by decide +kernel
def V_X9_standsBetween_86 (G : Gx) (Q : Int32 → Mm → Prop) (x0 : Nat) (x5 : Int32) (x6 : Int32) (x7 : Int32) (t0 : Int32) (u : Mm) : Prop :=
  ∀ x9_96 : Int32, x9_96 = (ab (x6 - x5)) → kd G x0 = 9 ∧ ∀ x10_108 : Int32, x10_108 = (ab ((gI u x0 1) - x5)) → ∀ x11_124 : Int32, x11_124 = ((x7 * x9_96) + ((t0 - x7) * x10_108)) → ((x11_124 < ((gI u x0 2) * x9_96) → Q (0 : Int32) u) ∧ (¬ x11_124 < ((gI u x0 2) * x9_96) → ((((gI u x0 3) * x9_96) < x11_124 → Q (0 : Int32) u) ∧ (¬ ((gI u x0 3) * x9_96) < x11_124 → Q (1 : Int32) u))))
def V_X9_standsBetween_71 (G : Gx) (Q : Int32 → Mm → Prop) (x0 : Nat) (x3 : Int32) (x4 : Int32) (x5 : Int32) (x6 : Int32) (t0 : Int32) (u : Mm) : Prop :=
  kd G x0 = 9 ∧ (((gI u x0 0) = 0 → V_X9_standsBetween_86 G Q x0 x5 x6 t0 x3 u) ∧ (¬ (gI u x0 0) = 0 → V_X9_standsBetween_86 G Q x0 x5 x6 t0 x4 u))
def V_X9_standsBetween_27 (G : Gx) (Q : Int32 → Mm → Prop) (x0 : Nat) (x1 : Int32) (x2 : Int32) (x3 : Int32) (x4 : Int32) (x5 : Int32) (t0 : Int32) (u : Mm) : Prop :=
  kd G x0 = 9 ∧ (((gI u x0 1) ≤ (mn x5 t0) → Q (0 : Int32) u) ∧ (¬ (gI u x0 1) ≤ (mn x5 t0) → (((gI u x0 1) < (mx x5 t0) → (((gI u x0 0) = 0 → V_X9_standsBetween_71 G Q x0 x3 x4 x5 t0 x1 u) ∧ (¬ (gI u x0 0) = 0 → V_X9_standsBetween_71 G Q x0 x3 x4 x5 t0 x2 u))) ∧ (¬ (gI u x0 1) < (mx x5 t0) → Q (0 : Int32) u))))
def V_X9_standsBetween_12 (G : Gx) (Q : Int32 → Mm → Prop) (x0 : Nat) (x1 : Int32) (x2 : Int32) (x3 : Int32) (x4 : Int32) (t0 : Int32) (u : Mm) : Prop :=
  kd G x0 = 9 ∧ (((gI u x0 0) = 0 → V_X9_standsBetween_27 G Q x0 x1 x2 x3 x4 t0 x4 u) ∧ (¬ (gI u x0 0) = 0 → V_X9_standsBetween_27 G Q x0 x1 x2 x3 x4 t0 x3 u))
def V_X9_standsBetween (G : Gx) (p0 : Nat) (p1 : Int32) (p2 : Int32) (p3 : Int32) (p4 : Int32) (u : Mm) (Q : Int32 → Mm → Prop) : Prop :=
  kd G p0 = 9 ∧ (((gI u p0 0) = 0 → V_X9_standsBetween_12 G Q p0 p1 p2 p3 p4 p2 u) ∧ (¬ (gI u p0 0) = 0 → V_X9_standsBetween_12 G Q p0 p1 p2 p3 p4 p1 u))
set_option maxHeartbeats 4000000 in
set_option maxRecDepth 100000 in
theorem b_X9_standsBetween_86 {G : Gx} {Q : Int32 → Mm → Prop} {p : Program} {l : Launch} {e : Env} {s : State} {m : MethodId} {args : Array Value} {below : List Frame} {meth : Method} {c : Code} (C : Cx G p s m c cX9_standsBetween RX9 12) (hr : meth.sig.returnType = (some .boolean)) (hlk : meth.locks = false) {x0 : Nat} {x5 : Int32} {x6 : Int32} {x7 : Int32} {t0 : Int32} {u : Mm} {H : Heap} {locs : List Loc} {ls : Array Slot} (h : V_X9_standsBetween_86 G Q x0 x5 x6 x7 t0 u) (hl : lv_has ls 12 [(0, .ref x0), (5, .int x5), (6, .int x6), (7, .int x7)]) (hP : Hp G u s H locs) : W p l e rm_X9_standsBetween s m args below meth c H locs 0 0 (MQ below (Ei G Q) args s 0 0 (ag G)) (F0 m 86 ls [.int t0]) := by
  have hx := C.1
  have hb := C.2.1
  unfold V_X9_standsBetween_86 at h
  refine lv_istore (lv' := [(8, .int t0), (0, .ref x0), (5, .int x5), (6, .int x6), (7, .int x7)]) hx hb dX9_standsBetween_86 hl (by decide) rfl (fun ls hl => ?_)
  refine lv_iload hx hb dX9_standsBetween_88 (lv_at hl 3 rfl) ?_
  refine lv_iload hx hb dX9_standsBetween_90 (lv_at hl 2 rfl) ?_
  refine lv_isub hx hb dX9_standsBetween_92 ?_
  refine va_mabs hx hb (C.2.2.2.1.trans hl.1.symm) C.2.2.1 (ml_X9_32 C.hA) (st_J9_abs_0f7a4 C.hA) (ini_J9 C.hA) (cd_J9_abs_0f7a4 C.hA) (Nat.le_of_ble_eq_true rfl) (Nat.le_of_ble_eq_true rfl) (Nat.le_of_ble_eq_true rfl) (Nat.le_of_ble_eq_true rfl) dX9_standsBetween_93 ?_
  refine lv_topi (fun x9_96 ex9_96 => ?_)
  have h := h x9_96 ex9_96
  refine lv_istore (lv' := [(9, .int x9_96), (8, .int t0), (0, .ref x0), (5, .int x5), (6, .int x6), (7, .int x7)]) hx hb dX9_standsBetween_96 hl (by decide) rfl (fun ls hl => ?_)
  refine lv_aload_n hx hb dX9_standsBetween_98 rfl (lv_at hl 2 rfl) ?_
  obtain ⟨g1, h⟩ := h
  refine q_getI C hP (k := 1) (lay_X9 C.hA) rfl (by decide) g1 (fl_X9_20 C.hA) dX9_standsBetween_99 ?_
  refine lv_iload hx hb dX9_standsBetween_102 (lv_at hl 3 rfl) ?_
  refine lv_isub hx hb dX9_standsBetween_104 ?_
  refine va_mabs hx hb (C.2.2.2.1.trans hl.1.symm) C.2.2.1 (ml_X9_32 C.hA) (st_J9_abs_0f7a4 C.hA) (ini_J9 C.hA) (cd_J9_abs_0f7a4 C.hA) (Nat.le_of_ble_eq_true rfl) (Nat.le_of_ble_eq_true rfl) (Nat.le_of_ble_eq_true rfl) (Nat.le_of_ble_eq_true rfl) dX9_standsBetween_105 ?_
  refine lv_topi (fun x10_108 ex10_108 => ?_)
  have h := h x10_108 ex10_108
  refine lv_istore (lv' := [(10, .int x10_108), (9, .int x9_96), (8, .int t0), (0, .ref x0), (5, .int x5), (6, .int x6), (7, .int x7)]) hx hb dX9_standsBetween_108 hl (by decide) rfl (fun ls hl => ?_)
  refine lv_iload hx hb dX9_standsBetween_110 (lv_at hl 6 rfl) ?_
  refine lv_iload hx hb dX9_standsBetween_112 (lv_at hl 1 rfl) ?_
  refine lv_imul hx hb dX9_standsBetween_114 ?_
  refine lv_iload hx hb dX9_standsBetween_115 (lv_at hl 2 rfl) ?_
  refine lv_iload hx hb dX9_standsBetween_117 (lv_at hl 6 rfl) ?_
  refine lv_isub hx hb dX9_standsBetween_119 ?_
  refine lv_iload hx hb dX9_standsBetween_120 (lv_at hl 0 rfl) ?_
  refine lv_imul hx hb dX9_standsBetween_122 ?_
  refine lv_iadd hx hb dX9_standsBetween_123 ?_
  refine lv_topi (fun x11_124 ex11_124 => ?_)
  have h := h x11_124 ex11_124
  refine lv_istore (lv' := [(11, .int x11_124), (10, .int x10_108), (9, .int x9_96), (8, .int t0), (0, .ref x0), (5, .int x5), (6, .int x6), (7, .int x7)]) hx hb dX9_standsBetween_124 hl (by decide) rfl (fun ls hl => ?_)
  refine lv_iload hx hb dX9_standsBetween_126 (lv_at hl 0 rfl) ?_
  refine lv_aload_n hx hb dX9_standsBetween_128 rfl (lv_at hl 4 rfl) ?_
  refine q_getI C hP (k := 2) (lay_X9 C.hA) rfl (by decide) g1 (fl_X9_7 C.hA) dX9_standsBetween_129 ?_
  refine lv_iload hx hb dX9_standsBetween_132 (lv_at hl 2 rfl) ?_
  refine lv_imul hx hb dX9_standsBetween_134 ?_
  refine lv_icmp_lt (tgt := 154) hx hb dX9_standsBetween_135 (by decide) (fun c135 => ?_) (fun c135 => ?_)
  · have h := h.1 c135
    refine lv_iconst (v := (0 : Int32)) hx hb dX9_standsBetween_154 (by decide) ?_
    exact q_zret C hr hlk hP (by decide) h (by decide) (by decide) dX9_standsBetween_155
  · have h := h.2 c135
    refine lv_iload hx hb dX9_standsBetween_138 (lv_at hl 0 rfl) ?_
    refine lv_aload_n hx hb dX9_standsBetween_140 rfl (lv_at hl 4 rfl) ?_
    refine q_getI C hP (k := 3) (lay_X9 C.hA) rfl (by decide) g1 (fl_X9_13 C.hA) dX9_standsBetween_141 ?_
    refine lv_iload hx hb dX9_standsBetween_144 (lv_at hl 2 rfl) ?_
    refine lv_imul hx hb dX9_standsBetween_146 ?_
    refine lv_icmp_gt (tgt := 154) hx hb dX9_standsBetween_147 (by decide) (fun c147 => ?_) (fun c147 => ?_)
    · have h := h.1 c147
      refine lv_iconst (v := (0 : Int32)) hx hb dX9_standsBetween_154 (by decide) ?_
      exact q_zret C hr hlk hP (by decide) h (by decide) (by decide) dX9_standsBetween_155
    · have h := h.2 c147
      refine lv_iconst (v := (1 : Int32)) hx hb dX9_standsBetween_150 (by decide) ?_
      refine lv_goto (tgt := 155) hx hb dX9_standsBetween_151 (by decide) ?_
      exact q_zret C hr hlk hP (by decide) h (by decide) (by decide) dX9_standsBetween_155
set_option maxHeartbeats 4000000 in
set_option maxRecDepth 100000 in
theorem b_X9_standsBetween_71 {G : Gx} {Q : Int32 → Mm → Prop} {p : Program} {l : Launch} {e : Env} {s : State} {m : MethodId} {args : Array Value} {below : List Frame} {meth : Method} {c : Code} (C : Cx G p s m c cX9_standsBetween RX9 12) (hr : meth.sig.returnType = (some .boolean)) (hlk : meth.locks = false) {x0 : Nat} {x3 : Int32} {x4 : Int32} {x5 : Int32} {x6 : Int32} {t0 : Int32} {u : Mm} {H : Heap} {locs : List Loc} {ls : Array Slot} (h : V_X9_standsBetween_71 G Q x0 x3 x4 x5 x6 t0 u) (hl : lv_has ls 12 [(0, .ref x0), (3, .int x3), (4, .int x4), (5, .int x5), (6, .int x6)]) (hP : Hp G u s H locs) : W p l e rm_X9_standsBetween s m args below meth c H locs 0 0 (MQ below (Ei G Q) args s 0 0 (ag G)) (F0 m 71 ls [.int t0]) := by
  have hx := C.1
  have hb := C.2.1
  unfold V_X9_standsBetween_71 at h
  refine lv_istore (lv' := [(7, .int t0), (0, .ref x0), (3, .int x3), (4, .int x4), (5, .int x5), (6, .int x6)]) hx hb dX9_standsBetween_71 hl (by decide) rfl (fun ls hl => ?_)
  refine lv_aload_n hx hb dX9_standsBetween_73 rfl (lv_at hl 1 rfl) ?_
  obtain ⟨g1, h⟩ := h
  refine q_getI C hP (k := 0) (lay_X9 C.hA) rfl (by decide) g1 (fl_X9_16 C.hA) dX9_standsBetween_74 ?_
  refine lv_if_eq (tgt := 85) hx hb dX9_standsBetween_77 (by decide) (fun c77 => ?_) (fun c77 => ?_)
  · have h := h.1 c77
    refine lv_iload_n hx hb dX9_standsBetween_85 rfl (lv_at hl 2 rfl) ?_
    exact b_X9_standsBetween_86 C hr hlk h (lv_sub hl [1, 4, 5, 0] rfl) hP
  · have h := h.2 c77
    refine lv_iload hx hb dX9_standsBetween_80 (lv_at hl 3 rfl) ?_
    refine lv_goto (tgt := 86) hx hb dX9_standsBetween_82 (by decide) ?_
    exact b_X9_standsBetween_86 C hr hlk h (lv_sub hl [1, 4, 5, 0] rfl) hP
set_option maxHeartbeats 4000000 in
set_option maxRecDepth 100000 in
theorem b_X9_standsBetween_27 {G : Gx} {Q : Int32 → Mm → Prop} {p : Program} {l : Launch} {e : Env} {s : State} {m : MethodId} {args : Array Value} {below : List Frame} {meth : Method} {c : Code} (C : Cx G p s m c cX9_standsBetween RX9 12) (hr : meth.sig.returnType = (some .boolean)) (hlk : meth.locks = false) {x0 : Nat} {x1 : Int32} {x2 : Int32} {x3 : Int32} {x4 : Int32} {x5 : Int32} {t0 : Int32} {u : Mm} {H : Heap} {locs : List Loc} {ls : Array Slot} (h : V_X9_standsBetween_27 G Q x0 x1 x2 x3 x4 x5 t0 u) (hl : lv_has ls 12 [(0, .ref x0), (1, .int x1), (2, .int x2), (3, .int x3), (4, .int x4), (5, .int x5)]) (hP : Hp G u s H locs) : W p l e rm_X9_standsBetween s m args below meth c H locs 0 0 (MQ below (Ei G Q) args s 0 0 (ag G)) (F0 m 27 ls [.int t0]) := by
  have hx := C.1
  have hb := C.2.1
  unfold V_X9_standsBetween_27 at h
  refine lv_istore (lv' := [(6, .int t0), (0, .ref x0), (1, .int x1), (2, .int x2), (3, .int x3), (4, .int x4), (5, .int x5)]) hx hb dX9_standsBetween_27 hl (by decide) rfl (fun ls hl => ?_)
  refine lv_aload_n hx hb dX9_standsBetween_29 rfl (lv_at hl 1 rfl) ?_
  obtain ⟨g1, h⟩ := h
  refine q_getI C hP (k := 1) (lay_X9 C.hA) rfl (by decide) g1 (fl_X9_20 C.hA) dX9_standsBetween_30 ?_
  refine lv_iload hx hb dX9_standsBetween_33 (lv_at hl 6 rfl) ?_
  refine lv_iload hx hb dX9_standsBetween_35 (lv_at hl 0 rfl) ?_
  refine va_mmin hx hb (C.2.2.2.1.trans hl.1.symm) C.2.2.1 (ml_X9_23 C.hA) (st_J9_min_7cf53 C.hA) (ini_J9 C.hA) (cd_J9_min_7cf53 C.hA) (Nat.le_of_ble_eq_true rfl) (Nat.le_of_ble_eq_true rfl) (Nat.le_of_ble_eq_true rfl) (Nat.le_of_ble_eq_true rfl) dX9_standsBetween_37 ?_
  refine lv_icmp_le (tgt := 57) hx hb dX9_standsBetween_40 (by decide) (fun c40 => ?_) (fun c40 => ?_)
  · have h := h.1 c40
    refine lv_iconst (v := (0 : Int32)) hx hb dX9_standsBetween_57 (by decide) ?_
    exact q_zret C hr hlk hP (by decide) h (by decide) (by decide) dX9_standsBetween_58
  · have h := h.2 c40
    refine lv_aload_n hx hb dX9_standsBetween_43 rfl (lv_at hl 1 rfl) ?_
    refine q_getI C hP (k := 1) (lay_X9 C.hA) rfl (by decide) g1 (fl_X9_20 C.hA) dX9_standsBetween_44 ?_
    refine lv_iload hx hb dX9_standsBetween_47 (lv_at hl 6 rfl) ?_
    refine lv_iload hx hb dX9_standsBetween_49 (lv_at hl 0 rfl) ?_
    refine va_mmax hx hb (C.2.2.2.1.trans hl.1.symm) C.2.2.1 (ml_X9_29 C.hA) (st_J9_max_7cf53 C.hA) (ini_J9 C.hA) (cd_J9_max_7cf53 C.hA) (Nat.le_of_ble_eq_true rfl) (Nat.le_of_ble_eq_true rfl) (Nat.le_of_ble_eq_true rfl) (Nat.le_of_ble_eq_true rfl) dX9_standsBetween_51 ?_
    refine lv_icmp_lt (tgt := 59) hx hb dX9_standsBetween_54 (by decide) (fun c54 => ?_) (fun c54 => ?_)
    · have h := h.1 c54
      refine lv_aload_n hx hb dX9_standsBetween_59 rfl (lv_at hl 1 rfl) ?_
      refine q_getI C hP (k := 0) (lay_X9 C.hA) rfl (by decide) g1 (fl_X9_16 C.hA) dX9_standsBetween_60 ?_
      refine lv_if_eq (tgt := 70) hx hb dX9_standsBetween_63 (by decide) (fun c63 => ?_) (fun c63 => ?_)
      · have h := h.1 c63
        refine lv_iload_n hx hb dX9_standsBetween_70 rfl (lv_at hl 2 rfl) ?_
        exact b_X9_standsBetween_71 C hr hlk h (lv_sub hl [1, 4, 5, 6, 0] rfl) hP
      · have h := h.2 c63
        refine lv_iload_n hx hb dX9_standsBetween_66 rfl (lv_at hl 3 rfl) ?_
        refine lv_goto (tgt := 71) hx hb dX9_standsBetween_67 (by decide) ?_
        exact b_X9_standsBetween_71 C hr hlk h (lv_sub hl [1, 4, 5, 6, 0] rfl) hP
    · have h := h.2 c54
      refine lv_iconst (v := (0 : Int32)) hx hb dX9_standsBetween_57 (by decide) ?_
      exact q_zret C hr hlk hP (by decide) h (by decide) (by decide) dX9_standsBetween_58
set_option maxHeartbeats 4000000 in
set_option maxRecDepth 100000 in
theorem b_X9_standsBetween_12 {G : Gx} {Q : Int32 → Mm → Prop} {p : Program} {l : Launch} {e : Env} {s : State} {m : MethodId} {args : Array Value} {below : List Frame} {meth : Method} {c : Code} (C : Cx G p s m c cX9_standsBetween RX9 12) (hr : meth.sig.returnType = (some .boolean)) (hlk : meth.locks = false) {x0 : Nat} {x1 : Int32} {x2 : Int32} {x3 : Int32} {x4 : Int32} {t0 : Int32} {u : Mm} {H : Heap} {locs : List Loc} {ls : Array Slot} (h : V_X9_standsBetween_12 G Q x0 x1 x2 x3 x4 t0 u) (hl : lv_has ls 12 [(0, .ref x0), (1, .int x1), (2, .int x2), (3, .int x3), (4, .int x4)]) (hP : Hp G u s H locs) : W p l e rm_X9_standsBetween s m args below meth c H locs 0 0 (MQ below (Ei G Q) args s 0 0 (ag G)) (F0 m 12 ls [.int t0]) := by
  have hx := C.1
  have hb := C.2.1
  unfold V_X9_standsBetween_12 at h
  refine lv_istore (lv' := [(5, .int t0), (0, .ref x0), (1, .int x1), (2, .int x2), (3, .int x3), (4, .int x4)]) hx hb dX9_standsBetween_12 hl (by decide) rfl (fun ls hl => ?_)
  refine lv_aload_n hx hb dX9_standsBetween_14 rfl (lv_at hl 1 rfl) ?_
  obtain ⟨g1, h⟩ := h
  refine q_getI C hP (k := 0) (lay_X9 C.hA) rfl (by decide) g1 (fl_X9_16 C.hA) dX9_standsBetween_15 ?_
  refine lv_if_eq (tgt := 25) hx hb dX9_standsBetween_18 (by decide) (fun c18 => ?_) (fun c18 => ?_)
  · have h := h.1 c18
    refine lv_iload hx hb dX9_standsBetween_25 (lv_at hl 5 rfl) ?_
    exact b_X9_standsBetween_27 C hr hlk h (lv_sub hl [1, 2, 3, 4, 5, 0] rfl) hP
  · have h := h.2 c18
    refine lv_iload_n hx hb dX9_standsBetween_21 rfl (lv_at hl 4 rfl) ?_
    refine lv_goto (tgt := 27) hx hb dX9_standsBetween_22 (by decide) ?_
    exact b_X9_standsBetween_27 C hr hlk h (lv_sub hl [1, 2, 3, 4, 5, 0] rfl) hP
set_option maxHeartbeats 4000000 in
set_option maxRecDepth 100000 in
theorem c_X9_standsBetween {l : Launch} {G : Gx} {p0 : Nat} {p1 : Int32} {p2 : Int32} {p3 : Int32} {p4 : Int32} {u : Mm} {Q : Int32 → Mm → Prop} (h : V_X9_standsBetween G p0 p1 p2 p3 p4 u Q) : Met l yX9_standsBetween [.code yX9_standsBetween cX9_standsBetween 12 (some .boolean)] rm_X9_standsBetween (va_Pc [.ref p0, .int p1, .int p2, .int p3, .int p4] (Wd G u)) (Ei G Q) 0 0 (ag G) := by
  refine q_met (by decide) (Nat.le_of_ble_eq_true rfl) ?_
  intro p e s m below meth c ls C hr hlk hnm hl hP
  have hl : lv_has ls 12 [(0, .ref p0), (1, .int p1), (2, .int p2), (3, .int p3), (4, .int p4)] := hl
  generalize ([.ref p0, .int p1, .int p2, .int p3, .int p4] : List Value).toArray = args
  have hx := C.1
  have hb := C.2.1
  unfold V_X9_standsBetween at h
  refine lv_aload_n hx hb dX9_standsBetween_0 rfl (lv_at hl 0 rfl) ?_
  obtain ⟨g1, h⟩ := h
  refine q_getI C hP (k := 0) (lay_X9 C.hA) rfl (by decide) g1 (fl_X9_16 C.hA) dX9_standsBetween_1 ?_
  refine lv_if_eq (tgt := 11) hx hb dX9_standsBetween_4 (by decide) (fun c4 => ?_) (fun c4 => ?_)
  · have h := h.1 c4
    refine lv_iload_n hx hb dX9_standsBetween_11 rfl (lv_at hl 2 rfl) ?_
    exact b_X9_standsBetween_12 C hr hlk h (lv_sub hl [0, 1, 2, 3, 4] rfl) hP
  · have h := h.2 c4
    refine lv_iload_n hx hb dX9_standsBetween_7 rfl (lv_at hl 1 rfl) ?_
    refine lv_goto (tgt := 12) hx hb dX9_standsBetween_8 (by decide) ?_
    exact b_X9_standsBetween_12 C hr hlk h (lv_sub hl [0, 1, 2, 3, 4] rfl) hP
-- X4_hidersBetween
abbrev rm_X4_hidersBetween : Room := { frames := 2, cells := 0, slots := 0, locals := 45 }
theorem hd_X4_hidersBetween : yX4_hidersBetween.cls ≠ "java/lang/invoke/MethodHandle" ∧ yX4_hidersBetween.cls ≠ "java/lang/invoke/VarHandle" ∧ (parseMethodDescriptor yX4_hidersBetween.desc).map (fun d => d.parameters.length) = some 4 := by decide +kernel
def V_X4_hidersBetween_42 (G : Gx) (Q : Int32 → Mm → Prop) (k_6 : Nat → Int32 → Int32 → Int32 → Int32 → Int32 → Int32 → Mm → Prop) (x0 : Nat) (x1 : Int32) (x2 : Int32) (x3 : Int32) (x4 : Int32) (x5 : Int32) (x6 : Int32) (u : Mm) : Prop :=
  ∀ x6_42 : Int32, x6_42 = x6 + (1 : Int32) → k_6 x0 x1 x2 x3 x4 x5 x6_42 u
def V_X4_hidersBetween_6_B (G : Gx) (Q : Int32 → Mm → Prop) (k_6 : Nat → Int32 → Int32 → Int32 → Int32 → Int32 → Int32 → Mm → Prop) (x0 : Nat) (x1 : Int32) (x2 : Int32) (x3 : Int32) (x4 : Int32) (x5 : Int32) (x6 : Int32) (u : Mm) : Prop :=
  kd G x0 = 4 ∧ (((gI u x0 3) ≤ x6 → Q x5 u) ∧ (¬ (gI u x0 3) ≤ x6 → (gR u x0 0) ≠ 0 ∧ kd G (gR u x0 0) = 17 ∧ vp_in x6 (ln G (gR u x0 0)) ∧ (gR u (gR u x0 0) x6.toNatClampNeg) ≠ 0 ∧ kd G (gR u (gR u x0 0) x6.toNatClampNeg) = 9 ∧ V_X9_standsBetween G (gR u (gR u x0 0) x6.toNatClampNeg) x1 x2 x3 x4 u (fun (v_27 : Int32) (u_27 : Mm) => ((v_27 = 0 → V_X4_hidersBetween_42 G Q k_6 x0 x1 x2 x3 x4 x5 x6 u_27) ∧ (¬ v_27 = 0 → ∀ x5_40 : Int32, x5_40 = (x5 ||| (shl (1 : Int32) x6)) → V_X4_hidersBetween_42 G Q k_6 x0 x1 x2 x3 x4 x5_40 x6 u_27)))))
def V_X4_hidersBetween_6 (G : Gx) (Q : Int32 → Mm → Prop) : Nat → (Nat → Int32 → Int32 → Int32 → Int32 → Int32 → Int32 → Mm → Prop)
  | 0 => fun _ _ _ _ _ _ _ _ => False
  | n + 1 => fun x0 x1 x2 x3 x4 x5 x6 u => V_X4_hidersBetween_6_B G Q (V_X4_hidersBetween_6 G Q n) x0 x1 x2 x3 x4 x5 x6 u
def V_X4_hidersBetween (G : Gx) (p0 : Nat) (p1 : Int32) (p2 : Int32) (p3 : Int32) (p4 : Int32) (u : Mm) (Q : Int32 → Mm → Prop) : Prop :=
  ∃ n : Nat, V_X4_hidersBetween_6 G Q n p0 p1 p2 p3 p4 (0 : Int32) (0 : Int32) u
set_option maxHeartbeats 4000000 in
set_option maxRecDepth 100000 in
theorem b_X4_hidersBetween_42 {G : Gx} {Q : Int32 → Mm → Prop} {p : Program} {l : Launch} {e : Env} {s : State} {m : MethodId} {args : Array Value} {below : List Frame} {meth : Method} {c : Code} (C : Cx G p s m c cX4_hidersBetween RX4 7) (hr : meth.sig.returnType = (some .int)) (hlk : meth.locks = false) {k_6 : Nat → Int32 → Int32 → Int32 → Int32 → Int32 → Int32 → Mm → Prop} (hk_6 : ∀ (x0 : Nat) (x1 : Int32) (x2 : Int32) (x3 : Int32) (x4 : Int32) (x5 : Int32) (x6 : Int32) (u : Mm) (H : Heap) (locs : List Loc) (ls : Array Slot), k_6 x0 x1 x2 x3 x4 x5 x6 u → lv_has ls 7 [(0, .ref x0), (1, .int x1), (2, .int x2), (3, .int x3), (4, .int x4), (5, .int x5), (6, .int x6)] → Hp G u s H locs → W p l e rm_X4_hidersBetween s m args below meth c H locs 0 0 (MQ below (Ei G Q) args s 0 0 (ag G)) (F0 m 6 ls [])) {x0 : Nat} {x1 : Int32} {x2 : Int32} {x3 : Int32} {x4 : Int32} {x5 : Int32} {x6 : Int32} {u : Mm} {H : Heap} {locs : List Loc} {ls : Array Slot} (h : V_X4_hidersBetween_42 G Q k_6 x0 x1 x2 x3 x4 x5 x6 u) (hl : lv_has ls 7 [(0, .ref x0), (1, .int x1), (2, .int x2), (3, .int x3), (4, .int x4), (5, .int x5), (6, .int x6)]) (hP : Hp G u s H locs) : W p l e rm_X4_hidersBetween s m args below meth c H locs 0 0 (MQ below (Ei G Q) args s 0 0 (ag G)) (F0 m 42 ls []) := by
  have hx := C.1
  have hb := C.2.1
  unfold V_X4_hidersBetween_42 at h
  obtain ⟨x6_42, ex6_42⟩ : ∃ y : Int32, y = x6 + (1 : Int32) := ⟨_, rfl⟩
  have h := h x6_42 ex6_42
  refine lv_iinc (v := x6_42) (lv' := [(6, .int x6_42), (0, .ref x0), (1, .int x1), (2, .int x2), (3, .int x3), (4, .int x4), (5, .int x5)]) hx hb dX4_hidersBetween_42 hl (k := 6) rfl (by rw [ex6_42]; rfl) (by decide) rfl (fun ls hl => ?_)
  refine lv_goto (tgt := 6) hx hb dX4_hidersBetween_45 (by decide) ?_
  exact hk_6 x0 x1 x2 x3 x4 x5 x6_42 u _ _ _ h (lv_sub hl [1, 2, 3, 4, 5, 6, 0] rfl) hP
set_option maxHeartbeats 4000000 in
set_option maxRecDepth 100000 in
theorem b_X4_hidersBetween_6 {G : Gx} {Q : Int32 → Mm → Prop} {p : Program} {l : Launch} {e : Env} {s : State} {m : MethodId} {args : Array Value} {below : List Frame} {meth : Method} {c : Code} (C : Cx G p s m c cX4_hidersBetween RX4 7) (hr : meth.sig.returnType = (some .int)) (hlk : meth.locks = false) {k_6 : Nat → Int32 → Int32 → Int32 → Int32 → Int32 → Int32 → Mm → Prop} (hk_6 : ∀ (x0 : Nat) (x1 : Int32) (x2 : Int32) (x3 : Int32) (x4 : Int32) (x5 : Int32) (x6 : Int32) (u : Mm) (H : Heap) (locs : List Loc) (ls : Array Slot), k_6 x0 x1 x2 x3 x4 x5 x6 u → lv_has ls 7 [(0, .ref x0), (1, .int x1), (2, .int x2), (3, .int x3), (4, .int x4), (5, .int x5), (6, .int x6)] → Hp G u s H locs → W p l e rm_X4_hidersBetween s m args below meth c H locs 0 0 (MQ below (Ei G Q) args s 0 0 (ag G)) (F0 m 6 ls [])) {x0 : Nat} {x1 : Int32} {x2 : Int32} {x3 : Int32} {x4 : Int32} {x5 : Int32} {x6 : Int32} {u : Mm} {H : Heap} {locs : List Loc} {ls : Array Slot} (h : V_X4_hidersBetween_6_B G Q k_6 x0 x1 x2 x3 x4 x5 x6 u) (hl : lv_has ls 7 [(0, .ref x0), (1, .int x1), (2, .int x2), (3, .int x3), (4, .int x4), (5, .int x5), (6, .int x6)]) (hP : Hp G u s H locs) : W p l e rm_X4_hidersBetween s m args below meth c H locs 0 0 (MQ below (Ei G Q) args s 0 0 (ag G)) (F0 m 6 ls []) := by
  have hx := C.1
  have hb := C.2.1
  unfold V_X4_hidersBetween_6_B at h
  refine lv_iload hx hb dX4_hidersBetween_6 (lv_at hl 6 rfl) ?_
  refine lv_aload_n hx hb dX4_hidersBetween_8 rfl (lv_at hl 0 rfl) ?_
  obtain ⟨g1, h⟩ := h
  refine q_getI C hP (k := 3) (lay_X4 C.hA) rfl (by decide) g1 (fl_X4_35 C.hA) dX4_hidersBetween_9 ?_
  refine lv_icmp_ge (tgt := 48) hx hb dX4_hidersBetween_12 (by decide) (fun c12 => ?_) (fun c12 => ?_)
  · have h := h.1 c12
    refine lv_iload hx hb dX4_hidersBetween_48 (lv_at hl 5 rfl) ?_
    exact q_iret C hr hlk hP h (by decide) (by decide) dX4_hidersBetween_50
  · have h := h.2 c12
    refine lv_aload_n hx hb dX4_hidersBetween_15 rfl (lv_at hl 0 rfl) ?_
    obtain ⟨g2, h⟩ := h
    refine q_getR C hP (k := 0) (lay_X4 C.hA) rfl (by decide) g1 g2 (fl_X4_11 C.hA) dX4_hidersBetween_16 ?_
    refine lv_iload hx hb dX4_hidersBetween_19 (lv_at hl 6 rfl) ?_
    obtain ⟨g3, h⟩ := h
    obtain ⟨g4, h⟩ := h
    obtain ⟨g5, h⟩ := h
    refine q_aald C hP g3 (by decide) rfl g4 g5 dX4_hidersBetween_21 ?_
    refine lv_iload_n hx hb dX4_hidersBetween_22 rfl (lv_at hl 1 rfl) ?_
    refine lv_iload_n hx hb dX4_hidersBetween_23 rfl (lv_at hl 2 rfl) ?_
    refine lv_iload_n hx hb dX4_hidersBetween_24 rfl (lv_at hl 3 rfl) ?_
    refine lv_iload hx hb dX4_hidersBetween_25 (lv_at hl 4 rfl) ?_
    obtain ⟨g6, h⟩ := h
    refine q_cali (q_runVN C hP (c_X9_standsBetween h) (cd_X9_standsBetween C.hA) (ini_X9 C.hA) (mn_X4_51 C.hA) (im_X9_standsBetween C.hA) (sl_X9_standsBetween C.hA) g6 (by decide) rfl hd_X9_standsBetween ⟨rfl, rfl⟩ ⟨Nat.le_of_ble_eq_true rfl, Nat.le_of_ble_eq_true rfl⟩ ⟨Nat.le_of_ble_eq_true rfl, Nat.le_of_ble_eq_true rfl⟩ hl.1 rfl (Nat.le_of_ble_eq_true rfl) dX4_hidersBetween_27) hP (fun v_27 u_27 H locs h hP => ?_)
    refine lv_if_eq (tgt := 42) hx hb dX4_hidersBetween_30 (by decide) (fun c30 => ?_) (fun c30 => ?_)
    · have h := h.1 c30
      exact b_X4_hidersBetween_42 C hr hlk hk_6 h (lv_sub hl [0, 1, 2, 3, 4, 5, 6] rfl) hP
    · have h := h.2 c30
      refine lv_iload hx hb dX4_hidersBetween_33 (lv_at hl 5 rfl) ?_
      refine lv_iconst (v := (1 : Int32)) hx hb dX4_hidersBetween_35 (by decide) ?_
      refine lv_iload hx hb dX4_hidersBetween_36 (lv_at hl 6 rfl) ?_
      refine lv_ishl hx hb dX4_hidersBetween_38 ?_
      refine lv_ior hx hb dX4_hidersBetween_39 ?_
      refine lv_topi (fun x5_40 ex5_40 => ?_)
      have h := h x5_40 ex5_40
      refine lv_istore (lv' := [(5, .int x5_40), (0, .ref x0), (1, .int x1), (2, .int x2), (3, .int x3), (4, .int x4), (6, .int x6)]) hx hb dX4_hidersBetween_40 hl (by decide) rfl (fun ls hl => ?_)
      exact b_X4_hidersBetween_42 C hr hlk hk_6 h (lv_sub hl [1, 2, 3, 4, 5, 0, 6] rfl) hP
theorem l_X4_hidersBetween_6 {G : Gx} {Q : Int32 → Mm → Prop} {p : Program} {l : Launch} {e : Env} {s : State} {m : MethodId} {args : Array Value} {below : List Frame} {meth : Method} {c : Code} (C : Cx G p s m c cX4_hidersBetween RX4 7) (hr : meth.sig.returnType = (some .int)) (hlk : meth.locks = false) : ∀ (n : Nat) (x0 : Nat) (x1 : Int32) (x2 : Int32) (x3 : Int32) (x4 : Int32) (x5 : Int32) (x6 : Int32) (u : Mm) (H : Heap) (locs : List Loc) (ls : Array Slot), V_X4_hidersBetween_6 G Q n x0 x1 x2 x3 x4 x5 x6 u → lv_has ls 7 [(0, .ref x0), (1, .int x1), (2, .int x2), (3, .int x3), (4, .int x4), (5, .int x5), (6, .int x6)] → Hp G u s H locs → W p l e rm_X4_hidersBetween s m args below meth c H locs 0 0 (MQ below (Ei G Q) args s 0 0 (ag G)) (F0 m 6 ls []) := by
  intro n
  induction n with
  | zero => intro x0 x1 x2 x3 x4 x5 x6 u H locs ls h; exact h.elim
  | succ n ih => intro x0 x1 x2 x3 x4 x5 x6 u H locs ls h hl hP; exact b_X4_hidersBetween_6 C hr hlk ih h hl hP
set_option maxHeartbeats 4000000 in
set_option maxRecDepth 100000 in
theorem c_X4_hidersBetween {l : Launch} {G : Gx} {p0 : Nat} {p1 : Int32} {p2 : Int32} {p3 : Int32} {p4 : Int32} {u : Mm} {Q : Int32 → Mm → Prop} (h : V_X4_hidersBetween G p0 p1 p2 p3 p4 u Q) : Met l yX4_hidersBetween [.code yX4_hidersBetween cX4_hidersBetween 7 (some .int)] rm_X4_hidersBetween (va_Pc [.ref p0, .int p1, .int p2, .int p3, .int p4] (Wd G u)) (Ei G Q) 0 0 (ag G) := by
  refine q_met (by decide) (Nat.le_of_ble_eq_true rfl) ?_
  intro p e s m below meth c ls C hr hlk hnm hl hP
  have hl : lv_has ls 7 [(0, .ref p0), (1, .int p1), (2, .int p2), (3, .int p3), (4, .int p4)] := hl
  generalize ([.ref p0, .int p1, .int p2, .int p3, .int p4] : List Value).toArray = args
  have hx := C.1
  have hb := C.2.1
  unfold V_X4_hidersBetween at h
  refine lv_iconst (v := (0 : Int32)) hx hb dX4_hidersBetween_0 (by decide) ?_
  refine lv_istore (lv' := [(5, .int (0 : Int32)), (0, .ref p0), (1, .int p1), (2, .int p2), (3, .int p3), (4, .int p4)]) hx hb dX4_hidersBetween_1 hl (by decide) rfl (fun ls hl => ?_)
  refine lv_iconst (v := (0 : Int32)) hx hb dX4_hidersBetween_3 (by decide) ?_
  refine lv_istore (lv' := [(6, .int (0 : Int32)), (5, .int (0 : Int32)), (0, .ref p0), (1, .int p1), (2, .int p2), (3, .int p3), (4, .int p4)]) hx hb dX4_hidersBetween_4 hl (by decide) rfl (fun ls hl => ?_)
  obtain ⟨n, h⟩ := h
  exact l_X4_hidersBetween_6 C hr hlk n p0 p1 p2 p3 p4 (0 : Int32) (0 : Int32) u _ _ _ h (lv_sub hl [2, 3, 4, 5, 6, 1, 0] rfl) hP
-- X9_footX
abbrev rm_X9_footX : Room := { frames := 0, cells := 0, slots := 0, locals := 0 }
theorem hd_X9_footX : yX9_footX.cls ≠ "java/lang/invoke/MethodHandle" ∧ yX9_footX.cls ≠ "java/lang/invoke/VarHandle" ∧ (parseMethodDescriptor yX9_footX.desc).map (fun d => d.parameters.length) = some 1 := by decide +kernel
def V_X9_footX (G : Gx) (p0 : Nat) (p1 : Int32) (u : Mm) (Q : Int32 → Mm → Prop) : Prop :=
  kd G p0 = 9 ∧ (((gI u p0 0) = 0 → Q p1 u) ∧ (¬ (gI u p0 0) = 0 → Q (gI u p0 1) u))
set_option maxHeartbeats 4000000 in
set_option maxRecDepth 100000 in
theorem c_X9_footX {l : Launch} {G : Gx} {p0 : Nat} {p1 : Int32} {u : Mm} {Q : Int32 → Mm → Prop} (h : V_X9_footX G p0 p1 u Q) : Met l yX9_footX [.code yX9_footX cX9_footX 2 (some .int)] rm_X9_footX (va_Pc [.ref p0, .int p1] (Wd G u)) (Ei G Q) 0 0 (ag G) := by
  refine q_met (by decide) (Nat.le_of_ble_eq_true rfl) ?_
  intro p e s m below meth c ls C hr hlk hnm hl hP
  have hl : lv_has ls 2 [(0, .ref p0), (1, .int p1)] := hl
  generalize ([.ref p0, .int p1] : List Value).toArray = args
  have hx := C.1
  have hb := C.2.1
  unfold V_X9_footX at h
  refine lv_aload_n hx hb dX9_footX_0 rfl (lv_at hl 0 rfl) ?_
  obtain ⟨g1, h⟩ := h
  refine q_getI C hP (k := 0) (lay_X9 C.hA) rfl (by decide) g1 (fl_X9_16 C.hA) dX9_footX_1 ?_
  refine lv_if_eq (tgt := 14) hx hb dX9_footX_4 (by decide) (fun c4 => ?_) (fun c4 => ?_)
  · have h := h.1 c4
    refine lv_iload_n hx hb dX9_footX_14 rfl (lv_at hl 1 rfl) ?_
    exact q_iret C hr hlk hP h (by decide) (by decide) dX9_footX_15
  · have h := h.2 c4
    refine lv_aload_n hx hb dX9_footX_7 rfl (lv_at hl 0 rfl) ?_
    refine q_getI C hP (k := 1) (lay_X9 C.hA) rfl (by decide) g1 (fl_X9_20 C.hA) dX9_footX_8 ?_
    refine lv_goto (tgt := 15) hx hb dX9_footX_11 (by decide) ?_
    exact q_iret C hr hlk hP h (by decide) (by decide) dX9_footX_15
-- X9_footY
abbrev rm_X9_footY : Room := { frames := 0, cells := 0, slots := 0, locals := 0 }
theorem hd_X9_footY : yX9_footY.cls ≠ "java/lang/invoke/MethodHandle" ∧ yX9_footY.cls ≠ "java/lang/invoke/VarHandle" ∧ (parseMethodDescriptor yX9_footY.desc).map (fun d => d.parameters.length) = some 1 := by decide +kernel
def V_X9_footY (G : Gx) (p0 : Nat) (p1 : Int32) (u : Mm) (Q : Int32 → Mm → Prop) : Prop :=
  kd G p0 = 9 ∧ (((gI u p0 0) = 0 → Q (gI u p0 1) u) ∧ (¬ (gI u p0 0) = 0 → Q p1 u))
set_option maxHeartbeats 4000000 in
set_option maxRecDepth 100000 in
theorem c_X9_footY {l : Launch} {G : Gx} {p0 : Nat} {p1 : Int32} {u : Mm} {Q : Int32 → Mm → Prop} (h : V_X9_footY G p0 p1 u Q) : Met l yX9_footY [.code yX9_footY cX9_footY 2 (some .int)] rm_X9_footY (va_Pc [.ref p0, .int p1] (Wd G u)) (Ei G Q) 0 0 (ag G) := by
  refine q_met (by decide) (Nat.le_of_ble_eq_true rfl) ?_
  intro p e s m below meth c ls C hr hlk hnm hl hP
  have hl : lv_has ls 2 [(0, .ref p0), (1, .int p1)] := hl
  generalize ([.ref p0, .int p1] : List Value).toArray = args
  have hx := C.1
  have hb := C.2.1
  unfold V_X9_footY at h
  refine lv_aload_n hx hb dX9_footY_0 rfl (lv_at hl 0 rfl) ?_
  obtain ⟨g1, h⟩ := h
  refine q_getI C hP (k := 0) (lay_X9 C.hA) rfl (by decide) g1 (fl_X9_16 C.hA) dX9_footY_1 ?_
  refine lv_if_eq (tgt := 11) hx hb dX9_footY_4 (by decide) (fun c4 => ?_) (fun c4 => ?_)
  · have h := h.1 c4
    refine lv_aload_n hx hb dX9_footY_11 rfl (lv_at hl 0 rfl) ?_
    refine q_getI C hP (k := 1) (lay_X9 C.hA) rfl (by decide) g1 (fl_X9_20 C.hA) dX9_footY_12 ?_
    exact q_iret C hr hlk hP h (by decide) (by decide) dX9_footY_15
  · have h := h.2 c4
    refine lv_iload_n hx hb dX9_footY_7 rfl (lv_at hl 1 rfl) ?_
    refine lv_goto (tgt := 15) hx hb dX9_footY_8 (by decide) ?_
    exact q_iret C hr hlk hP h (by decide) (by decide) dX9_footY_15
-- X10_meets
abbrev rm_X10_meets : Room := { frames := 1, cells := 0, slots := 0, locals := 14 }
theorem hd_X10_meets : yX10_meets.cls ≠ "java/lang/invoke/MethodHandle" ∧ yX10_meets.cls ≠ "java/lang/invoke/VarHandle" ∧ (parseMethodDescriptor yX10_meets.desc).map (fun d => d.parameters.length) = some 4 := by decide +kernel
def V_X10_meets (G : Gx) (p0 : Nat) (p1 : Int32) (p2 : Int32) (p3 : Int32) (p4 : Int32) (u : Mm) (Q : Int32 → Mm → Prop) : Prop :=
  kd G p0 = 10 ∧ (((mx p1 p3) < (gI u p0 0) → Q (0 : Int32) u) ∧ (¬ (mx p1 p3) < (gI u p0 0) → (((gI u p0 2) < (mn p1 p3) → Q (0 : Int32) u) ∧ (¬ (gI u p0 2) < (mn p1 p3) → (((mx p2 p4) < (gI u p0 1) → Q (0 : Int32) u) ∧ (¬ (mx p2 p4) < (gI u p0 1) → (((mn p2 p4) ≤ (gI u p0 3) → ∀ x5_55 : Int32, x5_55 = (p3 - p1) → ∀ x6_61 : Int32, x6_61 = (p4 - p2) → ∀ x7_72 : Int32, x7_72 = (x5_55 * ((gI u p0 1) - p2)) → ∀ x8_83 : Int32, x8_83 = (x5_55 * ((gI u p0 3) - p2)) → ∀ x9_94 : Int32, x9_94 = (x6_61 * ((gI u p0 0) - p1)) → ∀ x10_105 : Int32, x10_105 = (x6_61 * ((gI u p0 2) - p1)) → (((mx x9_94 x10_105) < (mn x7_72 x8_83) → Q (0 : Int32) u) ∧ (¬ (mx x9_94 x10_105) < (mn x7_72 x8_83) → (((mx x7_72 x8_83) < (mn x9_94 x10_105) → Q (0 : Int32) u) ∧ (¬ (mx x7_72 x8_83) < (mn x9_94 x10_105) → Q (1 : Int32) u))))) ∧ (¬ (mn p2 p4) ≤ (gI u p0 3) → Q (0 : Int32) u))))))))
set_option maxHeartbeats 4000000 in
set_option maxRecDepth 100000 in
theorem c_X10_meets {l : Launch} {G : Gx} {p0 : Nat} {p1 : Int32} {p2 : Int32} {p3 : Int32} {p4 : Int32} {u : Mm} {Q : Int32 → Mm → Prop} (h : V_X10_meets G p0 p1 p2 p3 p4 u Q) : Met l yX10_meets [.code yX10_meets cX10_meets 11 (some .boolean)] rm_X10_meets (va_Pc [.ref p0, .int p1, .int p2, .int p3, .int p4] (Wd G u)) (Ei G Q) 0 0 (ag G) := by
  refine q_met (by decide) (Nat.le_of_ble_eq_true rfl) ?_
  intro p e s m below meth c ls C hr hlk hnm hl hP
  have hl : lv_has ls 11 [(0, .ref p0), (1, .int p1), (2, .int p2), (3, .int p3), (4, .int p4)] := hl
  generalize ([.ref p0, .int p1, .int p2, .int p3, .int p4] : List Value).toArray = args
  have hx := C.1
  have hb := C.2.1
  unfold V_X10_meets at h
  refine lv_iload_n hx hb dX10_meets_0 rfl (lv_at hl 1 rfl) ?_
  refine lv_iload_n hx hb dX10_meets_1 rfl (lv_at hl 3 rfl) ?_
  refine va_mmax hx hb (C.2.2.2.1.trans hl.1.symm) C.2.2.1 (ml_X10_15 C.hA) (st_J9_max_7cf53 C.hA) (ini_J9 C.hA) (cd_J9_max_7cf53 C.hA) (Nat.le_of_ble_eq_true rfl) (Nat.le_of_ble_eq_true rfl) (Nat.le_of_ble_eq_true rfl) (Nat.le_of_ble_eq_true rfl) dX10_meets_2 ?_
  refine lv_aload_n hx hb dX10_meets_5 rfl (lv_at hl 0 rfl) ?_
  obtain ⟨g1, h⟩ := h
  refine q_getI C hP (k := 0) (lay_X10 C.hA) rfl (by decide) g1 (fl_X10_21 C.hA) dX10_meets_6 ?_
  refine lv_icmp_lt (tgt := 50) hx hb dX10_meets_9 (by decide) (fun c9 => ?_) (fun c9 => ?_)
  · have h := h.1 c9
    refine lv_iconst (v := (0 : Int32)) hx hb dX10_meets_50 (by decide) ?_
    exact q_zret C hr hlk hP (by decide) h (by decide) (by decide) dX10_meets_51
  · have h := h.2 c9
    refine lv_iload_n hx hb dX10_meets_12 rfl (lv_at hl 1 rfl) ?_
    refine lv_iload_n hx hb dX10_meets_13 rfl (lv_at hl 3 rfl) ?_
    refine va_mmin hx hb (C.2.2.2.1.trans hl.1.symm) C.2.2.1 (ml_X10_25 C.hA) (st_J9_min_7cf53 C.hA) (ini_J9 C.hA) (cd_J9_min_7cf53 C.hA) (Nat.le_of_ble_eq_true rfl) (Nat.le_of_ble_eq_true rfl) (Nat.le_of_ble_eq_true rfl) (Nat.le_of_ble_eq_true rfl) dX10_meets_14 ?_
    refine lv_aload_n hx hb dX10_meets_17 rfl (lv_at hl 0 rfl) ?_
    refine q_getI C hP (k := 2) (lay_X10 C.hA) rfl (by decide) g1 (fl_X10_28 C.hA) dX10_meets_18 ?_
    refine lv_icmp_gt (tgt := 50) hx hb dX10_meets_21 (by decide) (fun c21 => ?_) (fun c21 => ?_)
    · have h := h.1 c21
      refine lv_iconst (v := (0 : Int32)) hx hb dX10_meets_50 (by decide) ?_
      exact q_zret C hr hlk hP (by decide) h (by decide) (by decide) dX10_meets_51
    · have h := h.2 c21
      refine lv_iload_n hx hb dX10_meets_24 rfl (lv_at hl 2 rfl) ?_
      refine lv_iload hx hb dX10_meets_25 (lv_at hl 4 rfl) ?_
      refine va_mmax hx hb (C.2.2.2.1.trans hl.1.symm) C.2.2.1 (ml_X10_15 C.hA) (st_J9_max_7cf53 C.hA) (ini_J9 C.hA) (cd_J9_max_7cf53 C.hA) (Nat.le_of_ble_eq_true rfl) (Nat.le_of_ble_eq_true rfl) (Nat.le_of_ble_eq_true rfl) (Nat.le_of_ble_eq_true rfl) dX10_meets_27 ?_
      refine lv_aload_n hx hb dX10_meets_30 rfl (lv_at hl 0 rfl) ?_
      refine q_getI C hP (k := 1) (lay_X10 C.hA) rfl (by decide) g1 (fl_X10_31 C.hA) dX10_meets_31 ?_
      refine lv_icmp_lt (tgt := 50) hx hb dX10_meets_34 (by decide) (fun c34 => ?_) (fun c34 => ?_)
      · have h := h.1 c34
        refine lv_iconst (v := (0 : Int32)) hx hb dX10_meets_50 (by decide) ?_
        exact q_zret C hr hlk hP (by decide) h (by decide) (by decide) dX10_meets_51
      · have h := h.2 c34
        refine lv_iload_n hx hb dX10_meets_37 rfl (lv_at hl 2 rfl) ?_
        refine lv_iload hx hb dX10_meets_38 (lv_at hl 4 rfl) ?_
        refine va_mmin hx hb (C.2.2.2.1.trans hl.1.symm) C.2.2.1 (ml_X10_25 C.hA) (st_J9_min_7cf53 C.hA) (ini_J9 C.hA) (cd_J9_min_7cf53 C.hA) (Nat.le_of_ble_eq_true rfl) (Nat.le_of_ble_eq_true rfl) (Nat.le_of_ble_eq_true rfl) (Nat.le_of_ble_eq_true rfl) dX10_meets_40 ?_
        refine lv_aload_n hx hb dX10_meets_43 rfl (lv_at hl 0 rfl) ?_
        refine q_getI C hP (k := 3) (lay_X10 C.hA) rfl (by decide) g1 (fl_X10_34 C.hA) dX10_meets_44 ?_
        refine lv_icmp_le (tgt := 52) hx hb dX10_meets_47 (by decide) (fun c47 => ?_) (fun c47 => ?_)
        · have h := h.1 c47
          refine lv_iload_n hx hb dX10_meets_52 rfl (lv_at hl 3 rfl) ?_
          refine lv_iload_n hx hb dX10_meets_53 rfl (lv_at hl 1 rfl) ?_
          refine lv_isub hx hb dX10_meets_54 ?_
          refine lv_topi (fun x5_55 ex5_55 => ?_)
          have h := h x5_55 ex5_55
          refine lv_istore (lv' := [(5, .int x5_55), (0, .ref p0), (1, .int p1), (2, .int p2), (3, .int p3), (4, .int p4)]) hx hb dX10_meets_55 hl (by decide) rfl (fun ls hl => ?_)
          refine lv_iload hx hb dX10_meets_57 (lv_at hl 5 rfl) ?_
          refine lv_iload_n hx hb dX10_meets_59 rfl (lv_at hl 3 rfl) ?_
          refine lv_isub hx hb dX10_meets_60 ?_
          refine lv_topi (fun x6_61 ex6_61 => ?_)
          have h := h x6_61 ex6_61
          refine lv_istore (lv' := [(6, .int x6_61), (5, .int x5_55), (0, .ref p0), (1, .int p1), (2, .int p2), (3, .int p3), (4, .int p4)]) hx hb dX10_meets_61 hl (by decide) rfl (fun ls hl => ?_)
          refine lv_iload hx hb dX10_meets_63 (lv_at hl 1 rfl) ?_
          refine lv_aload_n hx hb dX10_meets_65 rfl (lv_at hl 2 rfl) ?_
          refine q_getI C hP (k := 1) (lay_X10 C.hA) rfl (by decide) g1 (fl_X10_31 C.hA) dX10_meets_66 ?_
          refine lv_iload_n hx hb dX10_meets_69 rfl (lv_at hl 4 rfl) ?_
          refine lv_isub hx hb dX10_meets_70 ?_
          refine lv_imul hx hb dX10_meets_71 ?_
          refine lv_topi (fun x7_72 ex7_72 => ?_)
          have h := h x7_72 ex7_72
          refine lv_istore (lv' := [(7, .int x7_72), (6, .int x6_61), (5, .int x5_55), (0, .ref p0), (1, .int p1), (2, .int p2), (3, .int p3), (4, .int p4)]) hx hb dX10_meets_72 hl (by decide) rfl (fun ls hl => ?_)
          refine lv_iload hx hb dX10_meets_74 (lv_at hl 2 rfl) ?_
          refine lv_aload_n hx hb dX10_meets_76 rfl (lv_at hl 3 rfl) ?_
          refine q_getI C hP (k := 3) (lay_X10 C.hA) rfl (by decide) g1 (fl_X10_34 C.hA) dX10_meets_77 ?_
          refine lv_iload_n hx hb dX10_meets_80 rfl (lv_at hl 5 rfl) ?_
          refine lv_isub hx hb dX10_meets_81 ?_
          refine lv_imul hx hb dX10_meets_82 ?_
          refine lv_topi (fun x8_83 ex8_83 => ?_)
          have h := h x8_83 ex8_83
          refine lv_istore (lv' := [(8, .int x8_83), (7, .int x7_72), (6, .int x6_61), (5, .int x5_55), (0, .ref p0), (1, .int p1), (2, .int p2), (3, .int p3), (4, .int p4)]) hx hb dX10_meets_83 hl (by decide) rfl (fun ls hl => ?_)
          refine lv_iload hx hb dX10_meets_85 (lv_at hl 2 rfl) ?_
          refine lv_aload_n hx hb dX10_meets_87 rfl (lv_at hl 4 rfl) ?_
          refine q_getI C hP (k := 0) (lay_X10 C.hA) rfl (by decide) g1 (fl_X10_21 C.hA) dX10_meets_88 ?_
          refine lv_iload_n hx hb dX10_meets_91 rfl (lv_at hl 5 rfl) ?_
          refine lv_isub hx hb dX10_meets_92 ?_
          refine lv_imul hx hb dX10_meets_93 ?_
          refine lv_topi (fun x9_94 ex9_94 => ?_)
          have h := h x9_94 ex9_94
          refine lv_istore (lv' := [(9, .int x9_94), (8, .int x8_83), (7, .int x7_72), (6, .int x6_61), (5, .int x5_55), (0, .ref p0), (1, .int p1), (2, .int p2), (3, .int p3), (4, .int p4)]) hx hb dX10_meets_94 hl (by decide) rfl (fun ls hl => ?_)
          refine lv_iload hx hb dX10_meets_96 (lv_at hl 3 rfl) ?_
          refine lv_aload_n hx hb dX10_meets_98 rfl (lv_at hl 5 rfl) ?_
          refine q_getI C hP (k := 2) (lay_X10 C.hA) rfl (by decide) g1 (fl_X10_28 C.hA) dX10_meets_99 ?_
          refine lv_iload_n hx hb dX10_meets_102 rfl (lv_at hl 6 rfl) ?_
          refine lv_isub hx hb dX10_meets_103 ?_
          refine lv_imul hx hb dX10_meets_104 ?_
          refine lv_topi (fun x10_105 ex10_105 => ?_)
          have h := h x10_105 ex10_105
          refine lv_istore (lv' := [(10, .int x10_105), (9, .int x9_94), (8, .int x8_83), (7, .int x7_72), (6, .int x6_61), (5, .int x5_55), (0, .ref p0), (1, .int p1), (2, .int p2), (3, .int p3), (4, .int p4)]) hx hb dX10_meets_105 hl (by decide) rfl (fun ls hl => ?_)
          refine lv_iload hx hb dX10_meets_107 (lv_at hl 3 rfl) ?_
          refine lv_iload hx hb dX10_meets_109 (lv_at hl 2 rfl) ?_
          refine va_mmin hx hb (C.2.2.2.1.trans hl.1.symm) C.2.2.1 (ml_X10_25 C.hA) (st_J9_min_7cf53 C.hA) (ini_J9 C.hA) (cd_J9_min_7cf53 C.hA) (Nat.le_of_ble_eq_true rfl) (Nat.le_of_ble_eq_true rfl) (Nat.le_of_ble_eq_true rfl) (Nat.le_of_ble_eq_true rfl) dX10_meets_111 ?_
          refine lv_iload hx hb dX10_meets_114 (lv_at hl 1 rfl) ?_
          refine lv_iload hx hb dX10_meets_116 (lv_at hl 0 rfl) ?_
          refine va_mmax hx hb (C.2.2.2.1.trans hl.1.symm) C.2.2.1 (ml_X10_15 C.hA) (st_J9_max_7cf53 C.hA) (ini_J9 C.hA) (cd_J9_max_7cf53 C.hA) (Nat.le_of_ble_eq_true rfl) (Nat.le_of_ble_eq_true rfl) (Nat.le_of_ble_eq_true rfl) (Nat.le_of_ble_eq_true rfl) dX10_meets_118 ?_
          refine lv_icmp_gt (tgt := 145) hx hb dX10_meets_121 (by decide) (fun c121 => ?_) (fun c121 => ?_)
          · have h := h.1 c121
            refine lv_iconst (v := (0 : Int32)) hx hb dX10_meets_145 (by decide) ?_
            exact q_zret C hr hlk hP (by decide) h (by decide) (by decide) dX10_meets_146
          · have h := h.2 c121
            refine lv_iload hx hb dX10_meets_124 (lv_at hl 3 rfl) ?_
            refine lv_iload hx hb dX10_meets_126 (lv_at hl 2 rfl) ?_
            refine va_mmax hx hb (C.2.2.2.1.trans hl.1.symm) C.2.2.1 (ml_X10_15 C.hA) (st_J9_max_7cf53 C.hA) (ini_J9 C.hA) (cd_J9_max_7cf53 C.hA) (Nat.le_of_ble_eq_true rfl) (Nat.le_of_ble_eq_true rfl) (Nat.le_of_ble_eq_true rfl) (Nat.le_of_ble_eq_true rfl) dX10_meets_128 ?_
            refine lv_iload hx hb dX10_meets_131 (lv_at hl 1 rfl) ?_
            refine lv_iload hx hb dX10_meets_133 (lv_at hl 0 rfl) ?_
            refine va_mmin hx hb (C.2.2.2.1.trans hl.1.symm) C.2.2.1 (ml_X10_25 C.hA) (st_J9_min_7cf53 C.hA) (ini_J9 C.hA) (cd_J9_min_7cf53 C.hA) (Nat.le_of_ble_eq_true rfl) (Nat.le_of_ble_eq_true rfl) (Nat.le_of_ble_eq_true rfl) (Nat.le_of_ble_eq_true rfl) dX10_meets_135 ?_
            refine lv_icmp_lt (tgt := 145) hx hb dX10_meets_138 (by decide) (fun c138 => ?_) (fun c138 => ?_)
            · have h := h.1 c138
              refine lv_iconst (v := (0 : Int32)) hx hb dX10_meets_145 (by decide) ?_
              exact q_zret C hr hlk hP (by decide) h (by decide) (by decide) dX10_meets_146
            · have h := h.2 c138
              refine lv_iconst (v := (1 : Int32)) hx hb dX10_meets_141 (by decide) ?_
              refine lv_goto (tgt := 146) hx hb dX10_meets_142 (by decide) ?_
              exact q_zret C hr hlk hP (by decide) h (by decide) (by decide) dX10_meets_146
        · have h := h.2 c47
          refine lv_iconst (v := (0 : Int32)) hx hb dX10_meets_50 (by decide) ?_
          exact q_zret C hr hlk hP (by decide) h (by decide) (by decide) dX10_meets_51
-- X4_strengthAlong
abbrev rm_X4_strengthAlong : Room := { frames := 2, cells := 0, slots := 0, locals := 44 }
theorem hd_X4_strengthAlong : yX4_strengthAlong.cls ≠ "java/lang/invoke/MethodHandle" ∧ yX4_strengthAlong.cls ≠ "java/lang/invoke/VarHandle" ∧ (parseMethodDescriptor yX4_strengthAlong.desc).map (fun d => d.parameters.length) = some 7 := by decide +kernel
def V_X4_strengthAlong_84 (G : Gx) (Q : Int32 → Mm → Prop) (k_16 : Nat → Int32 → Int32 → Int32 → Int32 → Int32 → Int32 → Int32 → Int32 → Mm → Prop) (x0 : Nat) (x2 : Int32) (x3 : Int32) (x4 : Int32) (x5 : Int32) (x6 : Int32) (x7 : Int32) (x8 : Int32) (x9 : Int32) (u : Mm) : Prop :=
  ∀ x9_84 : Int32, x9_84 = x9 + (1 : Int32) → k_16 x0 x2 x3 x4 x5 x6 x7 x8 x9_84 u
def V_X4_strengthAlong_47_B (G : Gx) (Q : Int32 → Mm → Prop) (k_16 : Nat → Int32 → Int32 → Int32 → Int32 → Int32 → Int32 → Int32 → Int32 → Mm → Prop) (k_47 : Nat → Int32 → Int32 → Int32 → Int32 → Int32 → Int32 → Int32 → Int32 → Int32 → Mm → Prop) (x0 : Nat) (x2 : Int32) (x3 : Int32) (x4 : Int32) (x5 : Int32) (x6 : Int32) (x7 : Int32) (x8 : Int32) (x9 : Int32) (x10 : Int32) (u : Mm) : Prop :=
  ((x7 ≤ x10 → V_X4_strengthAlong_84 G Q k_16 x0 x2 x3 x4 x5 x6 x7 x8 x9 u) ∧ (¬ x7 ≤ x10 → kd G x0 = 4 ∧ (gR u x0 2) ≠ 0 ∧ kd G (gR u x0 2) = 19 ∧ vp_in x9 (ln G (gR u x0 2)) ∧ (gR u (gR u x0 2) x9.toNatClampNeg) ≠ 0 ∧ kd G (gR u (gR u x0 2) x9.toNatClampNeg) = 10 ∧ (gR u (gR u (gR u x0 2) x9.toNatClampNeg) 4) ≠ 0 ∧ kd G (gR u (gR u (gR u x0 2) x9.toNatClampNeg) 4) = 13 ∧ vp_in x6 (ln G (gR u (gR u (gR u x0 2) x9.toNatClampNeg) 4)) ∧ ∀ x8_76 : Int32, x8_76 = ((x8 * ((100 : Int32) - (gI u (gR u (gR u (gR u x0 2) x9.toNatClampNeg) 4) x6.toNatClampNeg))) / (100 : Int32)) → ∀ x10_78 : Int32, x10_78 = x10 + (1 : Int32) → k_47 x0 x2 x3 x4 x5 x6 x7 x8_76 x9 x10_78 u))
def V_X4_strengthAlong_47 (G : Gx) (Q : Int32 → Mm → Prop) (k_16 : Nat → Int32 → Int32 → Int32 → Int32 → Int32 → Int32 → Int32 → Int32 → Mm → Prop) : Nat → (Nat → Int32 → Int32 → Int32 → Int32 → Int32 → Int32 → Int32 → Int32 → Int32 → Mm → Prop)
  | 0 => fun _ _ _ _ _ _ _ _ _ _ _ => False
  | n + 1 => fun x0 x2 x3 x4 x5 x6 x7 x8 x9 x10 u => V_X4_strengthAlong_47_B G Q k_16 (V_X4_strengthAlong_47 G Q k_16 n) x0 x2 x3 x4 x5 x6 x7 x8 x9 x10 u
def V_X4_strengthAlong_16_B (G : Gx) (Q : Int32 → Mm → Prop) (k_16 : Nat → Int32 → Int32 → Int32 → Int32 → Int32 → Int32 → Int32 → Int32 → Mm → Prop) (x0 : Nat) (x2 : Int32) (x3 : Int32) (x4 : Int32) (x5 : Int32) (x6 : Int32) (x7 : Int32) (x8 : Int32) (x9 : Int32) (u : Mm) : Prop :=
  kd G x0 = 4 ∧ (((gI u x0 5) ≤ x9 → Q x8 u) ∧ (¬ (gI u x0 5) ≤ x9 → (gR u x0 2) ≠ 0 ∧ kd G (gR u x0 2) = 19 ∧ vp_in x9 (ln G (gR u x0 2)) ∧ (gR u (gR u x0 2) x9.toNatClampNeg) ≠ 0 ∧ kd G (gR u (gR u x0 2) x9.toNatClampNeg) = 10 ∧ V_X10_meets G (gR u (gR u x0 2) x9.toNatClampNeg) x2 x3 x4 x5 u (fun (v_38 : Int32) (u_38 : Mm) => ((v_38 = 0 → V_X4_strengthAlong_84 G Q k_16 x0 x2 x3 x4 x5 x6 x7 x8 x9 u_38) ∧ (¬ v_38 = 0 → ∃ n : Nat, V_X4_strengthAlong_47 G Q k_16 n x0 x2 x3 x4 x5 x6 x7 x8 x9 (0 : Int32) u_38)))))
def V_X4_strengthAlong_16 (G : Gx) (Q : Int32 → Mm → Prop) : Nat → (Nat → Int32 → Int32 → Int32 → Int32 → Int32 → Int32 → Int32 → Int32 → Mm → Prop)
  | 0 => fun _ _ _ _ _ _ _ _ _ _ => False
  | n + 1 => fun x0 x2 x3 x4 x5 x6 x7 x8 x9 u => V_X4_strengthAlong_16_B G Q (V_X4_strengthAlong_16 G Q n) x0 x2 x3 x4 x5 x6 x7 x8 x9 u
def V_X4_strengthAlong (G : Gx) (p0 : Nat) (p1 : Int32) (p2 : Int32) (p3 : Int32) (p4 : Int32) (p5 : Int32) (p6 : Int32) (p7 : Int32) (u : Mm) (Q : Int32 → Mm → Prop) : Prop :=
  ∀ x8_11 : Int32, x8_11 = (((1000 : Int32) * ((100 : Int32) - p1)) / (100 : Int32)) → ∃ n : Nat, V_X4_strengthAlong_16 G Q n p0 p2 p3 p4 p5 p6 p7 x8_11 (0 : Int32) u
set_option maxHeartbeats 4000000 in
set_option maxRecDepth 100000 in
theorem b_X4_strengthAlong_84 {G : Gx} {Q : Int32 → Mm → Prop} {p : Program} {l : Launch} {e : Env} {s : State} {m : MethodId} {args : Array Value} {below : List Frame} {meth : Method} {c : Code} (C : Cx G p s m c cX4_strengthAlong RX4 11) (hr : meth.sig.returnType = (some .int)) (hlk : meth.locks = false) {k_16 : Nat → Int32 → Int32 → Int32 → Int32 → Int32 → Int32 → Int32 → Int32 → Mm → Prop} (hk_16 : ∀ (x0 : Nat) (x2 : Int32) (x3 : Int32) (x4 : Int32) (x5 : Int32) (x6 : Int32) (x7 : Int32) (x8 : Int32) (x9 : Int32) (u : Mm) (H : Heap) (locs : List Loc) (ls : Array Slot), k_16 x0 x2 x3 x4 x5 x6 x7 x8 x9 u → lv_has ls 11 [(0, .ref x0), (2, .int x2), (3, .int x3), (4, .int x4), (5, .int x5), (6, .int x6), (7, .int x7), (8, .int x8), (9, .int x9)] → Hp G u s H locs → W p l e rm_X4_strengthAlong s m args below meth c H locs 0 0 (MQ below (Ei G Q) args s 0 0 (ag G)) (F0 m 16 ls [])) {x0 : Nat} {x2 : Int32} {x3 : Int32} {x4 : Int32} {x5 : Int32} {x6 : Int32} {x7 : Int32} {x8 : Int32} {x9 : Int32} {u : Mm} {H : Heap} {locs : List Loc} {ls : Array Slot} (h : V_X4_strengthAlong_84 G Q k_16 x0 x2 x3 x4 x5 x6 x7 x8 x9 u) (hl : lv_has ls 11 [(0, .ref x0), (2, .int x2), (3, .int x3), (4, .int x4), (5, .int x5), (6, .int x6), (7, .int x7), (8, .int x8), (9, .int x9)]) (hP : Hp G u s H locs) : W p l e rm_X4_strengthAlong s m args below meth c H locs 0 0 (MQ below (Ei G Q) args s 0 0 (ag G)) (F0 m 84 ls []) := by
  have hx := C.1
  have hb := C.2.1
  unfold V_X4_strengthAlong_84 at h
  obtain ⟨x9_84, ex9_84⟩ : ∃ y : Int32, y = x9 + (1 : Int32) := ⟨_, rfl⟩
  have h := h x9_84 ex9_84
  refine lv_iinc (v := x9_84) (lv' := [(9, .int x9_84), (0, .ref x0), (2, .int x2), (3, .int x3), (4, .int x4), (5, .int x5), (6, .int x6), (7, .int x7), (8, .int x8)]) hx hb dX4_strengthAlong_84 hl (k := 8) rfl (by rw [ex9_84]; rfl) (by decide) rfl (fun ls hl => ?_)
  refine lv_goto (tgt := 16) hx hb dX4_strengthAlong_87 (by decide) ?_
  exact hk_16 x0 x2 x3 x4 x5 x6 x7 x8 x9_84 u _ _ _ h (lv_sub hl [1, 2, 3, 4, 5, 6, 7, 8, 0] rfl) hP
set_option maxHeartbeats 4000000 in
set_option maxRecDepth 100000 in
theorem b_X4_strengthAlong_47 {G : Gx} {Q : Int32 → Mm → Prop} {p : Program} {l : Launch} {e : Env} {s : State} {m : MethodId} {args : Array Value} {below : List Frame} {meth : Method} {c : Code} (C : Cx G p s m c cX4_strengthAlong RX4 11) (hr : meth.sig.returnType = (some .int)) (hlk : meth.locks = false) {k_16 : Nat → Int32 → Int32 → Int32 → Int32 → Int32 → Int32 → Int32 → Int32 → Mm → Prop} (hk_16 : ∀ (x0 : Nat) (x2 : Int32) (x3 : Int32) (x4 : Int32) (x5 : Int32) (x6 : Int32) (x7 : Int32) (x8 : Int32) (x9 : Int32) (u : Mm) (H : Heap) (locs : List Loc) (ls : Array Slot), k_16 x0 x2 x3 x4 x5 x6 x7 x8 x9 u → lv_has ls 11 [(0, .ref x0), (2, .int x2), (3, .int x3), (4, .int x4), (5, .int x5), (6, .int x6), (7, .int x7), (8, .int x8), (9, .int x9)] → Hp G u s H locs → W p l e rm_X4_strengthAlong s m args below meth c H locs 0 0 (MQ below (Ei G Q) args s 0 0 (ag G)) (F0 m 16 ls [])) {k_47 : Nat → Int32 → Int32 → Int32 → Int32 → Int32 → Int32 → Int32 → Int32 → Int32 → Mm → Prop} (hk_47 : ∀ (x0 : Nat) (x2 : Int32) (x3 : Int32) (x4 : Int32) (x5 : Int32) (x6 : Int32) (x7 : Int32) (x8 : Int32) (x9 : Int32) (x10 : Int32) (u : Mm) (H : Heap) (locs : List Loc) (ls : Array Slot), k_47 x0 x2 x3 x4 x5 x6 x7 x8 x9 x10 u → lv_has ls 11 [(0, .ref x0), (2, .int x2), (3, .int x3), (4, .int x4), (5, .int x5), (6, .int x6), (7, .int x7), (8, .int x8), (9, .int x9), (10, .int x10)] → Hp G u s H locs → W p l e rm_X4_strengthAlong s m args below meth c H locs 0 0 (MQ below (Ei G Q) args s 0 0 (ag G)) (F0 m 47 ls [])) {x0 : Nat} {x2 : Int32} {x3 : Int32} {x4 : Int32} {x5 : Int32} {x6 : Int32} {x7 : Int32} {x8 : Int32} {x9 : Int32} {x10 : Int32} {u : Mm} {H : Heap} {locs : List Loc} {ls : Array Slot} (h : V_X4_strengthAlong_47_B G Q k_16 k_47 x0 x2 x3 x4 x5 x6 x7 x8 x9 x10 u) (hl : lv_has ls 11 [(0, .ref x0), (2, .int x2), (3, .int x3), (4, .int x4), (5, .int x5), (6, .int x6), (7, .int x7), (8, .int x8), (9, .int x9), (10, .int x10)]) (hP : Hp G u s H locs) : W p l e rm_X4_strengthAlong s m args below meth c H locs 0 0 (MQ below (Ei G Q) args s 0 0 (ag G)) (F0 m 47 ls []) := by
  have hx := C.1
  have hb := C.2.1
  unfold V_X4_strengthAlong_47_B at h
  refine lv_iload hx hb dX4_strengthAlong_47 (lv_at hl 9 rfl) ?_
  refine lv_iload hx hb dX4_strengthAlong_49 (lv_at hl 6 rfl) ?_
  refine lv_icmp_ge (tgt := 84) hx hb dX4_strengthAlong_51 (by decide) (fun c51 => ?_) (fun c51 => ?_)
  · have h := h.1 c51
    exact b_X4_strengthAlong_84 C hr hlk hk_16 h (lv_sub hl [0, 1, 2, 3, 4, 5, 6, 7, 8] rfl) hP
  · have h := h.2 c51
    refine lv_iload hx hb dX4_strengthAlong_54 (lv_at hl 7 rfl) ?_
    refine lv_bipush (v := (100 : Int32)) hx hb dX4_strengthAlong_56 (by decide) ?_
    refine lv_aload_n hx hb dX4_strengthAlong_58 rfl (lv_at hl 0 rfl) ?_
    obtain ⟨g1, h⟩ := h
    obtain ⟨g2, h⟩ := h
    refine q_getR C hP (k := 2) (lay_X4 C.hA) rfl (by decide) g1 g2 (fl_X4_27 C.hA) dX4_strengthAlong_59 ?_
    refine lv_iload hx hb dX4_strengthAlong_62 (lv_at hl 8 rfl) ?_
    obtain ⟨g3, h⟩ := h
    obtain ⟨g4, h⟩ := h
    obtain ⟨g5, h⟩ := h
    refine q_aald C hP g3 (by decide) rfl g4 g5 dX4_strengthAlong_64 ?_
    obtain ⟨g6, h⟩ := h
    obtain ⟨g7, h⟩ := h
    refine q_getRN C hP (k := 4) (lay_X10 C.hA) rfl (by decide) g6 g7 (fn_X4_58 C.hA) dX4_strengthAlong_65 ?_
    refine lv_iload hx hb dX4_strengthAlong_68 (lv_at hl 5 rfl) ?_
    obtain ⟨g8, h⟩ := h
    obtain ⟨g9, h⟩ := h
    refine q_iald C hP g8 g9 dX4_strengthAlong_70 ?_
    refine lv_isub hx hb dX4_strengthAlong_71 ?_
    refine lv_imul hx hb dX4_strengthAlong_72 ?_
    refine lv_bipush (v := (100 : Int32)) hx hb dX4_strengthAlong_73 (by decide) ?_
    refine lv_idiv hx hb dX4_strengthAlong_75 (by decide) ?_
    refine lv_topi (fun x8_76 ex8_76 => ?_)
    have h := h x8_76 ex8_76
    refine lv_istore (lv' := [(8, .int x8_76), (0, .ref x0), (2, .int x2), (3, .int x3), (4, .int x4), (5, .int x5), (6, .int x6), (7, .int x7), (9, .int x9), (10, .int x10)]) hx hb dX4_strengthAlong_76 hl (by decide) rfl (fun ls hl => ?_)
    obtain ⟨x10_78, ex10_78⟩ : ∃ y : Int32, y = x10 + (1 : Int32) := ⟨_, rfl⟩
    have h := h x10_78 ex10_78
    refine lv_iinc (v := x10_78) (lv' := [(10, .int x10_78), (8, .int x8_76), (0, .ref x0), (2, .int x2), (3, .int x3), (4, .int x4), (5, .int x5), (6, .int x6), (7, .int x7), (9, .int x9)]) hx hb dX4_strengthAlong_78 hl (k := 9) rfl (by rw [ex10_78]; rfl) (by decide) rfl (fun ls hl => ?_)
    refine lv_goto (tgt := 47) hx hb dX4_strengthAlong_81 (by decide) ?_
    exact hk_47 x0 x2 x3 x4 x5 x6 x7 x8_76 x9 x10_78 u _ _ _ h (lv_sub hl [2, 3, 4, 5, 6, 7, 8, 1, 9, 0] rfl) hP
theorem l_X4_strengthAlong_47 {G : Gx} {Q : Int32 → Mm → Prop} {p : Program} {l : Launch} {e : Env} {s : State} {m : MethodId} {args : Array Value} {below : List Frame} {meth : Method} {c : Code} (C : Cx G p s m c cX4_strengthAlong RX4 11) (hr : meth.sig.returnType = (some .int)) (hlk : meth.locks = false) {k_16 : Nat → Int32 → Int32 → Int32 → Int32 → Int32 → Int32 → Int32 → Int32 → Mm → Prop} (hk_16 : ∀ (x0 : Nat) (x2 : Int32) (x3 : Int32) (x4 : Int32) (x5 : Int32) (x6 : Int32) (x7 : Int32) (x8 : Int32) (x9 : Int32) (u : Mm) (H : Heap) (locs : List Loc) (ls : Array Slot), k_16 x0 x2 x3 x4 x5 x6 x7 x8 x9 u → lv_has ls 11 [(0, .ref x0), (2, .int x2), (3, .int x3), (4, .int x4), (5, .int x5), (6, .int x6), (7, .int x7), (8, .int x8), (9, .int x9)] → Hp G u s H locs → W p l e rm_X4_strengthAlong s m args below meth c H locs 0 0 (MQ below (Ei G Q) args s 0 0 (ag G)) (F0 m 16 ls [])) : ∀ (n : Nat) (x0 : Nat) (x2 : Int32) (x3 : Int32) (x4 : Int32) (x5 : Int32) (x6 : Int32) (x7 : Int32) (x8 : Int32) (x9 : Int32) (x10 : Int32) (u : Mm) (H : Heap) (locs : List Loc) (ls : Array Slot), V_X4_strengthAlong_47 G Q k_16 n x0 x2 x3 x4 x5 x6 x7 x8 x9 x10 u → lv_has ls 11 [(0, .ref x0), (2, .int x2), (3, .int x3), (4, .int x4), (5, .int x5), (6, .int x6), (7, .int x7), (8, .int x8), (9, .int x9), (10, .int x10)] → Hp G u s H locs → W p l e rm_X4_strengthAlong s m args below meth c H locs 0 0 (MQ below (Ei G Q) args s 0 0 (ag G)) (F0 m 47 ls []) := by
  intro n
  induction n with
  | zero => intro x0 x2 x3 x4 x5 x6 x7 x8 x9 x10 u H locs ls h; exact h.elim
  | succ n ih => intro x0 x2 x3 x4 x5 x6 x7 x8 x9 x10 u H locs ls h hl hP; exact b_X4_strengthAlong_47 C hr hlk hk_16 ih h hl hP
set_option maxHeartbeats 4000000 in
set_option maxRecDepth 100000 in
theorem b_X4_strengthAlong_16 {G : Gx} {Q : Int32 → Mm → Prop} {p : Program} {l : Launch} {e : Env} {s : State} {m : MethodId} {args : Array Value} {below : List Frame} {meth : Method} {c : Code} (C : Cx G p s m c cX4_strengthAlong RX4 11) (hr : meth.sig.returnType = (some .int)) (hlk : meth.locks = false) {k_16 : Nat → Int32 → Int32 → Int32 → Int32 → Int32 → Int32 → Int32 → Int32 → Mm → Prop} (hk_16 : ∀ (x0 : Nat) (x2 : Int32) (x3 : Int32) (x4 : Int32) (x5 : Int32) (x6 : Int32) (x7 : Int32) (x8 : Int32) (x9 : Int32) (u : Mm) (H : Heap) (locs : List Loc) (ls : Array Slot), k_16 x0 x2 x3 x4 x5 x6 x7 x8 x9 u → lv_has ls 11 [(0, .ref x0), (2, .int x2), (3, .int x3), (4, .int x4), (5, .int x5), (6, .int x6), (7, .int x7), (8, .int x8), (9, .int x9)] → Hp G u s H locs → W p l e rm_X4_strengthAlong s m args below meth c H locs 0 0 (MQ below (Ei G Q) args s 0 0 (ag G)) (F0 m 16 ls [])) {x0 : Nat} {x2 : Int32} {x3 : Int32} {x4 : Int32} {x5 : Int32} {x6 : Int32} {x7 : Int32} {x8 : Int32} {x9 : Int32} {u : Mm} {H : Heap} {locs : List Loc} {ls : Array Slot} (h : V_X4_strengthAlong_16_B G Q k_16 x0 x2 x3 x4 x5 x6 x7 x8 x9 u) (hl : lv_has ls 11 [(0, .ref x0), (2, .int x2), (3, .int x3), (4, .int x4), (5, .int x5), (6, .int x6), (7, .int x7), (8, .int x8), (9, .int x9)]) (hP : Hp G u s H locs) : W p l e rm_X4_strengthAlong s m args below meth c H locs 0 0 (MQ below (Ei G Q) args s 0 0 (ag G)) (F0 m 16 ls []) := by
  have hx := C.1
  have hb := C.2.1
  unfold V_X4_strengthAlong_16_B at h
  refine lv_iload hx hb dX4_strengthAlong_16 (lv_at hl 8 rfl) ?_
  refine lv_aload_n hx hb dX4_strengthAlong_18 rfl (lv_at hl 0 rfl) ?_
  obtain ⟨g1, h⟩ := h
  refine q_getI C hP (k := 5) (lay_X4 C.hA) rfl (by decide) g1 (fl_X4_42 C.hA) dX4_strengthAlong_19 ?_
  refine lv_icmp_ge (tgt := 90) hx hb dX4_strengthAlong_22 (by decide) (fun c22 => ?_) (fun c22 => ?_)
  · have h := h.1 c22
    refine lv_iload hx hb dX4_strengthAlong_90 (lv_at hl 7 rfl) ?_
    exact q_iret C hr hlk hP h (by decide) (by decide) dX4_strengthAlong_92
  · have h := h.2 c22
    refine lv_aload_n hx hb dX4_strengthAlong_25 rfl (lv_at hl 0 rfl) ?_
    obtain ⟨g2, h⟩ := h
    refine q_getR C hP (k := 2) (lay_X4 C.hA) rfl (by decide) g1 g2 (fl_X4_27 C.hA) dX4_strengthAlong_26 ?_
    refine lv_iload hx hb dX4_strengthAlong_29 (lv_at hl 8 rfl) ?_
    obtain ⟨g3, h⟩ := h
    obtain ⟨g4, h⟩ := h
    obtain ⟨g5, h⟩ := h
    refine q_aald C hP g3 (by decide) rfl g4 g5 dX4_strengthAlong_31 ?_
    refine lv_iload_n hx hb dX4_strengthAlong_32 rfl (lv_at hl 1 rfl) ?_
    refine lv_iload_n hx hb dX4_strengthAlong_33 rfl (lv_at hl 2 rfl) ?_
    refine lv_iload hx hb dX4_strengthAlong_34 (lv_at hl 3 rfl) ?_
    refine lv_iload hx hb dX4_strengthAlong_36 (lv_at hl 4 rfl) ?_
    obtain ⟨g6, h⟩ := h
    refine q_cali (q_runVN C hP (c_X10_meets h) (cd_X10_meets C.hA) (ini_X10 C.hA) (mn_X4_55 C.hA) (im_X10_meets C.hA) (sl_X10_meets C.hA) g6 (by decide) rfl hd_X10_meets ⟨rfl, rfl⟩ ⟨Nat.le_of_ble_eq_true rfl, Nat.le_of_ble_eq_true rfl⟩ ⟨Nat.le_of_ble_eq_true rfl, Nat.le_of_ble_eq_true rfl⟩ hl.1 rfl (Nat.le_of_ble_eq_true rfl) dX4_strengthAlong_38) hP (fun v_38 u_38 H locs h hP => ?_)
    refine lv_if_eq (tgt := 84) hx hb dX4_strengthAlong_41 (by decide) (fun c41 => ?_) (fun c41 => ?_)
    · have h := h.1 c41
      exact b_X4_strengthAlong_84 C hr hlk hk_16 h (lv_sub hl [0, 1, 2, 3, 4, 5, 6, 7, 8] rfl) hP
    · have h := h.2 c41
      refine lv_iconst (v := (0 : Int32)) hx hb dX4_strengthAlong_44 (by decide) ?_
      refine lv_istore (lv' := [(10, .int (0 : Int32)), (0, .ref x0), (2, .int x2), (3, .int x3), (4, .int x4), (5, .int x5), (6, .int x6), (7, .int x7), (8, .int x8), (9, .int x9)]) hx hb dX4_strengthAlong_45 hl (by decide) rfl (fun ls hl => ?_)
      obtain ⟨n, h⟩ := h
      exact l_X4_strengthAlong_47 C hr hlk hk_16 n x0 x2 x3 x4 x5 x6 x7 x8 x9 (0 : Int32) u_38 _ _ _ h (lv_sub hl [1, 2, 3, 4, 5, 6, 7, 8, 9, 0] rfl) hP
theorem l_X4_strengthAlong_16 {G : Gx} {Q : Int32 → Mm → Prop} {p : Program} {l : Launch} {e : Env} {s : State} {m : MethodId} {args : Array Value} {below : List Frame} {meth : Method} {c : Code} (C : Cx G p s m c cX4_strengthAlong RX4 11) (hr : meth.sig.returnType = (some .int)) (hlk : meth.locks = false) : ∀ (n : Nat) (x0 : Nat) (x2 : Int32) (x3 : Int32) (x4 : Int32) (x5 : Int32) (x6 : Int32) (x7 : Int32) (x8 : Int32) (x9 : Int32) (u : Mm) (H : Heap) (locs : List Loc) (ls : Array Slot), V_X4_strengthAlong_16 G Q n x0 x2 x3 x4 x5 x6 x7 x8 x9 u → lv_has ls 11 [(0, .ref x0), (2, .int x2), (3, .int x3), (4, .int x4), (5, .int x5), (6, .int x6), (7, .int x7), (8, .int x8), (9, .int x9)] → Hp G u s H locs → W p l e rm_X4_strengthAlong s m args below meth c H locs 0 0 (MQ below (Ei G Q) args s 0 0 (ag G)) (F0 m 16 ls []) := by
  intro n
  induction n with
  | zero => intro x0 x2 x3 x4 x5 x6 x7 x8 x9 u H locs ls h; exact h.elim
  | succ n ih => intro x0 x2 x3 x4 x5 x6 x7 x8 x9 u H locs ls h hl hP; exact b_X4_strengthAlong_16 C hr hlk ih h hl hP
set_option maxHeartbeats 4000000 in
set_option maxRecDepth 100000 in
theorem c_X4_strengthAlong {l : Launch} {G : Gx} {p0 : Nat} {p1 : Int32} {p2 : Int32} {p3 : Int32} {p4 : Int32} {p5 : Int32} {p6 : Int32} {p7 : Int32} {u : Mm} {Q : Int32 → Mm → Prop} (h : V_X4_strengthAlong G p0 p1 p2 p3 p4 p5 p6 p7 u Q) : Met l yX4_strengthAlong [.code yX4_strengthAlong cX4_strengthAlong 11 (some .int)] rm_X4_strengthAlong (va_Pc [.ref p0, .int p1, .int p2, .int p3, .int p4, .int p5, .int p6, .int p7] (Wd G u)) (Ei G Q) 0 0 (ag G) := by
  refine q_met (by decide) (Nat.le_of_ble_eq_true rfl) ?_
  intro p e s m below meth c ls C hr hlk hnm hl hP
  have hl : lv_has ls 11 [(0, .ref p0), (1, .int p1), (2, .int p2), (3, .int p3), (4, .int p4), (5, .int p5), (6, .int p6), (7, .int p7)] := hl
  generalize ([.ref p0, .int p1, .int p2, .int p3, .int p4, .int p5, .int p6, .int p7] : List Value).toArray = args
  have hx := C.1
  have hb := C.2.1
  unfold V_X4_strengthAlong at h
  refine lv_sipush (v := (1000 : Int32)) hx hb dX4_strengthAlong_0 (by decide) ?_
  refine lv_bipush (v := (100 : Int32)) hx hb dX4_strengthAlong_3 (by decide) ?_
  refine lv_iload_n hx hb dX4_strengthAlong_5 rfl (lv_at hl 1 rfl) ?_
  refine lv_isub hx hb dX4_strengthAlong_6 ?_
  refine lv_imul hx hb dX4_strengthAlong_7 ?_
  refine lv_bipush (v := (100 : Int32)) hx hb dX4_strengthAlong_8 (by decide) ?_
  refine lv_idiv hx hb dX4_strengthAlong_10 (by decide) ?_
  refine lv_topi (fun x8_11 ex8_11 => ?_)
  have h := h x8_11 ex8_11
  refine lv_istore (lv' := [(8, .int x8_11), (0, .ref p0), (1, .int p1), (2, .int p2), (3, .int p3), (4, .int p4), (5, .int p5), (6, .int p6), (7, .int p7)]) hx hb dX4_strengthAlong_11 hl (by decide) rfl (fun ls hl => ?_)
  refine lv_iconst (v := (0 : Int32)) hx hb dX4_strengthAlong_13 (by decide) ?_
  refine lv_istore (lv' := [(9, .int (0 : Int32)), (8, .int x8_11), (0, .ref p0), (1, .int p1), (2, .int p2), (3, .int p3), (4, .int p4), (5, .int p5), (6, .int p6), (7, .int p7)]) hx hb dX4_strengthAlong_14 hl (by decide) rfl (fun ls hl => ?_)
  obtain ⟨n, h⟩ := h
  exact l_X4_strengthAlong_16 C hr hlk n p0 p2 p3 p4 p5 p6 p7 x8_11 (0 : Int32) u _ _ _ h (lv_sub hl [2, 4, 5, 6, 7, 8, 9, 1, 0] rfl) hP
-- J6_bitCount_0f7a4
abbrev rm_J6_bitCount_0f7a4 : Room := { frames := 0, cells := 0, slots := 0, locals := 0 }
theorem hd_J6_bitCount_0f7a4 : yJ6_bitCount_0f7a4.cls ≠ "java/lang/invoke/MethodHandle" ∧ yJ6_bitCount_0f7a4.cls ≠ "java/lang/invoke/VarHandle" ∧ (parseMethodDescriptor yJ6_bitCount_0f7a4.desc).map (fun d => d.parameters.length) = some 1 := by decide +kernel
def V_J6_bitCount_0f7a4 (G : Gx) (p0 : Int32) (u : Mm) (Q : Int32 → Mm → Prop) : Prop :=
  ∀ x0_9 : Int32, x0_9 = (p0 - ((ush p0 (1 : Int32)) &&& (1431655765 : Int32))) → ∀ x0_23 : Int32, x0_23 = ((x0_9 &&& (858993459 : Int32)) + ((ush x0_9 (2 : Int32)) &&& (858993459 : Int32))) → ∀ x0_33 : Int32, x0_33 = ((x0_23 + (ush x0_23 (4 : Int32))) &&& (252645135 : Int32)) → ∀ x0_40 : Int32, x0_40 = (x0_33 + (ush x0_33 (8 : Int32))) → ∀ x0_47 : Int32, x0_47 = (x0_40 + (ush x0_40 (16 : Int32))) → Q (x0_47 &&& (63 : Int32)) u
set_option maxHeartbeats 4000000 in
set_option maxRecDepth 100000 in
theorem c_J6_bitCount_0f7a4 {l : Launch} {G : Gx} {p0 : Int32} {u : Mm} {Q : Int32 → Mm → Prop} (h : V_J6_bitCount_0f7a4 G p0 u Q) : Met l yJ6_bitCount_0f7a4 [.code yJ6_bitCount_0f7a4 cJ6_bitCount_0f7a4 1 (some .int)] rm_J6_bitCount_0f7a4 (va_Pc [.int p0] (Wd G u)) (Ei G Q) 0 0 (ag G) := by
  refine q_met (by decide) (Nat.le_of_ble_eq_true rfl) ?_
  intro p e s m below meth c ls C hr hlk hnm hl hP
  have hl : lv_has ls 1 [(0, .int p0)] := hl
  generalize ([.int p0] : List Value).toArray = args
  have hx := C.1
  have hb := C.2.1
  unfold V_J6_bitCount_0f7a4 at h
  refine lv_iload_n hx hb dJ6_bitCount_0f7a4_0 rfl (lv_at hl 0 rfl) ?_
  refine lv_iload_n hx hb dJ6_bitCount_0f7a4_1 rfl (lv_at hl 0 rfl) ?_
  refine lv_iconst (v := (1 : Int32)) hx hb dJ6_bitCount_0f7a4_2 (by decide) ?_
  refine lv_iushr (v := ush p0 (1 : Int32)) hx hb dJ6_bitCount_0f7a4_3 rfl ?_
  refine lv_ldcw (v := (1431655765 : Int32)) hx hb C.2.2.1 (kc_J6_265 C.hA) dJ6_bitCount_0f7a4_4 ?_
  refine lv_iand hx hb dJ6_bitCount_0f7a4_7 ?_
  refine lv_isub hx hb dJ6_bitCount_0f7a4_8 ?_
  refine lv_topi (fun x0_9 ex0_9 => ?_)
  have h := h x0_9 ex0_9
  refine lv_istore_n (lv' := [(0, .int x0_9)]) hx hb dJ6_bitCount_0f7a4_9 rfl hl (by decide) rfl (fun ls hl => ?_)
  refine lv_iload_n hx hb dJ6_bitCount_0f7a4_10 rfl (lv_at hl 0 rfl) ?_
  refine lv_ldcw (v := (858993459 : Int32)) hx hb C.2.2.1 (kc_J6_266 C.hA) dJ6_bitCount_0f7a4_11 ?_
  refine lv_iand hx hb dJ6_bitCount_0f7a4_14 ?_
  refine lv_iload_n hx hb dJ6_bitCount_0f7a4_15 rfl (lv_at hl 0 rfl) ?_
  refine lv_iconst (v := (2 : Int32)) hx hb dJ6_bitCount_0f7a4_16 (by decide) ?_
  refine lv_iushr (v := ush x0_9 (2 : Int32)) hx hb dJ6_bitCount_0f7a4_17 rfl ?_
  refine lv_ldcw (v := (858993459 : Int32)) hx hb C.2.2.1 (kc_J6_266 C.hA) dJ6_bitCount_0f7a4_18 ?_
  refine lv_iand hx hb dJ6_bitCount_0f7a4_21 ?_
  refine lv_iadd hx hb dJ6_bitCount_0f7a4_22 ?_
  refine lv_topi (fun x0_23 ex0_23 => ?_)
  have h := h x0_23 ex0_23
  refine lv_istore_n (lv' := [(0, .int x0_23)]) hx hb dJ6_bitCount_0f7a4_23 rfl hl (by decide) rfl (fun ls hl => ?_)
  refine lv_iload_n hx hb dJ6_bitCount_0f7a4_24 rfl (lv_at hl 0 rfl) ?_
  refine lv_iload_n hx hb dJ6_bitCount_0f7a4_25 rfl (lv_at hl 0 rfl) ?_
  refine lv_iconst (v := (4 : Int32)) hx hb dJ6_bitCount_0f7a4_26 (by decide) ?_
  refine lv_iushr (v := ush x0_23 (4 : Int32)) hx hb dJ6_bitCount_0f7a4_27 rfl ?_
  refine lv_iadd hx hb dJ6_bitCount_0f7a4_28 ?_
  refine lv_ldcw (v := (252645135 : Int32)) hx hb C.2.2.1 (kc_J6_267 C.hA) dJ6_bitCount_0f7a4_29 ?_
  refine lv_iand hx hb dJ6_bitCount_0f7a4_32 ?_
  refine lv_topi (fun x0_33 ex0_33 => ?_)
  have h := h x0_33 ex0_33
  refine lv_istore_n (lv' := [(0, .int x0_33)]) hx hb dJ6_bitCount_0f7a4_33 rfl hl (by decide) rfl (fun ls hl => ?_)
  refine lv_iload_n hx hb dJ6_bitCount_0f7a4_34 rfl (lv_at hl 0 rfl) ?_
  refine lv_iload_n hx hb dJ6_bitCount_0f7a4_35 rfl (lv_at hl 0 rfl) ?_
  refine lv_bipush (v := (8 : Int32)) hx hb dJ6_bitCount_0f7a4_36 (by decide) ?_
  refine lv_iushr (v := ush x0_33 (8 : Int32)) hx hb dJ6_bitCount_0f7a4_38 rfl ?_
  refine lv_iadd hx hb dJ6_bitCount_0f7a4_39 ?_
  refine lv_topi (fun x0_40 ex0_40 => ?_)
  have h := h x0_40 ex0_40
  refine lv_istore_n (lv' := [(0, .int x0_40)]) hx hb dJ6_bitCount_0f7a4_40 rfl hl (by decide) rfl (fun ls hl => ?_)
  refine lv_iload_n hx hb dJ6_bitCount_0f7a4_41 rfl (lv_at hl 0 rfl) ?_
  refine lv_iload_n hx hb dJ6_bitCount_0f7a4_42 rfl (lv_at hl 0 rfl) ?_
  refine lv_bipush (v := (16 : Int32)) hx hb dJ6_bitCount_0f7a4_43 (by decide) ?_
  refine lv_iushr (v := ush x0_40 (16 : Int32)) hx hb dJ6_bitCount_0f7a4_45 rfl ?_
  refine lv_iadd hx hb dJ6_bitCount_0f7a4_46 ?_
  refine lv_topi (fun x0_47 ex0_47 => ?_)
  have h := h x0_47 ex0_47
  refine lv_istore_n (lv' := [(0, .int x0_47)]) hx hb dJ6_bitCount_0f7a4_47 rfl hl (by decide) rfl (fun ls hl => ?_)
  refine lv_iload_n hx hb dJ6_bitCount_0f7a4_48 rfl (lv_at hl 0 rfl) ?_
  refine lv_bipush (v := (63 : Int32)) hx hb dJ6_bitCount_0f7a4_49 (by decide) ?_
  refine lv_iand hx hb dJ6_bitCount_0f7a4_51 ?_
  exact q_iret C hr hlk hP h (by decide) (by decide) dJ6_bitCount_0f7a4_52
