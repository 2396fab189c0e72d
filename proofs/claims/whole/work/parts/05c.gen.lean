-- X8_append
abbrev rm_X8_append : Room := { frames := 0, cells := 0, slots := 0, locals := 0 }
theorem hd_X8_append : yX8_append.cls ≠ "java/lang/invoke/MethodHandle" ∧ yX8_append.cls ≠ "java/lang/invoke/VarHandle" ∧ (parseMethodDescriptor yX8_append.desc).map (fun d => d.parameters.length) = some 1 := by decide +kernel
def V_X8_append_3_B (G : Gx) (Q : Mm → Prop) (k_3 : Nat → Int32 → Int32 → Mm → Prop) (x0 : Nat) (x1 : Int32) (x2 : Int32) (u : Mm) : Prop :=
  ((x2 < 0 → Q u) ∧ (¬ x2 < 0 → kd G x0 = 8 ∧ (((700 : Int32) ≤ (gI u x0 1) → Q u) ∧ (¬ (700 : Int32) ≤ (gI u x0 1) → (gR u x0 0) ≠ 0 ∧ kd G (gR u x0 0) = 14 ∧ vp_in (gI u x0 1) (ln G (gR u x0 0)) ∧ ∀ u_29 : Mm, u_29 = sI u (gR u x0 0) (gI u x0 1).toNatClampNeg (i8 (i8 (ush x1 x2))) → ∀ u_37 : Mm, u_37 = sI u_29 x0 1 ((gI u_29 x0 1) + (1 : Int32)) → ∀ x2_40 : Int32, x2_40 = x2 + (-8 : Int32) → k_3 x0 x1 x2_40 u_37))))
def V_X8_append_3 (G : Gx) (Q : Mm → Prop) : Nat → (Nat → Int32 → Int32 → Mm → Prop)
  | 0 => fun _ _ _ _ => False
  | n + 1 => fun x0 x1 x2 u => V_X8_append_3_B G Q (V_X8_append_3 G Q n) x0 x1 x2 u
def V_X8_append (G : Gx) (p0 : Nat) (p1 : Int32) (u : Mm) (Q : Mm → Prop) : Prop :=
  ∃ n : Nat, V_X8_append_3 G Q n p0 p1 (24 : Int32) u
set_option maxHeartbeats 4000000 in
set_option maxRecDepth 100000 in
theorem b_X8_append_3 {G : Gx} {Q : Mm → Prop} {p : Program} {l : Launch} {e : Env} {s : State} {m : MethodId} {args : Array Value} {below : List Frame} {meth : Method} {c : Code} (C : Cx G p s m c cX8_append RX8 3) (hr : meth.sig.returnType = none) (hlk : meth.locks = false) {k_3 : Nat → Int32 → Int32 → Mm → Prop} (hk_3 : ∀ (x0 : Nat) (x1 : Int32) (x2 : Int32) (u : Mm) (H : Heap) (locs : List Loc) (ls : Array Slot), k_3 x0 x1 x2 u → lv_has ls 3 [(0, .ref x0), (1, .int x1), (2, .int x2)] → Hp G u s H locs → W p l e rm_X8_append s m args below meth c H locs 0 0 (MQ below (Ev G Q) args s 0 0 (ag G)) (F0 m 3 ls [])) {x0 : Nat} {x1 : Int32} {x2 : Int32} {u : Mm} {H : Heap} {locs : List Loc} {ls : Array Slot} (h : V_X8_append_3_B G Q k_3 x0 x1 x2 u) (hl : lv_has ls 3 [(0, .ref x0), (1, .int x1), (2, .int x2)]) (hP : Hp G u s H locs) : W p l e rm_X8_append s m args below meth c H locs 0 0 (MQ below (Ev G Q) args s 0 0 (ag G)) (F0 m 3 ls []) := by
  have hx := C.1
  have hb := C.2.1
  unfold V_X8_append_3_B at h
  refine lv_iload_n hx hb dX8_append_3 rfl (lv_at hl 2 rfl) ?_
  refine lv_if_lt (tgt := 46) hx hb dX8_append_4 (by decide) (fun c4 => ?_) (fun c4 => ?_)
  · have h := h.1 c4
    exact q_vret C hr hlk hP h (by decide) (by decide) dX8_append_46
  · have h := h.2 c4
    refine lv_aload_n hx hb dX8_append_7 rfl (lv_at hl 0 rfl) ?_
    obtain ⟨g1, h⟩ := h
    refine q_getI C hP (k := 1) (lay_X8 C.hA) rfl (by decide) g1 (fl_X8_26 C.hA) dX8_append_8 ?_
    refine lv_sipush (v := (700 : Int32)) hx hb dX8_append_11 (by decide) ?_
    refine lv_icmp_ge (tgt := 46) hx hb dX8_append_14 (by decide) (fun c14 => ?_) (fun c14 => ?_)
    · have h := h.1 c14
      exact q_vret C hr hlk hP h (by decide) (by decide) dX8_append_46
    · have h := h.2 c14
      refine lv_aload_n hx hb dX8_append_17 rfl (lv_at hl 0 rfl) ?_
      obtain ⟨g2, h⟩ := h
      refine q_getR C hP (k := 0) (lay_X8 C.hA) rfl (by decide) g1 g2 (fl_X8_9 C.hA) dX8_append_18 ?_
      refine lv_aload_n hx hb dX8_append_21 rfl (lv_at hl 0 rfl) ?_
      refine q_getI C hP (k := 1) (lay_X8 C.hA) rfl (by decide) g1 (fl_X8_26 C.hA) dX8_append_22 ?_
      refine lv_iload_n hx hb dX8_append_25 rfl (lv_at hl 1 rfl) ?_
      refine lv_iload_n hx hb dX8_append_26 rfl (lv_at hl 2 rfl) ?_
      refine lv_iushr (v := ush x1 x2) hx hb dX8_append_27 rfl ?_
      refine lv_i2b (v := i8 (ush x1 x2)) hx hb dX8_append_28 rfl ?_
      obtain ⟨g3, h⟩ := h
      obtain ⟨g4, h⟩ := h
      refine q_bast C hP g3 g4 dX8_append_29 (fun H locs hP => ?_)
      obtain ⟨u_29, eu_29, hP⟩ := Hp.nm hP
      have h := h u_29 eu_29
      refine lv_aload_n hx hb dX8_append_30 rfl (lv_at hl 0 rfl) ?_
      refine lv_dup hx hb dX8_append_31 rfl ?_
      refine q_getI C hP (k := 1) (lay_X8 C.hA) rfl (by decide) g1 (fl_X8_26 C.hA) dX8_append_32 ?_
      refine lv_iconst (v := (1 : Int32)) hx hb dX8_append_35 (by decide) ?_
      refine lv_iadd hx hb dX8_append_36 ?_
      refine q_putI C hP (k := 1) tyX8_ok nmX8 (lay_X8 C.hA) rfl (by decide) rfl rfl rfl rfl g1 (fl_X8_26 C.hA) dX8_append_37 (fun H locs hP => ?_)
      obtain ⟨u_37, eu_37, hP⟩ := Hp.nm hP
      have h := h u_37 eu_37
      obtain ⟨x2_40, ex2_40⟩ : ∃ y : Int32, y = x2 + (-8 : Int32) := ⟨_, rfl⟩
      have h := h x2_40 ex2_40
      refine lv_iinc (v := x2_40) (lv' := [(2, .int x2_40), (0, .ref x0), (1, .int x1)]) hx hb dX8_append_40 hl (k := 2) rfl (by rw [ex2_40]; rfl) (by decide) rfl (fun ls hl => ?_)
      refine lv_goto (tgt := 3) hx hb dX8_append_43 (by decide) ?_
      exact hk_3 x0 x1 x2_40 u_37 _ _ _ h (lv_sub hl [1, 2, 0] rfl) hP
theorem l_X8_append_3 {G : Gx} {Q : Mm → Prop} {p : Program} {l : Launch} {e : Env} {s : State} {m : MethodId} {args : Array Value} {below : List Frame} {meth : Method} {c : Code} (C : Cx G p s m c cX8_append RX8 3) (hr : meth.sig.returnType = none) (hlk : meth.locks = false) : ∀ (n : Nat) (x0 : Nat) (x1 : Int32) (x2 : Int32) (u : Mm) (H : Heap) (locs : List Loc) (ls : Array Slot), V_X8_append_3 G Q n x0 x1 x2 u → lv_has ls 3 [(0, .ref x0), (1, .int x1), (2, .int x2)] → Hp G u s H locs → W p l e rm_X8_append s m args below meth c H locs 0 0 (MQ below (Ev G Q) args s 0 0 (ag G)) (F0 m 3 ls []) := by
  intro n
  induction n with
  | zero => intro x0 x1 x2 u H locs ls h; exact h.elim
  | succ n ih => intro x0 x1 x2 u H locs ls h hl hP; exact b_X8_append_3 C hr hlk ih h hl hP
set_option maxHeartbeats 4000000 in
set_option maxRecDepth 100000 in
theorem c_X8_append {l : Launch} {G : Gx} {p0 : Nat} {p1 : Int32} {u : Mm} {Q : Mm → Prop} (h : V_X8_append G p0 p1 u Q) : Met l yX8_append [.code yX8_append cX8_append 3 none] rm_X8_append (va_Pc [.ref p0, .int p1] (Wd G u)) (Ev G Q) 0 0 (ag G) := by
  refine q_met (by decide) (Nat.le_of_ble_eq_true rfl) ?_
  intro p e s m below meth c ls C hr hlk hnm hl hP
  have hl : lv_has ls 3 [(0, .ref p0), (1, .int p1)] := hl
  generalize ([.ref p0, .int p1] : List Value).toArray = args
  have hx := C.1
  have hb := C.2.1
  unfold V_X8_append at h
  refine lv_bipush (v := (24 : Int32)) hx hb dX8_append_0 (by decide) ?_
  refine lv_istore_n (lv' := [(2, .int (24 : Int32)), (0, .ref p0), (1, .int p1)]) hx hb dX8_append_2 rfl hl (by decide) rfl (fun ls hl => ?_)
  obtain ⟨n, h⟩ := h
  exact l_X8_append_3 C hr hlk n p0 p1 (24 : Int32) u _ _ _ h (lv_sub hl [1, 2, 0] rfl) hP
-- X8_kindOf
abbrev rm_X8_kindOf : Room := { frames := 0, cells := 0, slots := 0, locals := 0 }
theorem hd_X8_kindOf : yX8_kindOf.cls ≠ "java/lang/invoke/MethodHandle" ∧ yX8_kindOf.cls ≠ "java/lang/invoke/VarHandle" ∧ (parseMethodDescriptor yX8_kindOf.desc).map (fun d => d.parameters.length) = some 1 := by decide +kernel
def V_X8_kindOf_28 (G : Gx) (Q : Int32 → Mm → Prop) (x0 : Int32) (u : Mm) : Prop :=
  ((x0 = (59 : Int32) → Q (2 : Int32) u) ∧ (¬ x0 = (59 : Int32) → Q (3 : Int32) u))
def V_X8_kindOf_14 (G : Gx) (Q : Int32 → Mm → Prop) (x0 : Int32) (u : Mm) : Prop :=
  ((x0 < (48 : Int32) → V_X8_kindOf_28 G Q x0 u) ∧ (¬ x0 < (48 : Int32) → (((57 : Int32) < x0 → V_X8_kindOf_28 G Q x0 u) ∧ (¬ (57 : Int32) < x0 → Q (1 : Int32) u))))
def V_X8_kindOf (G : Gx) (p0 : Int32) (u : Mm) (Q : Int32 → Mm → Prop) : Prop :=
  ((p0 < (97 : Int32) → V_X8_kindOf_14 G Q p0 u) ∧ (¬ p0 < (97 : Int32) → (((122 : Int32) < p0 → V_X8_kindOf_14 G Q p0 u) ∧ (¬ (122 : Int32) < p0 → Q (0 : Int32) u))))
set_option maxHeartbeats 4000000 in
set_option maxRecDepth 100000 in
theorem b_X8_kindOf_28 {G : Gx} {Q : Int32 → Mm → Prop} {p : Program} {l : Launch} {e : Env} {s : State} {m : MethodId} {args : Array Value} {below : List Frame} {meth : Method} {c : Code} (C : Cx G p s m c cX8_kindOf RX8 1) (hr : meth.sig.returnType = (some .int)) (hlk : meth.locks = false) {x0 : Int32} {u : Mm} {H : Heap} {locs : List Loc} {ls : Array Slot} (h : V_X8_kindOf_28 G Q x0 u) (hl : lv_has ls 1 [(0, .int x0)]) (hP : Hp G u s H locs) : W p l e rm_X8_kindOf s m args below meth c H locs 0 0 (MQ below (Ei G Q) args s 0 0 (ag G)) (F0 m 28 ls []) := by
  have hx := C.1
  have hb := C.2.1
  unfold V_X8_kindOf_28 at h
  refine lv_iload_n hx hb dX8_kindOf_28 rfl (lv_at hl 0 rfl) ?_
  refine lv_bipush (v := (59 : Int32)) hx hb dX8_kindOf_29 (by decide) ?_
  refine lv_icmp_ne (tgt := 38) hx hb dX8_kindOf_31 (by decide) (fun c31 => ?_) (fun c31 => ?_)
  · have h := h.2 c31
    refine lv_iconst (v := (3 : Int32)) hx hb dX8_kindOf_38 (by decide) ?_
    exact q_iret C hr hlk hP h (by decide) (by decide) dX8_kindOf_39
  · have h := h.1 c31
    refine lv_iconst (v := (2 : Int32)) hx hb dX8_kindOf_34 (by decide) ?_
    refine lv_goto (tgt := 39) hx hb dX8_kindOf_35 (by decide) ?_
    exact q_iret C hr hlk hP h (by decide) (by decide) dX8_kindOf_39
set_option maxHeartbeats 4000000 in
set_option maxRecDepth 100000 in
theorem b_X8_kindOf_14 {G : Gx} {Q : Int32 → Mm → Prop} {p : Program} {l : Launch} {e : Env} {s : State} {m : MethodId} {args : Array Value} {below : List Frame} {meth : Method} {c : Code} (C : Cx G p s m c cX8_kindOf RX8 1) (hr : meth.sig.returnType = (some .int)) (hlk : meth.locks = false) {x0 : Int32} {u : Mm} {H : Heap} {locs : List Loc} {ls : Array Slot} (h : V_X8_kindOf_14 G Q x0 u) (hl : lv_has ls 1 [(0, .int x0)]) (hP : Hp G u s H locs) : W p l e rm_X8_kindOf s m args below meth c H locs 0 0 (MQ below (Ei G Q) args s 0 0 (ag G)) (F0 m 14 ls []) := by
  have hx := C.1
  have hb := C.2.1
  unfold V_X8_kindOf_14 at h
  refine lv_iload_n hx hb dX8_kindOf_14 rfl (lv_at hl 0 rfl) ?_
  refine lv_bipush (v := (48 : Int32)) hx hb dX8_kindOf_15 (by decide) ?_
  refine lv_icmp_lt (tgt := 28) hx hb dX8_kindOf_17 (by decide) (fun c17 => ?_) (fun c17 => ?_)
  · have h := h.1 c17
    exact b_X8_kindOf_28 C hr hlk h (lv_sub hl [0] rfl) hP
  · have h := h.2 c17
    refine lv_iload_n hx hb dX8_kindOf_20 rfl (lv_at hl 0 rfl) ?_
    refine lv_bipush (v := (57 : Int32)) hx hb dX8_kindOf_21 (by decide) ?_
    refine lv_icmp_gt (tgt := 28) hx hb dX8_kindOf_23 (by decide) (fun c23 => ?_) (fun c23 => ?_)
    · have h := h.1 c23
      exact b_X8_kindOf_28 C hr hlk h (lv_sub hl [0] rfl) hP
    · have h := h.2 c23
      refine lv_iconst (v := (1 : Int32)) hx hb dX8_kindOf_26 (by decide) ?_
      exact q_iret C hr hlk hP h (by decide) (by decide) dX8_kindOf_27
set_option maxHeartbeats 4000000 in
set_option maxRecDepth 100000 in
theorem c_X8_kindOf {l : Launch} {G : Gx} {p0 : Int32} {u : Mm} {Q : Int32 → Mm → Prop} (h : V_X8_kindOf G p0 u Q) : Met l yX8_kindOf [.code yX8_kindOf cX8_kindOf 1 (some .int)] rm_X8_kindOf (va_Pc [.int p0] (Wd G u)) (Ei G Q) 0 0 (ag G) := by
  refine q_met (by decide) (Nat.le_of_ble_eq_true rfl) ?_
  intro p e s m below meth c ls C hr hlk hnm hl hP
  have hl : lv_has ls 1 [(0, .int p0)] := hl
  generalize ([.int p0] : List Value).toArray = args
  have hx := C.1
  have hb := C.2.1
  unfold V_X8_kindOf at h
  refine lv_iload_n hx hb dX8_kindOf_0 rfl (lv_at hl 0 rfl) ?_
  refine lv_bipush (v := (97 : Int32)) hx hb dX8_kindOf_1 (by decide) ?_
  refine lv_icmp_lt (tgt := 14) hx hb dX8_kindOf_3 (by decide) (fun c3 => ?_) (fun c3 => ?_)
  · have h := h.1 c3
    exact b_X8_kindOf_14 C hr hlk h (lv_sub hl [0] rfl) hP
  · have h := h.2 c3
    refine lv_iload_n hx hb dX8_kindOf_6 rfl (lv_at hl 0 rfl) ?_
    refine lv_bipush (v := (122 : Int32)) hx hb dX8_kindOf_7 (by decide) ?_
    refine lv_icmp_gt (tgt := 14) hx hb dX8_kindOf_9 (by decide) (fun c9 => ?_) (fun c9 => ?_)
    · have h := h.1 c9
      exact b_X8_kindOf_14 C hr hlk h (lv_sub hl [0] rfl) hP
    · have h := h.2 c9
      refine lv_iconst (v := (0 : Int32)) hx hb dX8_kindOf_12 (by decide) ?_
      exact q_iret C hr hlk hP h (by decide) (by decide) dX8_kindOf_13
-- X8_takeToken
abbrev rm_X8_takeToken : Room := { frames := 1, cells := 0, slots := 0, locals := 20 }
theorem hd_X8_takeToken : yX8_takeToken.cls ≠ "java/lang/invoke/MethodHandle" ∧ yX8_takeToken.cls ≠ "java/lang/invoke/VarHandle" ∧ (parseMethodDescriptor yX8_takeToken.desc).map (fun d => d.parameters.length) = some 0 := by decide +kernel
def V_X8_takeToken_168 (G : Gx) (Q : Mm → Prop) (k_95 : Nat → Int32 → Mm → Prop) (x0 : Nat) (x1 : Int32) (t0 : Nat) (t1 : Int32) (u : Mm) : Prop :=
  kd G t0 = 8 ∧ ∀ u_168 : Mm, u_168 = sI u t0 9 t1 → ∀ x1_171 : Int32, x1_171 = x1 + (1 : Int32) → k_95 x0 x1_171 u_168
def V_X8_takeToken_118 (G : Gx) (Q : Mm → Prop) (k_95 : Nat → Int32 → Mm → Prop) (x0 : Nat) (x1 : Int32) (u : Mm) : Prop :=
  kd G x0 = 8 ∧ (gR u x0 0) ≠ 0 ∧ kd G (gR u x0 0) = 14 ∧ vp_in x1 (ln G (gR u x0 0)) ∧ V_X8_kindOf G (gI u (gR u x0 0) x1.toNatClampNeg) u (fun (v_124 : Int32) (u_124 : Mm) => ((v_124 = (gI u_124 x0 6) → (((4 : Int32) ≤ (x1 - (gI u_124 x0 7)) → V_X8_takeToken_168 G Q k_95 x0 x1 x0 (10000 : Int32) u_124) ∧ (¬ (4 : Int32) ≤ (x1 - (gI u_124 x0 7)) → (gR u_124 x0 0) ≠ 0 ∧ kd G (gR u_124 x0 0) = 14 ∧ vp_in x1 (ln G (gR u_124 x0 0)) ∧ V_X8_takeToken_168 G Q k_95 x0 x1 x0 ((((gI u_124 x0 9) * (10 : Int32)) + (gI u_124 (gR u_124 x0 0) x1.toNatClampNeg)) - (48 : Int32)) u_124))) ∧ (¬ v_124 = (gI u_124 x0 6) → ∀ u_179 : Mm, u_179 = sI u_124 x0 8 x1 → Q u_179)))
def V_X8_takeToken_95_B (G : Gx) (Q : Mm → Prop) (k_95 : Nat → Int32 → Mm → Prop) (x0 : Nat) (x1 : Int32) (u : Mm) : Prop :=
  kd G x0 = 8 ∧ (((gI u x0 2) ≤ x1 → ∀ u_179 : Mm, u_179 = sI u x0 8 x1 → Q u_179) ∧ (¬ (gI u x0 2) ≤ x1 → (((gI u x0 6) = 0 → V_X8_takeToken_118 G Q k_95 x0 x1 u) ∧ (¬ (gI u x0 6) = 0 → (((gI u x0 6) = (1 : Int32) → V_X8_takeToken_118 G Q k_95 x0 x1 u) ∧ (¬ (gI u x0 6) = (1 : Int32) → ∀ u_179 : Mm, u_179 = sI u x0 8 x1 → Q u_179))))))
def V_X8_takeToken_95 (G : Gx) (Q : Mm → Prop) : Nat → (Nat → Int32 → Mm → Prop)
  | 0 => fun _ _ _ => False
  | n + 1 => fun x0 x1 u => V_X8_takeToken_95_B G Q (V_X8_takeToken_95 G Q n) x0 x1 u
def V_X8_takeToken_92 (G : Gx) (Q : Mm → Prop) (x0 : Nat) (x1 : Int32) (u : Mm) : Prop :=
  ∀ x1_92 : Int32, x1_92 = x1 + (1 : Int32) → ∃ n : Nat, V_X8_takeToken_95 G Q n x0 x1_92 u
def V_X8_takeToken_73 (G : Gx) (Q : Mm → Prop) (x0 : Nat) (x1 : Int32) (t0 : Nat) (t1 : Int32) (u : Mm) : Prop :=
  kd G t0 = 8 ∧ ∀ u_73 : Mm, u_73 = sI u t0 6 t1 → kd G x0 = 8 ∧ (((gI u_73 x0 6) = (2 : Int32) → V_X8_takeToken_92 G Q x0 x1 u_73) ∧ (¬ (gI u_73 x0 6) = (2 : Int32) → (((gI u_73 x0 6) = (3 : Int32) → V_X8_takeToken_92 G Q x0 x1 u_73) ∧ (¬ (gI u_73 x0 6) = (3 : Int32) → ∃ n : Nat, V_X8_takeToken_95 G Q n x0 x1 u_73))))
def V_X8_takeToken_41 (G : Gx) (Q : Mm → Prop) (x0 : Nat) (x1 : Int32) (u : Mm) : Prop :=
  kd G x0 = 8 ∧ ∀ u_43 : Mm, u_43 = sI u x0 7 x1 → ∀ u_48 : Mm, u_48 = sI u_43 x0 9 (0 : Int32) → (((gI u_48 x0 2) ≤ x1 → V_X8_takeToken_73 G Q x0 x1 x0 (4 : Int32) u_48) ∧ (¬ (gI u_48 x0 2) ≤ x1 → (gR u_48 x0 0) ≠ 0 ∧ kd G (gR u_48 x0 0) = 14 ∧ vp_in x1 (ln G (gR u_48 x0 0)) ∧ V_X8_kindOf G (gI u_48 (gR u_48 x0 0) x1.toNatClampNeg) u_48 (fun (v_66 : Int32) (u_66 : Mm) => V_X8_takeToken_73 G Q x0 x1 x0 v_66 u_66)))
def V_X8_takeToken_35 (G : Gx) (Q : Mm → Prop) (k_5 : Nat → Int32 → Mm → Prop) (x0 : Nat) (x1 : Int32) (u : Mm) : Prop :=
  ∀ x1_35 : Int32, x1_35 = x1 + (1 : Int32) → k_5 x0 x1_35 u
def V_X8_takeToken_5_B (G : Gx) (Q : Mm → Prop) (k_5 : Nat → Int32 → Mm → Prop) (x0 : Nat) (x1 : Int32) (u : Mm) : Prop :=
  kd G x0 = 8 ∧ (((gI u x0 2) ≤ x1 → V_X8_takeToken_41 G Q x0 x1 u) ∧ (¬ (gI u x0 2) ≤ x1 → (gR u x0 0) ≠ 0 ∧ kd G (gR u x0 0) = 14 ∧ vp_in x1 (ln G (gR u x0 0)) ∧ (((gI u (gR u x0 0) x1.toNatClampNeg) = (32 : Int32) → V_X8_takeToken_35 G Q k_5 x0 x1 u) ∧ (¬ (gI u (gR u x0 0) x1.toNatClampNeg) = (32 : Int32) → (((gI u (gR u x0 0) x1.toNatClampNeg) = (10 : Int32) → V_X8_takeToken_35 G Q k_5 x0 x1 u) ∧ (¬ (gI u (gR u x0 0) x1.toNatClampNeg) = (10 : Int32) → V_X8_takeToken_41 G Q x0 x1 u))))))
def V_X8_takeToken_5 (G : Gx) (Q : Mm → Prop) : Nat → (Nat → Int32 → Mm → Prop)
  | 0 => fun _ _ _ => False
  | n + 1 => fun x0 x1 u => V_X8_takeToken_5_B G Q (V_X8_takeToken_5 G Q n) x0 x1 u
def V_X8_takeToken (G : Gx) (p0 : Nat) (u : Mm) (Q : Mm → Prop) : Prop :=
  kd G p0 = 8 ∧ ∀ x1_4 : Int32, x1_4 = (gI u p0 8) → ∃ n : Nat, V_X8_takeToken_5 G Q n p0 x1_4 u
set_option maxHeartbeats 4000000 in
set_option maxRecDepth 100000 in
theorem b_X8_takeToken_168 {G : Gx} {Q : Mm → Prop} {p : Program} {l : Launch} {e : Env} {s : State} {m : MethodId} {args : Array Value} {below : List Frame} {meth : Method} {c : Code} (C : Cx G p s m c cX8_takeToken RX8 2) (hr : meth.sig.returnType = none) (hlk : meth.locks = false) {k_95 : Nat → Int32 → Mm → Prop} (hk_95 : ∀ (x0 : Nat) (x1 : Int32) (u : Mm) (H : Heap) (locs : List Loc) (ls : Array Slot), k_95 x0 x1 u → lv_has ls 2 [(0, .ref x0), (1, .int x1)] → Hp G u s H locs → W p l e rm_X8_takeToken s m args below meth c H locs 0 0 (MQ below (Ev G Q) args s 0 0 (ag G)) (F0 m 95 ls [])) {x0 : Nat} {x1 : Int32} {t0 : Nat} {t1 : Int32} {u : Mm} {H : Heap} {locs : List Loc} {ls : Array Slot} (h : V_X8_takeToken_168 G Q k_95 x0 x1 t0 t1 u) (hl : lv_has ls 2 [(0, .ref x0), (1, .int x1)]) (hP : Hp G u s H locs) : W p l e rm_X8_takeToken s m args below meth c H locs 0 0 (MQ below (Ev G Q) args s 0 0 (ag G)) (F0 m 168 ls [.int t1, .ref t0]) := by
  have hx := C.1
  have hb := C.2.1
  unfold V_X8_takeToken_168 at h
  obtain ⟨g1, h⟩ := h
  refine q_putI C hP (k := 9) tyX8_ok nmX8 (lay_X8 C.hA) rfl (by decide) rfl rfl rfl rfl g1 (fl_X8_180 C.hA) dX8_takeToken_168 (fun H locs hP => ?_)
  obtain ⟨u_168, eu_168, hP⟩ := Hp.nm hP
  have h := h u_168 eu_168
  obtain ⟨x1_171, ex1_171⟩ : ∃ y : Int32, y = x1 + (1 : Int32) := ⟨_, rfl⟩
  have h := h x1_171 ex1_171
  refine lv_iinc (v := x1_171) (lv' := [(1, .int x1_171), (0, .ref x0)]) hx hb dX8_takeToken_171 hl (k := 1) rfl (by rw [ex1_171]; rfl) (by decide) rfl (fun ls hl => ?_)
  refine lv_goto (tgt := 95) hx hb dX8_takeToken_174 (by decide) ?_
  exact hk_95 x0 x1_171 u_168 _ _ _ h (lv_sub hl [1, 0] rfl) hP
set_option maxHeartbeats 4000000 in
set_option maxRecDepth 100000 in
theorem b_X8_takeToken_118 {G : Gx} {Q : Mm → Prop} {p : Program} {l : Launch} {e : Env} {s : State} {m : MethodId} {args : Array Value} {below : List Frame} {meth : Method} {c : Code} (C : Cx G p s m c cX8_takeToken RX8 2) (hr : meth.sig.returnType = none) (hlk : meth.locks = false) {k_95 : Nat → Int32 → Mm → Prop} (hk_95 : ∀ (x0 : Nat) (x1 : Int32) (u : Mm) (H : Heap) (locs : List Loc) (ls : Array Slot), k_95 x0 x1 u → lv_has ls 2 [(0, .ref x0), (1, .int x1)] → Hp G u s H locs → W p l e rm_X8_takeToken s m args below meth c H locs 0 0 (MQ below (Ev G Q) args s 0 0 (ag G)) (F0 m 95 ls [])) {x0 : Nat} {x1 : Int32} {u : Mm} {H : Heap} {locs : List Loc} {ls : Array Slot} (h : V_X8_takeToken_118 G Q k_95 x0 x1 u) (hl : lv_has ls 2 [(0, .ref x0), (1, .int x1)]) (hP : Hp G u s H locs) : W p l e rm_X8_takeToken s m args below meth c H locs 0 0 (MQ below (Ev G Q) args s 0 0 (ag G)) (F0 m 118 ls []) := by
  have hx := C.1
  have hb := C.2.1
  unfold V_X8_takeToken_118 at h
  refine lv_aload_n hx hb dX8_takeToken_118 rfl (lv_at hl 0 rfl) ?_
  obtain ⟨g1, h⟩ := h
  obtain ⟨g2, h⟩ := h
  refine q_getR C hP (k := 0) (lay_X8 C.hA) rfl (by decide) g1 g2 (fl_X8_9 C.hA) dX8_takeToken_119 ?_
  refine lv_iload_n hx hb dX8_takeToken_122 rfl (lv_at hl 1 rfl) ?_
  obtain ⟨g3, h⟩ := h
  obtain ⟨g4, h⟩ := h
  refine q_bald C hP g3 g4 dX8_takeToken_123 ?_
  refine q_cali (q_runS C hP (c_X8_kindOf h) (cd_X8_kindOf C.hA) (ini_X8 C.hA) (ml_X8_194 C.hA) (st_X8_kindOf C.hA) hd_X8_kindOf ⟨rfl, rfl⟩ ⟨Nat.le_of_ble_eq_true rfl, Nat.le_of_ble_eq_true rfl⟩ ⟨Nat.le_of_ble_eq_true rfl, Nat.le_of_ble_eq_true rfl⟩ hl.1 rfl (Nat.le_of_ble_eq_true rfl) dX8_takeToken_124) hP (fun v_124 u_124 H locs h hP => ?_)
  refine lv_aload_n hx hb dX8_takeToken_127 rfl (lv_at hl 0 rfl) ?_
  refine q_getI C hP (k := 6) (lay_X8 C.hA) rfl (by decide) g1 (fl_X8_57 C.hA) dX8_takeToken_128 ?_
  refine lv_icmp_ne (tgt := 177) hx hb dX8_takeToken_131 (by decide) (fun c131 => ?_) (fun c131 => ?_)
  · have h := h.2 c131
    refine lv_aload_n hx hb dX8_takeToken_177 rfl (lv_at hl 0 rfl) ?_
    refine lv_iload_n hx hb dX8_takeToken_178 rfl (lv_at hl 1 rfl) ?_
    refine q_putI C hP (k := 8) tyX8_ok nmX8 (lay_X8 C.hA) rfl (by decide) rfl rfl rfl rfl g1 (fl_X8_51 C.hA) dX8_takeToken_179 (fun H locs hP => ?_)
    obtain ⟨u_179, eu_179, hP⟩ := Hp.nm hP
    have h := h u_179 eu_179
    exact q_vret C hr hlk hP h (by decide) (by decide) dX8_takeToken_182
  · have h := h.1 c131
    refine lv_aload_n hx hb dX8_takeToken_134 rfl (lv_at hl 0 rfl) ?_
    refine lv_iload_n hx hb dX8_takeToken_135 rfl (lv_at hl 1 rfl) ?_
    refine lv_aload_n hx hb dX8_takeToken_136 rfl (lv_at hl 0 rfl) ?_
    refine q_getI C hP (k := 7) (lay_X8 C.hA) rfl (by decide) g1 (fl_X8_183 C.hA) dX8_takeToken_137 ?_
    refine lv_isub hx hb dX8_takeToken_140 ?_
    refine lv_iconst (v := (4 : Int32)) hx hb dX8_takeToken_141 (by decide) ?_
    refine lv_icmp_ge (tgt := 165) hx hb dX8_takeToken_142 (by decide) (fun c142 => ?_) (fun c142 => ?_)
    · have h := h.1 c142
      refine lv_sipush (v := (10000 : Int32)) hx hb dX8_takeToken_165 (by decide) ?_
      exact b_X8_takeToken_168 C hr hlk hk_95 h (lv_sub hl [0, 1] rfl) hP
    · have h := h.2 c142
      refine lv_aload_n hx hb dX8_takeToken_145 rfl (lv_at hl 0 rfl) ?_
      refine q_getI C hP (k := 9) (lay_X8 C.hA) rfl (by decide) g1 (fl_X8_180 C.hA) dX8_takeToken_146 ?_
      refine lv_bipush (v := (10 : Int32)) hx hb dX8_takeToken_149 (by decide) ?_
      refine lv_imul hx hb dX8_takeToken_151 ?_
      refine lv_aload_n hx hb dX8_takeToken_152 rfl (lv_at hl 0 rfl) ?_
      obtain ⟨g5, h⟩ := h
      refine q_getR C hP (k := 0) (lay_X8 C.hA) rfl (by decide) g1 g5 (fl_X8_9 C.hA) dX8_takeToken_153 ?_
      refine lv_iload_n hx hb dX8_takeToken_156 rfl (lv_at hl 1 rfl) ?_
      obtain ⟨g6, h⟩ := h
      obtain ⟨g7, h⟩ := h
      refine q_bald C hP g6 g7 dX8_takeToken_157 ?_
      refine lv_iadd hx hb dX8_takeToken_158 ?_
      refine lv_bipush (v := (48 : Int32)) hx hb dX8_takeToken_159 (by decide) ?_
      refine lv_isub hx hb dX8_takeToken_161 ?_
      refine lv_goto (tgt := 168) hx hb dX8_takeToken_162 (by decide) ?_
      exact b_X8_takeToken_168 C hr hlk hk_95 h (lv_sub hl [0, 1] rfl) hP
set_option maxHeartbeats 4000000 in
set_option maxRecDepth 100000 in
theorem b_X8_takeToken_95 {G : Gx} {Q : Mm → Prop} {p : Program} {l : Launch} {e : Env} {s : State} {m : MethodId} {args : Array Value} {below : List Frame} {meth : Method} {c : Code} (C : Cx G p s m c cX8_takeToken RX8 2) (hr : meth.sig.returnType = none) (hlk : meth.locks = false) {k_95 : Nat → Int32 → Mm → Prop} (hk_95 : ∀ (x0 : Nat) (x1 : Int32) (u : Mm) (H : Heap) (locs : List Loc) (ls : Array Slot), k_95 x0 x1 u → lv_has ls 2 [(0, .ref x0), (1, .int x1)] → Hp G u s H locs → W p l e rm_X8_takeToken s m args below meth c H locs 0 0 (MQ below (Ev G Q) args s 0 0 (ag G)) (F0 m 95 ls [])) {x0 : Nat} {x1 : Int32} {u : Mm} {H : Heap} {locs : List Loc} {ls : Array Slot} (h : V_X8_takeToken_95_B G Q k_95 x0 x1 u) (hl : lv_has ls 2 [(0, .ref x0), (1, .int x1)]) (hP : Hp G u s H locs) : W p l e rm_X8_takeToken s m args below meth c H locs 0 0 (MQ below (Ev G Q) args s 0 0 (ag G)) (F0 m 95 ls []) := by
  have hx := C.1
  have hb := C.2.1
  unfold V_X8_takeToken_95_B at h
  refine lv_iload_n hx hb dX8_takeToken_95 rfl (lv_at hl 1 rfl) ?_
  refine lv_aload_n hx hb dX8_takeToken_96 rfl (lv_at hl 0 rfl) ?_
  obtain ⟨g1, h⟩ := h
  refine q_getI C hP (k := 2) (lay_X8 C.hA) rfl (by decide) g1 (fl_X8_35 C.hA) dX8_takeToken_97 ?_
  refine lv_icmp_ge (tgt := 177) hx hb dX8_takeToken_100 (by decide) (fun c100 => ?_) (fun c100 => ?_)
  · have h := h.1 c100
    refine lv_aload_n hx hb dX8_takeToken_177 rfl (lv_at hl 0 rfl) ?_
    refine lv_iload_n hx hb dX8_takeToken_178 rfl (lv_at hl 1 rfl) ?_
    refine q_putI C hP (k := 8) tyX8_ok nmX8 (lay_X8 C.hA) rfl (by decide) rfl rfl rfl rfl g1 (fl_X8_51 C.hA) dX8_takeToken_179 (fun H locs hP => ?_)
    obtain ⟨u_179, eu_179, hP⟩ := Hp.nm hP
    have h := h u_179 eu_179
    exact q_vret C hr hlk hP h (by decide) (by decide) dX8_takeToken_182
  · have h := h.2 c100
    refine lv_aload_n hx hb dX8_takeToken_103 rfl (lv_at hl 0 rfl) ?_
    refine q_getI C hP (k := 6) (lay_X8 C.hA) rfl (by decide) g1 (fl_X8_57 C.hA) dX8_takeToken_104 ?_
    refine lv_if_eq (tgt := 118) hx hb dX8_takeToken_107 (by decide) (fun c107 => ?_) (fun c107 => ?_)
    · have h := h.1 c107
      exact b_X8_takeToken_118 C hr hlk hk_95 h (lv_sub hl [0, 1] rfl) hP
    · have h := h.2 c107
      refine lv_aload_n hx hb dX8_takeToken_110 rfl (lv_at hl 0 rfl) ?_
      refine q_getI C hP (k := 6) (lay_X8 C.hA) rfl (by decide) g1 (fl_X8_57 C.hA) dX8_takeToken_111 ?_
      refine lv_iconst (v := (1 : Int32)) hx hb dX8_takeToken_114 (by decide) ?_
      refine lv_icmp_ne (tgt := 177) hx hb dX8_takeToken_115 (by decide) (fun c115 => ?_) (fun c115 => ?_)
      · have h := h.2 c115
        refine lv_aload_n hx hb dX8_takeToken_177 rfl (lv_at hl 0 rfl) ?_
        refine lv_iload_n hx hb dX8_takeToken_178 rfl (lv_at hl 1 rfl) ?_
        refine q_putI C hP (k := 8) tyX8_ok nmX8 (lay_X8 C.hA) rfl (by decide) rfl rfl rfl rfl g1 (fl_X8_51 C.hA) dX8_takeToken_179 (fun H locs hP => ?_)
        obtain ⟨u_179, eu_179, hP⟩ := Hp.nm hP
        have h := h u_179 eu_179
        exact q_vret C hr hlk hP h (by decide) (by decide) dX8_takeToken_182
      · have h := h.1 c115
        exact b_X8_takeToken_118 C hr hlk hk_95 h (lv_sub hl [0, 1] rfl) hP
theorem l_X8_takeToken_95 {G : Gx} {Q : Mm → Prop} {p : Program} {l : Launch} {e : Env} {s : State} {m : MethodId} {args : Array Value} {below : List Frame} {meth : Method} {c : Code} (C : Cx G p s m c cX8_takeToken RX8 2) (hr : meth.sig.returnType = none) (hlk : meth.locks = false) : ∀ (n : Nat) (x0 : Nat) (x1 : Int32) (u : Mm) (H : Heap) (locs : List Loc) (ls : Array Slot), V_X8_takeToken_95 G Q n x0 x1 u → lv_has ls 2 [(0, .ref x0), (1, .int x1)] → Hp G u s H locs → W p l e rm_X8_takeToken s m args below meth c H locs 0 0 (MQ below (Ev G Q) args s 0 0 (ag G)) (F0 m 95 ls []) := by
  intro n
  induction n with
  | zero => intro x0 x1 u H locs ls h; exact h.elim
  | succ n ih => intro x0 x1 u H locs ls h hl hP; exact b_X8_takeToken_95 C hr hlk ih h hl hP
set_option maxHeartbeats 4000000 in
set_option maxRecDepth 100000 in
theorem b_X8_takeToken_92 {G : Gx} {Q : Mm → Prop} {p : Program} {l : Launch} {e : Env} {s : State} {m : MethodId} {args : Array Value} {below : List Frame} {meth : Method} {c : Code} (C : Cx G p s m c cX8_takeToken RX8 2) (hr : meth.sig.returnType = none) (hlk : meth.locks = false) {x0 : Nat} {x1 : Int32} {u : Mm} {H : Heap} {locs : List Loc} {ls : Array Slot} (h : V_X8_takeToken_92 G Q x0 x1 u) (hl : lv_has ls 2 [(0, .ref x0), (1, .int x1)]) (hP : Hp G u s H locs) : W p l e rm_X8_takeToken s m args below meth c H locs 0 0 (MQ below (Ev G Q) args s 0 0 (ag G)) (F0 m 92 ls []) := by
  have hx := C.1
  have hb := C.2.1
  unfold V_X8_takeToken_92 at h
  obtain ⟨x1_92, ex1_92⟩ : ∃ y : Int32, y = x1 + (1 : Int32) := ⟨_, rfl⟩
  have h := h x1_92 ex1_92
  refine lv_iinc (v := x1_92) (lv' := [(1, .int x1_92), (0, .ref x0)]) hx hb dX8_takeToken_92 hl (k := 1) rfl (by rw [ex1_92]; rfl) (by decide) rfl (fun ls hl => ?_)
  obtain ⟨n, h⟩ := h
  exact l_X8_takeToken_95 C hr hlk n x0 x1_92 u _ _ _ h (lv_sub hl [1, 0] rfl) hP
set_option maxHeartbeats 4000000 in
set_option maxRecDepth 100000 in
theorem b_X8_takeToken_73 {G : Gx} {Q : Mm → Prop} {p : Program} {l : Launch} {e : Env} {s : State} {m : MethodId} {args : Array Value} {below : List Frame} {meth : Method} {c : Code} (C : Cx G p s m c cX8_takeToken RX8 2) (hr : meth.sig.returnType = none) (hlk : meth.locks = false) {x0 : Nat} {x1 : Int32} {t0 : Nat} {t1 : Int32} {u : Mm} {H : Heap} {locs : List Loc} {ls : Array Slot} (h : V_X8_takeToken_73 G Q x0 x1 t0 t1 u) (hl : lv_has ls 2 [(0, .ref x0), (1, .int x1)]) (hP : Hp G u s H locs) : W p l e rm_X8_takeToken s m args below meth c H locs 0 0 (MQ below (Ev G Q) args s 0 0 (ag G)) (F0 m 73 ls [.int t1, .ref t0]) := by
  have hx := C.1
  have hb := C.2.1
  unfold V_X8_takeToken_73 at h
  obtain ⟨g1, h⟩ := h
  refine q_putI C hP (k := 6) tyX8_ok nmX8 (lay_X8 C.hA) rfl (by decide) rfl rfl rfl rfl g1 (fl_X8_57 C.hA) dX8_takeToken_73 (fun H locs hP => ?_)
  obtain ⟨u_73, eu_73, hP⟩ := Hp.nm hP
  have h := h u_73 eu_73
  refine lv_aload_n hx hb dX8_takeToken_76 rfl (lv_at hl 0 rfl) ?_
  obtain ⟨g2, h⟩ := h
  refine q_getI C hP (k := 6) (lay_X8 C.hA) rfl (by decide) g2 (fl_X8_57 C.hA) dX8_takeToken_77 ?_
  refine lv_iconst (v := (2 : Int32)) hx hb dX8_takeToken_80 (by decide) ?_
  refine lv_icmp_eq (tgt := 92) hx hb dX8_takeToken_81 (by decide) (fun c81 => ?_) (fun c81 => ?_)
  · have h := h.1 c81
    exact b_X8_takeToken_92 C hr hlk h (lv_sub hl [0, 1] rfl) hP
  · have h := h.2 c81
    refine lv_aload_n hx hb dX8_takeToken_84 rfl (lv_at hl 0 rfl) ?_
    refine q_getI C hP (k := 6) (lay_X8 C.hA) rfl (by decide) g2 (fl_X8_57 C.hA) dX8_takeToken_85 ?_
    refine lv_iconst (v := (3 : Int32)) hx hb dX8_takeToken_88 (by decide) ?_
    refine lv_icmp_ne (tgt := 95) hx hb dX8_takeToken_89 (by decide) (fun c89 => ?_) (fun c89 => ?_)
    · have h := h.2 c89
      obtain ⟨n, h⟩ := h
      exact l_X8_takeToken_95 C hr hlk n x0 x1 u_73 _ _ _ h (lv_sub hl [0, 1] rfl) hP
    · have h := h.1 c89
      exact b_X8_takeToken_92 C hr hlk h (lv_sub hl [0, 1] rfl) hP
set_option maxHeartbeats 4000000 in
set_option maxRecDepth 100000 in
theorem b_X8_takeToken_41 {G : Gx} {Q : Mm → Prop} {p : Program} {l : Launch} {e : Env} {s : State} {m : MethodId} {args : Array Value} {below : List Frame} {meth : Method} {c : Code} (C : Cx G p s m c cX8_takeToken RX8 2) (hr : meth.sig.returnType = none) (hlk : meth.locks = false) {x0 : Nat} {x1 : Int32} {u : Mm} {H : Heap} {locs : List Loc} {ls : Array Slot} (h : V_X8_takeToken_41 G Q x0 x1 u) (hl : lv_has ls 2 [(0, .ref x0), (1, .int x1)]) (hP : Hp G u s H locs) : W p l e rm_X8_takeToken s m args below meth c H locs 0 0 (MQ below (Ev G Q) args s 0 0 (ag G)) (F0 m 41 ls []) := by
  have hx := C.1
  have hb := C.2.1
  unfold V_X8_takeToken_41 at h
  refine lv_aload_n hx hb dX8_takeToken_41 rfl (lv_at hl 0 rfl) ?_
  refine lv_iload_n hx hb dX8_takeToken_42 rfl (lv_at hl 1 rfl) ?_
  obtain ⟨g1, h⟩ := h
  refine q_putI C hP (k := 7) tyX8_ok nmX8 (lay_X8 C.hA) rfl (by decide) rfl rfl rfl rfl g1 (fl_X8_183 C.hA) dX8_takeToken_43 (fun H locs hP => ?_)
  obtain ⟨u_43, eu_43, hP⟩ := Hp.nm hP
  have h := h u_43 eu_43
  refine lv_aload_n hx hb dX8_takeToken_46 rfl (lv_at hl 0 rfl) ?_
  refine lv_iconst (v := (0 : Int32)) hx hb dX8_takeToken_47 (by decide) ?_
  refine q_putI C hP (k := 9) tyX8_ok nmX8 (lay_X8 C.hA) rfl (by decide) rfl rfl rfl rfl g1 (fl_X8_180 C.hA) dX8_takeToken_48 (fun H locs hP => ?_)
  obtain ⟨u_48, eu_48, hP⟩ := Hp.nm hP
  have h := h u_48 eu_48
  refine lv_aload_n hx hb dX8_takeToken_51 rfl (lv_at hl 0 rfl) ?_
  refine lv_iload_n hx hb dX8_takeToken_52 rfl (lv_at hl 1 rfl) ?_
  refine lv_aload_n hx hb dX8_takeToken_53 rfl (lv_at hl 0 rfl) ?_
  refine q_getI C hP (k := 2) (lay_X8 C.hA) rfl (by decide) g1 (fl_X8_35 C.hA) dX8_takeToken_54 ?_
  refine lv_icmp_ge (tgt := 72) hx hb dX8_takeToken_57 (by decide) (fun c57 => ?_) (fun c57 => ?_)
  · have h := h.1 c57
    refine lv_iconst (v := (4 : Int32)) hx hb dX8_takeToken_72 (by decide) ?_
    exact b_X8_takeToken_73 C hr hlk h (lv_sub hl [0, 1] rfl) hP
  · have h := h.2 c57
    refine lv_aload_n hx hb dX8_takeToken_60 rfl (lv_at hl 0 rfl) ?_
    obtain ⟨g2, h⟩ := h
    refine q_getR C hP (k := 0) (lay_X8 C.hA) rfl (by decide) g1 g2 (fl_X8_9 C.hA) dX8_takeToken_61 ?_
    refine lv_iload_n hx hb dX8_takeToken_64 rfl (lv_at hl 1 rfl) ?_
    obtain ⟨g3, h⟩ := h
    obtain ⟨g4, h⟩ := h
    refine q_bald C hP g3 g4 dX8_takeToken_65 ?_
    refine q_cali (q_runS C hP (c_X8_kindOf h) (cd_X8_kindOf C.hA) (ini_X8 C.hA) (ml_X8_194 C.hA) (st_X8_kindOf C.hA) hd_X8_kindOf ⟨rfl, rfl⟩ ⟨Nat.le_of_ble_eq_true rfl, Nat.le_of_ble_eq_true rfl⟩ ⟨Nat.le_of_ble_eq_true rfl, Nat.le_of_ble_eq_true rfl⟩ hl.1 rfl (Nat.le_of_ble_eq_true rfl) dX8_takeToken_66) hP (fun v_66 u_66 H locs h hP => ?_)
    refine lv_goto (tgt := 73) hx hb dX8_takeToken_69 (by decide) ?_
    exact b_X8_takeToken_73 C hr hlk h (lv_sub hl [0, 1] rfl) hP
set_option maxHeartbeats 4000000 in
set_option maxRecDepth 100000 in
theorem b_X8_takeToken_35 {G : Gx} {Q : Mm → Prop} {p : Program} {l : Launch} {e : Env} {s : State} {m : MethodId} {args : Array Value} {below : List Frame} {meth : Method} {c : Code} (C : Cx G p s m c cX8_takeToken RX8 2) (hr : meth.sig.returnType = none) (hlk : meth.locks = false) {k_5 : Nat → Int32 → Mm → Prop} (hk_5 : ∀ (x0 : Nat) (x1 : Int32) (u : Mm) (H : Heap) (locs : List Loc) (ls : Array Slot), k_5 x0 x1 u → lv_has ls 2 [(0, .ref x0), (1, .int x1)] → Hp G u s H locs → W p l e rm_X8_takeToken s m args below meth c H locs 0 0 (MQ below (Ev G Q) args s 0 0 (ag G)) (F0 m 5 ls [])) {x0 : Nat} {x1 : Int32} {u : Mm} {H : Heap} {locs : List Loc} {ls : Array Slot} (h : V_X8_takeToken_35 G Q k_5 x0 x1 u) (hl : lv_has ls 2 [(0, .ref x0), (1, .int x1)]) (hP : Hp G u s H locs) : W p l e rm_X8_takeToken s m args below meth c H locs 0 0 (MQ below (Ev G Q) args s 0 0 (ag G)) (F0 m 35 ls []) := by
  have hx := C.1
  have hb := C.2.1
  unfold V_X8_takeToken_35 at h
  obtain ⟨x1_35, ex1_35⟩ : ∃ y : Int32, y = x1 + (1 : Int32) := ⟨_, rfl⟩
  have h := h x1_35 ex1_35
  refine lv_iinc (v := x1_35) (lv' := [(1, .int x1_35), (0, .ref x0)]) hx hb dX8_takeToken_35 hl (k := 1) rfl (by rw [ex1_35]; rfl) (by decide) rfl (fun ls hl => ?_)
  refine lv_goto (tgt := 5) hx hb dX8_takeToken_38 (by decide) ?_
  exact hk_5 x0 x1_35 u _ _ _ h (lv_sub hl [1, 0] rfl) hP
set_option maxHeartbeats 4000000 in
set_option maxRecDepth 100000 in
theorem b_X8_takeToken_5 {G : Gx} {Q : Mm → Prop} {p : Program} {l : Launch} {e : Env} {s : State} {m : MethodId} {args : Array Value} {below : List Frame} {meth : Method} {c : Code} (C : Cx G p s m c cX8_takeToken RX8 2) (hr : meth.sig.returnType = none) (hlk : meth.locks = false) {k_5 : Nat → Int32 → Mm → Prop} (hk_5 : ∀ (x0 : Nat) (x1 : Int32) (u : Mm) (H : Heap) (locs : List Loc) (ls : Array Slot), k_5 x0 x1 u → lv_has ls 2 [(0, .ref x0), (1, .int x1)] → Hp G u s H locs → W p l e rm_X8_takeToken s m args below meth c H locs 0 0 (MQ below (Ev G Q) args s 0 0 (ag G)) (F0 m 5 ls [])) {x0 : Nat} {x1 : Int32} {u : Mm} {H : Heap} {locs : List Loc} {ls : Array Slot} (h : V_X8_takeToken_5_B G Q k_5 x0 x1 u) (hl : lv_has ls 2 [(0, .ref x0), (1, .int x1)]) (hP : Hp G u s H locs) : W p l e rm_X8_takeToken s m args below meth c H locs 0 0 (MQ below (Ev G Q) args s 0 0 (ag G)) (F0 m 5 ls []) := by
  have hx := C.1
  have hb := C.2.1
  unfold V_X8_takeToken_5_B at h
  refine lv_iload_n hx hb dX8_takeToken_5 rfl (lv_at hl 1 rfl) ?_
  refine lv_aload_n hx hb dX8_takeToken_6 rfl (lv_at hl 0 rfl) ?_
  obtain ⟨g1, h⟩ := h
  refine q_getI C hP (k := 2) (lay_X8 C.hA) rfl (by decide) g1 (fl_X8_35 C.hA) dX8_takeToken_7 ?_
  refine lv_icmp_ge (tgt := 41) hx hb dX8_takeToken_10 (by decide) (fun c10 => ?_) (fun c10 => ?_)
  · have h := h.1 c10
    exact b_X8_takeToken_41 C hr hlk h (lv_sub hl [0, 1] rfl) hP
  · have h := h.2 c10
    refine lv_aload_n hx hb dX8_takeToken_13 rfl (lv_at hl 0 rfl) ?_
    obtain ⟨g2, h⟩ := h
    refine q_getR C hP (k := 0) (lay_X8 C.hA) rfl (by decide) g1 g2 (fl_X8_9 C.hA) dX8_takeToken_14 ?_
    refine lv_iload_n hx hb dX8_takeToken_17 rfl (lv_at hl 1 rfl) ?_
    obtain ⟨g3, h⟩ := h
    obtain ⟨g4, h⟩ := h
    refine q_bald C hP g3 g4 dX8_takeToken_18 ?_
    refine lv_bipush (v := (32 : Int32)) hx hb dX8_takeToken_19 (by decide) ?_
    refine lv_icmp_eq (tgt := 35) hx hb dX8_takeToken_21 (by decide) (fun c21 => ?_) (fun c21 => ?_)
    · have h := h.1 c21
      exact b_X8_takeToken_35 C hr hlk hk_5 h (lv_sub hl [0, 1] rfl) hP
    · have h := h.2 c21
      refine lv_aload_n hx hb dX8_takeToken_24 rfl (lv_at hl 0 rfl) ?_
      refine q_getR C hP (k := 0) (lay_X8 C.hA) rfl (by decide) g1 g2 (fl_X8_9 C.hA) dX8_takeToken_25 ?_
      refine lv_iload_n hx hb dX8_takeToken_28 rfl (lv_at hl 1 rfl) ?_
      refine q_bald C hP g3 g4 dX8_takeToken_29 ?_
      refine lv_bipush (v := (10 : Int32)) hx hb dX8_takeToken_30 (by decide) ?_
      refine lv_icmp_ne (tgt := 41) hx hb dX8_takeToken_32 (by decide) (fun c32 => ?_) (fun c32 => ?_)
      · have h := h.2 c32
        exact b_X8_takeToken_41 C hr hlk h (lv_sub hl [0, 1] rfl) hP
      · have h := h.1 c32
        exact b_X8_takeToken_35 C hr hlk hk_5 h (lv_sub hl [0, 1] rfl) hP
theorem l_X8_takeToken_5 {G : Gx} {Q : Mm → Prop} {p : Program} {l : Launch} {e : Env} {s : State} {m : MethodId} {args : Array Value} {below : List Frame} {meth : Method} {c : Code} (C : Cx G p s m c cX8_takeToken RX8 2) (hr : meth.sig.returnType = none) (hlk : meth.locks = false) : ∀ (n : Nat) (x0 : Nat) (x1 : Int32) (u : Mm) (H : Heap) (locs : List Loc) (ls : Array Slot), V_X8_takeToken_5 G Q n x0 x1 u → lv_has ls 2 [(0, .ref x0), (1, .int x1)] → Hp G u s H locs → W p l e rm_X8_takeToken s m args below meth c H locs 0 0 (MQ below (Ev G Q) args s 0 0 (ag G)) (F0 m 5 ls []) := by
  intro n
  induction n with
  | zero => intro x0 x1 u H locs ls h; exact h.elim
  | succ n ih => intro x0 x1 u H locs ls h hl hP; exact b_X8_takeToken_5 C hr hlk ih h hl hP
set_option maxHeartbeats 4000000 in
set_option maxRecDepth 100000 in
theorem c_X8_takeToken {l : Launch} {G : Gx} {p0 : Nat} {u : Mm} {Q : Mm → Prop} (h : V_X8_takeToken G p0 u Q) : Met l yX8_takeToken [.code yX8_takeToken cX8_takeToken 2 none] rm_X8_takeToken (va_Pc [.ref p0] (Wd G u)) (Ev G Q) 0 0 (ag G) := by
  refine q_met (by decide) (Nat.le_of_ble_eq_true rfl) ?_
  intro p e s m below meth c ls C hr hlk hnm hl hP
  have hl : lv_has ls 2 [(0, .ref p0)] := hl
  generalize ([.ref p0] : List Value).toArray = args
  have hx := C.1
  have hb := C.2.1
  unfold V_X8_takeToken at h
  refine lv_aload_n hx hb dX8_takeToken_0 rfl (lv_at hl 0 rfl) ?_
  obtain ⟨g1, h⟩ := h
  refine q_getI C hP (k := 8) (lay_X8 C.hA) rfl (by decide) g1 (fl_X8_51 C.hA) dX8_takeToken_1 ?_
  refine lv_topi (fun x1_4 ex1_4 => ?_)
  have h := h x1_4 ex1_4
  refine lv_istore_n (lv' := [(1, .int x1_4), (0, .ref p0)]) hx hb dX8_takeToken_4 rfl hl (by decide) rfl (fun ls hl => ?_)
  obtain ⟨n, h⟩ := h
  exact l_X8_takeToken_5 C hr hlk n p0 x1_4 u _ _ _ h (lv_sub hl [1, 0] rfl) hP
-- X8_isWord
abbrev rm_X8_isWord : Room := { frames := 4, cells := 0, slots := 0, locals := 85 }
theorem hd_X8_isWord : yX8_isWord.cls ≠ "java/lang/invoke/MethodHandle" ∧ yX8_isWord.cls ≠ "java/lang/invoke/VarHandle" ∧ (parseMethodDescriptor yX8_isWord.desc).map (fun d => d.parameters.length) = some 1 := by decide +kernel
def V_X8_isWord_34_B (G : Gx) (Q : Int32 → Mm → Prop) (k_34 : Nat → Nat → Int32 → Mm → Prop) (x0 : Nat) (x1 : Nat) (x2 : Int32) (u : Mm) : Prop :=
  V_J0_length G x1 u (fun (v_36 : Int32) (u_36 : Mm) => ((v_36 ≤ x2 → Q (1 : Int32) u_36) ∧ (¬ v_36 ≤ x2 → kd G x0 = 8 ∧ (gR u_36 x0 0) ≠ 0 ∧ kd G (gR u_36 x0 0) = 14 ∧ vp_in ((gI u_36 x0 7) + x2) (ln G (gR u_36 x0 0)) ∧ V_J0_charAt G x1 x2 u_36 (fun (v_55 : Int32) (u_55 : Mm) => (((gI u_36 (gR u_36 x0 0) ((gI u_36 x0 7) + x2).toNatClampNeg) = v_55 → ∀ x2_63 : Int32, x2_63 = x2 + (1 : Int32) → k_34 x0 x1 x2_63 u_55) ∧ (¬ (gI u_36 (gR u_36 x0 0) ((gI u_36 x0 7) + x2).toNatClampNeg) = v_55 → Q (0 : Int32) u_55))))))
def V_X8_isWord_34 (G : Gx) (Q : Int32 → Mm → Prop) : Nat → (Nat → Nat → Int32 → Mm → Prop)
  | 0 => fun _ _ _ _ => False
  | n + 1 => fun x0 x1 x2 u => V_X8_isWord_34_B G Q (V_X8_isWord_34 G Q n) x0 x1 x2 u
def V_X8_isWord (G : Gx) (p0 : Nat) (p1 : Nat) (u : Mm) (Q : Int32 → Mm → Prop) : Prop :=
  kd G p0 = 8 ∧ (((gI u p0 10) = 0 → (((gI u p0 6) = 0 → V_J0_length G p1 u (fun (v_24 : Int32) (u_24 : Mm) => ((((gI u p0 8) - (gI u p0 7)) = v_24 → ∃ n : Nat, V_X8_isWord_34 G Q n p0 p1 (0 : Int32) u_24) ∧ (¬ ((gI u p0 8) - (gI u p0 7)) = v_24 → Q (0 : Int32) u_24)))) ∧ (¬ (gI u p0 6) = 0 → Q (0 : Int32) u))) ∧ (¬ (gI u p0 10) = 0 → Q (0 : Int32) u))
set_option maxHeartbeats 4000000 in
set_option maxRecDepth 100000 in
theorem b_X8_isWord_34 {G : Gx} {Q : Int32 → Mm → Prop} {p : Program} {l : Launch} {e : Env} {s : State} {m : MethodId} {args : Array Value} {below : List Frame} {meth : Method} {c : Code} (C : Cx G p s m c cX8_isWord RX8 3) (hr : meth.sig.returnType = (some .boolean)) (hlk : meth.locks = false) {k_34 : Nat → Nat → Int32 → Mm → Prop} (hk_34 : ∀ (x0 : Nat) (x1 : Nat) (x2 : Int32) (u : Mm) (H : Heap) (locs : List Loc) (ls : Array Slot), k_34 x0 x1 x2 u → lv_has ls 3 [(0, .ref x0), (1, .ref x1), (2, .int x2)] → Hp G u s H locs → W p l e rm_X8_isWord s m args below meth c H locs 0 0 (MQ below (Ei G Q) args s 0 0 (ag G)) (F0 m 34 ls [])) {x0 : Nat} {x1 : Nat} {x2 : Int32} {u : Mm} {H : Heap} {locs : List Loc} {ls : Array Slot} (h : V_X8_isWord_34_B G Q k_34 x0 x1 x2 u) (hl : lv_has ls 3 [(0, .ref x0), (1, .ref x1), (2, .int x2)]) (hP : Hp G u s H locs) : W p l e rm_X8_isWord s m args below meth c H locs 0 0 (MQ below (Ei G Q) args s 0 0 (ag G)) (F0 m 34 ls []) := by
  have hx := C.1
  have hb := C.2.1
  unfold V_X8_isWord_34_B at h
  refine lv_iload_n hx hb dX8_isWord_34 rfl (lv_at hl 2 rfl) ?_
  refine lv_aload_n hx hb dX8_isWord_35 rfl (lv_at hl 1 rfl) ?_
  obtain ⟨i36, hi36, ei36, hM36⟩ := cs_J0_length (l := l) h
  refine W.eq (g2 := F0 m 36 ls [.ref (gS G i36), .int x2]) (by rw [← ei36]) ?_
  refine q_cali (q_runVs C hP hi36 hM36 (cd_J0_length_8abf5 C.hA) (ini_J0 C.hA) (ml_X8_186 C.hA) (im_J0_length_8abf5 C.hA) (sl_J0_length_8abf5 C.hA) hd_J0_length ⟨rfl, rfl⟩ ⟨Nat.le_of_ble_eq_true rfl, Nat.le_of_ble_eq_true rfl⟩ ⟨Nat.le_of_ble_eq_true rfl, Nat.le_of_ble_eq_true rfl⟩ hl.1 rfl (Nat.le_of_ble_eq_true rfl) dX8_isWord_36) hP (fun v_36 u_36 H locs h hP => ?_)
  refine lv_icmp_ge (tgt := 69) hx hb dX8_isWord_39 (by decide) (fun c39 => ?_) (fun c39 => ?_)
  · have h := h.1 c39
    refine lv_iconst (v := (1 : Int32)) hx hb dX8_isWord_69 (by decide) ?_
    exact q_zret C hr hlk hP (by decide) h (by decide) (by decide) dX8_isWord_70
  · have h := h.2 c39
    refine lv_aload_n hx hb dX8_isWord_42 rfl (lv_at hl 0 rfl) ?_
    obtain ⟨g1, h⟩ := h
    obtain ⟨g2, h⟩ := h
    refine q_getR C hP (k := 0) (lay_X8 C.hA) rfl (by decide) g1 g2 (fl_X8_9 C.hA) dX8_isWord_43 ?_
    refine lv_aload_n hx hb dX8_isWord_46 rfl (lv_at hl 0 rfl) ?_
    refine q_getI C hP (k := 7) (lay_X8 C.hA) rfl (by decide) g1 (fl_X8_183 C.hA) dX8_isWord_47 ?_
    refine lv_iload_n hx hb dX8_isWord_50 rfl (lv_at hl 2 rfl) ?_
    refine lv_iadd hx hb dX8_isWord_51 ?_
    obtain ⟨g3, h⟩ := h
    obtain ⟨g4, h⟩ := h
    refine q_bald C hP g3 g4 dX8_isWord_52 ?_
    refine lv_aload_n hx hb dX8_isWord_53 rfl (lv_at hl 1 rfl) ?_
    refine lv_iload_n hx hb dX8_isWord_54 rfl (lv_at hl 2 rfl) ?_
    obtain ⟨i55, hi55, ei55, hM55⟩ := cs_J0_charAt (l := l) h
    refine W.eq (g2 := F0 m 55 ls [.int x2, .ref (gS G i55), .int (gI u_36 (gR u_36 x0 0) ((gI u_36 x0 7) + x2).toNatClampNeg)]) (by rw [← ei55]) ?_
    refine q_cali (q_runVs C hP hi55 hM55 (cd_J0_charAt_5068e C.hA) (ini_J0 C.hA) (ml_X8_190 C.hA) (im_J0_charAt_5068e C.hA) (sl_J0_charAt_5068e C.hA) hd_J0_charAt ⟨rfl, rfl⟩ ⟨Nat.le_of_ble_eq_true rfl, Nat.le_of_ble_eq_true rfl⟩ ⟨Nat.le_of_ble_eq_true rfl, Nat.le_of_ble_eq_true rfl⟩ hl.1 rfl (Nat.le_of_ble_eq_true rfl) dX8_isWord_55) hP (fun v_55 u_55 H locs h hP => ?_)
    refine lv_icmp_eq (tgt := 63) hx hb dX8_isWord_58 (by decide) (fun c58 => ?_) (fun c58 => ?_)
    · have h := h.1 c58
      obtain ⟨x2_63, ex2_63⟩ : ∃ y : Int32, y = x2 + (1 : Int32) := ⟨_, rfl⟩
      have h := h x2_63 ex2_63
      refine lv_iinc (v := x2_63) (lv' := [(2, .int x2_63), (0, .ref x0), (1, .ref x1)]) hx hb dX8_isWord_63 hl (k := 2) rfl (by rw [ex2_63]; rfl) (by decide) rfl (fun ls hl => ?_)
      refine lv_goto (tgt := 34) hx hb dX8_isWord_66 (by decide) ?_
      exact hk_34 x0 x1 x2_63 u_55 _ _ _ h (lv_sub hl [1, 2, 0] rfl) hP
    · have h := h.2 c58
      refine lv_iconst (v := (0 : Int32)) hx hb dX8_isWord_61 (by decide) ?_
      exact q_zret C hr hlk hP (by decide) h (by decide) (by decide) dX8_isWord_62
theorem l_X8_isWord_34 {G : Gx} {Q : Int32 → Mm → Prop} {p : Program} {l : Launch} {e : Env} {s : State} {m : MethodId} {args : Array Value} {below : List Frame} {meth : Method} {c : Code} (C : Cx G p s m c cX8_isWord RX8 3) (hr : meth.sig.returnType = (some .boolean)) (hlk : meth.locks = false) : ∀ (n : Nat) (x0 : Nat) (x1 : Nat) (x2 : Int32) (u : Mm) (H : Heap) (locs : List Loc) (ls : Array Slot), V_X8_isWord_34 G Q n x0 x1 x2 u → lv_has ls 3 [(0, .ref x0), (1, .ref x1), (2, .int x2)] → Hp G u s H locs → W p l e rm_X8_isWord s m args below meth c H locs 0 0 (MQ below (Ei G Q) args s 0 0 (ag G)) (F0 m 34 ls []) := by
  intro n
  induction n with
  | zero => intro x0 x1 x2 u H locs ls h; exact h.elim
  | succ n ih => intro x0 x1 x2 u H locs ls h hl hP; exact b_X8_isWord_34 C hr hlk ih h hl hP
set_option maxHeartbeats 4000000 in
set_option maxRecDepth 100000 in
theorem c_X8_isWord {l : Launch} {G : Gx} {p0 : Nat} {p1 : Nat} {u : Mm} {Q : Int32 → Mm → Prop} (h : V_X8_isWord G p0 p1 u Q) : Met l yX8_isWord [.code yX8_isWord cX8_isWord 3 (some .boolean)] rm_X8_isWord (va_Pc [.ref p0, .ref p1] (Wd G u)) (Ei G Q) 0 0 (ag G) := by
  refine q_met (by decide) (Nat.le_of_ble_eq_true rfl) ?_
  intro p e s m below meth c ls C hr hlk hnm hl hP
  have hl : lv_has ls 3 [(0, .ref p0), (1, .ref p1)] := hl
  generalize ([.ref p0, .ref p1] : List Value).toArray = args
  have hx := C.1
  have hb := C.2.1
  unfold V_X8_isWord at h
  refine lv_aload_n hx hb dX8_isWord_0 rfl (lv_at hl 0 rfl) ?_
  obtain ⟨g1, h⟩ := h
  refine q_getI C hP (k := 10) (lay_X8 C.hA) rfl (by decide) g1 (fl_X8_48 C.hA) dX8_isWord_1 ?_
  refine lv_if_ne (tgt := 30) hx hb dX8_isWord_4 (by decide) (fun c4 => ?_) (fun c4 => ?_)
  · have h := h.2 c4
    refine lv_iconst (v := (0 : Int32)) hx hb dX8_isWord_30 (by decide) ?_
    exact q_zret C hr hlk hP (by decide) h (by decide) (by decide) dX8_isWord_31
  · have h := h.1 c4
    refine lv_aload_n hx hb dX8_isWord_7 rfl (lv_at hl 0 rfl) ?_
    refine q_getI C hP (k := 6) (lay_X8 C.hA) rfl (by decide) g1 (fl_X8_57 C.hA) dX8_isWord_8 ?_
    refine lv_if_ne (tgt := 30) hx hb dX8_isWord_11 (by decide) (fun c11 => ?_) (fun c11 => ?_)
    · have h := h.2 c11
      refine lv_iconst (v := (0 : Int32)) hx hb dX8_isWord_30 (by decide) ?_
      exact q_zret C hr hlk hP (by decide) h (by decide) (by decide) dX8_isWord_31
    · have h := h.1 c11
      refine lv_aload_n hx hb dX8_isWord_14 rfl (lv_at hl 0 rfl) ?_
      refine q_getI C hP (k := 8) (lay_X8 C.hA) rfl (by decide) g1 (fl_X8_51 C.hA) dX8_isWord_15 ?_
      refine lv_aload_n hx hb dX8_isWord_18 rfl (lv_at hl 0 rfl) ?_
      refine q_getI C hP (k := 7) (lay_X8 C.hA) rfl (by decide) g1 (fl_X8_183 C.hA) dX8_isWord_19 ?_
      refine lv_isub hx hb dX8_isWord_22 ?_
      refine lv_aload_n hx hb dX8_isWord_23 rfl (lv_at hl 1 rfl) ?_
      obtain ⟨i24, hi24, ei24, hM24⟩ := cs_J0_length (l := l) h
      refine W.eq (g2 := F0 m 24 ls [.ref (gS G i24), .int ((gI u p0 8) - (gI u p0 7))]) (by rw [← ei24]) ?_
      refine q_cali (q_runVs C hP hi24 hM24 (cd_J0_length_8abf5 C.hA) (ini_J0 C.hA) (ml_X8_186 C.hA) (im_J0_length_8abf5 C.hA) (sl_J0_length_8abf5 C.hA) hd_J0_length ⟨rfl, rfl⟩ ⟨Nat.le_of_ble_eq_true rfl, Nat.le_of_ble_eq_true rfl⟩ ⟨Nat.le_of_ble_eq_true rfl, Nat.le_of_ble_eq_true rfl⟩ hl.1 rfl (Nat.le_of_ble_eq_true rfl) dX8_isWord_24) hP (fun v_24 u_24 H locs h hP => ?_)
      refine lv_icmp_eq (tgt := 32) hx hb dX8_isWord_27 (by decide) (fun c27 => ?_) (fun c27 => ?_)
      · have h := h.1 c27
        refine lv_iconst (v := (0 : Int32)) hx hb dX8_isWord_32 (by decide) ?_
        refine lv_istore_n (lv' := [(2, .int (0 : Int32)), (0, .ref p0), (1, .ref p1)]) hx hb dX8_isWord_33 rfl hl (by decide) rfl (fun ls hl => ?_)
        obtain ⟨n, h⟩ := h
        exact l_X8_isWord_34 C hr hlk n p0 p1 (0 : Int32) u_24 _ _ _ h (lv_sub hl [1, 2, 0] rfl) hP
      · have h := h.2 c27
        refine lv_iconst (v := (0 : Int32)) hx hb dX8_isWord_30 (by decide) ?_
        exact q_zret C hr hlk hP (by decide) h (by decide) (by decide) dX8_isWord_31
-- X8_refuse
abbrev rm_X8_refuse : Room := { frames := 0, cells := 0, slots := 0, locals := 0 }
theorem hd_X8_refuse : yX8_refuse.cls ≠ "java/lang/invoke/MethodHandle" ∧ yX8_refuse.cls ≠ "java/lang/invoke/VarHandle" ∧ (parseMethodDescriptor yX8_refuse.desc).map (fun d => d.parameters.length) = some 1 := by decide +kernel
def V_X8_refuse (G : Gx) (p0 : Nat) (p1 : Int32) (u : Mm) (Q : Mm → Prop) : Prop :=
  kd G p0 = 8 ∧ ∀ u_2 : Mm, u_2 = sI u p0 10 p1 → ∀ u_10 : Mm, u_10 = sI u_2 p0 11 (gI u_2 p0 7) → Q u_10
set_option maxHeartbeats 4000000 in
set_option maxRecDepth 100000 in
theorem c_X8_refuse {l : Launch} {G : Gx} {p0 : Nat} {p1 : Int32} {u : Mm} {Q : Mm → Prop} (h : V_X8_refuse G p0 p1 u Q) : Met l yX8_refuse [.code yX8_refuse cX8_refuse 2 none] rm_X8_refuse (va_Pc [.ref p0, .int p1] (Wd G u)) (Ev G Q) 0 0 (ag G) := by
  refine q_met (by decide) (Nat.le_of_ble_eq_true rfl) ?_
  intro p e s m below meth c ls C hr hlk hnm hl hP
  have hl : lv_has ls 2 [(0, .ref p0), (1, .int p1)] := hl
  generalize ([.ref p0, .int p1] : List Value).toArray = args
  have hx := C.1
  have hb := C.2.1
  unfold V_X8_refuse at h
  refine lv_aload_n hx hb dX8_refuse_0 rfl (lv_at hl 0 rfl) ?_
  refine lv_iload_n hx hb dX8_refuse_1 rfl (lv_at hl 1 rfl) ?_
  obtain ⟨g1, h⟩ := h
  refine q_putI C hP (k := 10) tyX8_ok nmX8 (lay_X8 C.hA) rfl (by decide) rfl rfl rfl rfl g1 (fl_X8_48 C.hA) dX8_refuse_2 (fun H locs hP => ?_)
  obtain ⟨u_2, eu_2, hP⟩ := Hp.nm hP
  have h := h u_2 eu_2
  refine lv_aload_n hx hb dX8_refuse_5 rfl (lv_at hl 0 rfl) ?_
  refine lv_aload_n hx hb dX8_refuse_6 rfl (lv_at hl 0 rfl) ?_
  refine q_getI C hP (k := 7) (lay_X8 C.hA) rfl (by decide) g1 (fl_X8_183 C.hA) dX8_refuse_7 ?_
  refine q_putI C hP (k := 11) tyX8_ok nmX8 (lay_X8 C.hA) rfl (by decide) rfl rfl rfl rfl g1 (fl_X8_22 C.hA) dX8_refuse_10 (fun H locs hP => ?_)
  obtain ⟨u_10, eu_10, hP⟩ := Hp.nm hP
  have h := h u_10 eu_10
  exact q_vret C hr hlk hP h (by decide) (by decide) dX8_refuse_13
-- X8_readNumber
abbrev rm_X8_readNumber : Room := { frames := 2, cells := 0, slots := 0, locals := 41 }
theorem hd_X8_readNumber : yX8_readNumber.cls ≠ "java/lang/invoke/MethodHandle" ∧ yX8_readNumber.cls ≠ "java/lang/invoke/VarHandle" ∧ (parseMethodDescriptor yX8_readNumber.desc).map (fun d => d.parameters.length) = some 3 := by decide +kernel
def V_X8_readNumber_40 (G : Gx) (Q : Int32 → Mm → Prop) (x0 : Nat) (x1 : Int32) (u : Mm) : Prop :=
  kd G x0 = 8 ∧ V_X8_refuse G x0 (2 : Int32) u (fun (u_42 : Mm) => Q x1 u_42)
def V_X8_readNumber (G : Gx) (p0 : Nat) (p1 : Int32) (p2 : Int32) (p3 : Int32) (u : Mm) (Q : Int32 → Mm → Prop) : Prop :=
  kd G p0 = 8 ∧ (((gI u p0 10) = 0 → (((gI u p0 6) = (1 : Int32) → (((gI u p0 9) < p1 → V_X8_readNumber_40 G Q p0 p1 u) ∧ (¬ (gI u p0 9) < p1 → (((gI u p0 9) ≤ p2 → ((p3 ≤ (gI u p0 9) → ∀ x4_66 : Int32, x4_66 = (gI u p0 9) → V_X8_takeToken G p0 u (fun (u_69 : Mm) => Q x4_66 u_69)) ∧ (¬ p3 ≤ (gI u p0 9) → V_X8_refuse G p0 (3 : Int32) u (fun (u_57 : Mm) => Q p1 u_57)))) ∧ (¬ (gI u p0 9) ≤ p2 → V_X8_readNumber_40 G Q p0 p1 u))))) ∧ (¬ (gI u p0 6) = (1 : Int32) → V_X8_refuse G p0 (1 : Int32) u (fun (u_19 : Mm) => Q p1 u_19)))) ∧ (¬ (gI u p0 10) = 0 → Q p1 u))
set_option maxHeartbeats 4000000 in
set_option maxRecDepth 100000 in
theorem b_X8_readNumber_40 {G : Gx} {Q : Int32 → Mm → Prop} {p : Program} {l : Launch} {e : Env} {s : State} {m : MethodId} {args : Array Value} {below : List Frame} {meth : Method} {c : Code} (C : Cx G p s m c cX8_readNumber RX8 5) (hr : meth.sig.returnType = (some .int)) (hlk : meth.locks = false) {x0 : Nat} {x1 : Int32} {u : Mm} {H : Heap} {locs : List Loc} {ls : Array Slot} (h : V_X8_readNumber_40 G Q x0 x1 u) (hl : lv_has ls 5 [(0, .ref x0), (1, .int x1)]) (hP : Hp G u s H locs) : W p l e rm_X8_readNumber s m args below meth c H locs 0 0 (MQ below (Ei G Q) args s 0 0 (ag G)) (F0 m 40 ls []) := by
  have hx := C.1
  have hb := C.2.1
  unfold V_X8_readNumber_40 at h
  refine lv_aload_n hx hb dX8_readNumber_40 rfl (lv_at hl 0 rfl) ?_
  refine lv_iconst (v := (2 : Int32)) hx hb dX8_readNumber_41 (by decide) ?_
  obtain ⟨g1, h⟩ := h
  refine q_calv (q_runV C hP (c_X8_refuse h) (cd_X8_refuse C.hA) (ini_X8 C.hA) (ml_X8_92 C.hA) (im_X8_refuse C.hA) (sl_X8_refuse C.hA) g1 (by decide) rfl hd_X8_refuse ⟨rfl, rfl⟩ ⟨Nat.le_of_ble_eq_true rfl, Nat.le_of_ble_eq_true rfl⟩ ⟨Nat.le_of_ble_eq_true rfl, Nat.le_of_ble_eq_true rfl⟩ hl.1 rfl (Nat.le_of_ble_eq_true rfl) dX8_readNumber_42) hP (fun u_42 H locs h hP => ?_)
  refine lv_iload_n hx hb dX8_readNumber_45 rfl (lv_at hl 1 rfl) ?_
  exact q_iret C hr hlk hP h (by decide) (by decide) dX8_readNumber_46
set_option maxHeartbeats 4000000 in
set_option maxRecDepth 100000 in
theorem c_X8_readNumber {l : Launch} {G : Gx} {p0 : Nat} {p1 : Int32} {p2 : Int32} {p3 : Int32} {u : Mm} {Q : Int32 → Mm → Prop} (h : V_X8_readNumber G p0 p1 p2 p3 u Q) : Met l yX8_readNumber [.code yX8_readNumber cX8_readNumber 5 (some .int)] rm_X8_readNumber (va_Pc [.ref p0, .int p1, .int p2, .int p3] (Wd G u)) (Ei G Q) 0 0 (ag G) := by
  refine q_met (by decide) (Nat.le_of_ble_eq_true rfl) ?_
  intro p e s m below meth c ls C hr hlk hnm hl hP
  have hl : lv_has ls 5 [(0, .ref p0), (1, .int p1), (2, .int p2), (3, .int p3)] := hl
  generalize ([.ref p0, .int p1, .int p2, .int p3] : List Value).toArray = args
  have hx := C.1
  have hb := C.2.1
  unfold V_X8_readNumber at h
  refine lv_aload_n hx hb dX8_readNumber_0 rfl (lv_at hl 0 rfl) ?_
  obtain ⟨g1, h⟩ := h
  refine q_getI C hP (k := 10) (lay_X8 C.hA) rfl (by decide) g1 (fl_X8_48 C.hA) dX8_readNumber_1 ?_
  refine lv_if_eq (tgt := 9) hx hb dX8_readNumber_4 (by decide) (fun c4 => ?_) (fun c4 => ?_)
  · have h := h.1 c4
    refine lv_aload_n hx hb dX8_readNumber_9 rfl (lv_at hl 0 rfl) ?_
    refine q_getI C hP (k := 6) (lay_X8 C.hA) rfl (by decide) g1 (fl_X8_57 C.hA) dX8_readNumber_10 ?_
    refine lv_iconst (v := (1 : Int32)) hx hb dX8_readNumber_13 (by decide) ?_
    refine lv_icmp_eq (tgt := 24) hx hb dX8_readNumber_14 (by decide) (fun c14 => ?_) (fun c14 => ?_)
    · have h := h.1 c14
      refine lv_aload_n hx hb dX8_readNumber_24 rfl (lv_at hl 0 rfl) ?_
      refine q_getI C hP (k := 9) (lay_X8 C.hA) rfl (by decide) g1 (fl_X8_180 C.hA) dX8_readNumber_25 ?_
      refine lv_iload_n hx hb dX8_readNumber_28 rfl (lv_at hl 1 rfl) ?_
      refine lv_icmp_lt (tgt := 40) hx hb dX8_readNumber_29 (by decide) (fun c29 => ?_) (fun c29 => ?_)
      · have h := h.1 c29
        exact b_X8_readNumber_40 C hr hlk h (lv_sub hl [0, 1] rfl) hP
      · have h := h.2 c29
        refine lv_aload_n hx hb dX8_readNumber_32 rfl (lv_at hl 0 rfl) ?_
        refine q_getI C hP (k := 9) (lay_X8 C.hA) rfl (by decide) g1 (fl_X8_180 C.hA) dX8_readNumber_33 ?_
        refine lv_iload_n hx hb dX8_readNumber_36 rfl (lv_at hl 2 rfl) ?_
        refine lv_icmp_le (tgt := 47) hx hb dX8_readNumber_37 (by decide) (fun c37 => ?_) (fun c37 => ?_)
        · have h := h.1 c37
          refine lv_aload_n hx hb dX8_readNumber_47 rfl (lv_at hl 0 rfl) ?_
          refine q_getI C hP (k := 9) (lay_X8 C.hA) rfl (by decide) g1 (fl_X8_180 C.hA) dX8_readNumber_48 ?_
          refine lv_iload_n hx hb dX8_readNumber_51 rfl (lv_at hl 3 rfl) ?_
          refine lv_icmp_ge (tgt := 62) hx hb dX8_readNumber_52 (by decide) (fun c52 => ?_) (fun c52 => ?_)
          · have h := h.1 c52
            refine lv_aload_n hx hb dX8_readNumber_62 rfl (lv_at hl 0 rfl) ?_
            refine q_getI C hP (k := 9) (lay_X8 C.hA) rfl (by decide) g1 (fl_X8_180 C.hA) dX8_readNumber_63 ?_
            refine lv_topi (fun x4_66 ex4_66 => ?_)
            have h := h x4_66 ex4_66
            refine lv_istore (lv' := [(4, .int x4_66), (0, .ref p0), (1, .int p1), (2, .int p2), (3, .int p3)]) hx hb dX8_readNumber_66 hl (by decide) rfl (fun ls hl => ?_)
            refine lv_aload_n hx hb dX8_readNumber_68 rfl (lv_at hl 1 rfl) ?_
            refine q_calv (q_runV C hP (c_X8_takeToken h) (cd_X8_takeToken C.hA) (ini_X8 C.hA) (ml_X8_54 C.hA) (im_X8_takeToken C.hA) (sl_X8_takeToken C.hA) g1 (by decide) rfl hd_X8_takeToken ⟨rfl, rfl⟩ ⟨Nat.le_of_ble_eq_true rfl, Nat.le_of_ble_eq_true rfl⟩ ⟨Nat.le_of_ble_eq_true rfl, Nat.le_of_ble_eq_true rfl⟩ hl.1 rfl (Nat.le_of_ble_eq_true rfl) dX8_readNumber_69) hP (fun u_69 H locs h hP => ?_)
            refine lv_iload hx hb dX8_readNumber_72 (lv_at hl 0 rfl) ?_
            exact q_iret C hr hlk hP h (by decide) (by decide) dX8_readNumber_74
          · have h := h.2 c52
            refine lv_aload_n hx hb dX8_readNumber_55 rfl (lv_at hl 0 rfl) ?_
            refine lv_iconst (v := (3 : Int32)) hx hb dX8_readNumber_56 (by decide) ?_
            refine q_calv (q_runV C hP (c_X8_refuse h) (cd_X8_refuse C.hA) (ini_X8 C.hA) (ml_X8_92 C.hA) (im_X8_refuse C.hA) (sl_X8_refuse C.hA) g1 (by decide) rfl hd_X8_refuse ⟨rfl, rfl⟩ ⟨Nat.le_of_ble_eq_true rfl, Nat.le_of_ble_eq_true rfl⟩ ⟨Nat.le_of_ble_eq_true rfl, Nat.le_of_ble_eq_true rfl⟩ hl.1 rfl (Nat.le_of_ble_eq_true rfl) dX8_readNumber_57) hP (fun u_57 H locs h hP => ?_)
            refine lv_iload_n hx hb dX8_readNumber_60 rfl (lv_at hl 1 rfl) ?_
            exact q_iret C hr hlk hP h (by decide) (by decide) dX8_readNumber_61
        · have h := h.2 c37
          exact b_X8_readNumber_40 C hr hlk h (lv_sub hl [0, 1] rfl) hP
    · have h := h.2 c14
      refine lv_aload_n hx hb dX8_readNumber_17 rfl (lv_at hl 0 rfl) ?_
      refine lv_iconst (v := (1 : Int32)) hx hb dX8_readNumber_18 (by decide) ?_
      refine q_calv (q_runV C hP (c_X8_refuse h) (cd_X8_refuse C.hA) (ini_X8 C.hA) (ml_X8_92 C.hA) (im_X8_refuse C.hA) (sl_X8_refuse C.hA) g1 (by decide) rfl hd_X8_refuse ⟨rfl, rfl⟩ ⟨Nat.le_of_ble_eq_true rfl, Nat.le_of_ble_eq_true rfl⟩ ⟨Nat.le_of_ble_eq_true rfl, Nat.le_of_ble_eq_true rfl⟩ hl.1 rfl (Nat.le_of_ble_eq_true rfl) dX8_readNumber_19) hP (fun u_19 H locs h hP => ?_)
      refine lv_iload_n hx hb dX8_readNumber_22 rfl (lv_at hl 1 rfl) ?_
      exact q_iret C hr hlk hP h (by decide) (by decide) dX8_readNumber_23
  · have h := h.2 c4
    refine lv_iload_n hx hb dX8_readNumber_7 rfl (lv_at hl 1 rfl) ?_
    exact q_iret C hr hlk hP h (by decide) (by decide) dX8_readNumber_8
-- X8_readLoss
abbrev rm_X8_readLoss : Room := { frames := 5, cells := 0, slots := 0, locals := 107 }
theorem hd_X8_readLoss : yX8_readLoss.cls ≠ "java/lang/invoke/MethodHandle" ∧ yX8_readLoss.cls ≠ "java/lang/invoke/VarHandle" ∧ (parseMethodDescriptor yX8_readLoss.desc).map (fun d => d.parameters.length) = some 0 := by decide +kernel
def V_X8_readLoss (G : Gx) (p0 : Nat) (u : Mm) (Q : Int32 → Mm → Prop) : Prop :=
  kd G p0 = 8 ∧ V_X8_isWord G p0 (gS G 3) u (fun (v_3 : Int32) (u_3 : Mm) => ((v_3 = 0 → Q (0 : Int32) u_3) ∧ (¬ v_3 = 0 → V_X8_takeToken G p0 u_3 (fun (u_12 : Mm) => V_X8_readNumber G p0 (0 : Int32) (100 : Int32) (0 : Int32) u_12 (fun (v_20 : Int32) (u_20 : Mm) => Q v_20 u_20)))))
set_option maxHeartbeats 4000000 in
set_option maxRecDepth 100000 in
theorem c_X8_readLoss {l : Launch} {G : Gx} {p0 : Nat} {u : Mm} {Q : Int32 → Mm → Prop} (h : V_X8_readLoss G p0 u Q) : Met l yX8_readLoss [.code yX8_readLoss cX8_readLoss 1 (some .int)] rm_X8_readLoss (va_Pc [.ref p0] (Wd G u)) (Ei G Q) 0 0 (ag G) := by
  refine q_met (by decide) (Nat.le_of_ble_eq_true rfl) ?_
  intro p e s m below meth c ls C hr hlk hnm hl hP
  have hl : lv_has ls 1 [(0, .ref p0)] := hl
  generalize ([.ref p0] : List Value).toArray = args
  have hx := C.1
  have hb := C.2.1
  unfold V_X8_readLoss at h
  refine lv_aload_n hx hb dX8_readLoss_0 rfl (lv_at hl 0 rfl) ?_
  refine q_lds C 3 (by decide) rfl rfl dX8_readLoss_1 ?_
  obtain ⟨g1, h⟩ := h
  refine q_cali (q_runV C hP (c_X8_isWord h) (cd_X8_isWord C.hA) (ini_X8 C.hA) (ml_X8_62 C.hA) (im_X8_isWord C.hA) (sl_X8_isWord C.hA) g1 (by decide) rfl hd_X8_isWord ⟨rfl, rfl⟩ ⟨Nat.le_of_ble_eq_true rfl, Nat.le_of_ble_eq_true rfl⟩ ⟨Nat.le_of_ble_eq_true rfl, Nat.le_of_ble_eq_true rfl⟩ hl.1 rfl (Nat.le_of_ble_eq_true rfl) dX8_readLoss_3) hP (fun v_3 u_3 H locs h hP => ?_)
  refine lv_if_ne (tgt := 11) hx hb dX8_readLoss_6 (by decide) (fun c6 => ?_) (fun c6 => ?_)
  · have h := h.2 c6
    refine lv_aload_n hx hb dX8_readLoss_11 rfl (lv_at hl 0 rfl) ?_
    refine q_calv (q_runV C hP (c_X8_takeToken h) (cd_X8_takeToken C.hA) (ini_X8 C.hA) (ml_X8_54 C.hA) (im_X8_takeToken C.hA) (sl_X8_takeToken C.hA) g1 (by decide) rfl hd_X8_takeToken ⟨rfl, rfl⟩ ⟨Nat.le_of_ble_eq_true rfl, Nat.le_of_ble_eq_true rfl⟩ ⟨Nat.le_of_ble_eq_true rfl, Nat.le_of_ble_eq_true rfl⟩ hl.1 rfl (Nat.le_of_ble_eq_true rfl) dX8_readLoss_12) hP (fun u_12 H locs h hP => ?_)
    refine lv_aload_n hx hb dX8_readLoss_15 rfl (lv_at hl 0 rfl) ?_
    refine lv_iconst (v := (0 : Int32)) hx hb dX8_readLoss_16 (by decide) ?_
    refine lv_bipush (v := (100 : Int32)) hx hb dX8_readLoss_17 (by decide) ?_
    refine lv_iconst (v := (0 : Int32)) hx hb dX8_readLoss_19 (by decide) ?_
    refine q_cali (q_runV C hP (c_X8_readNumber h) (cd_X8_readNumber C.hA) (ini_X8 C.hA) (ml_X8_107 C.hA) (im_X8_readNumber C.hA) (sl_X8_readNumber C.hA) g1 (by decide) rfl hd_X8_readNumber ⟨rfl, rfl⟩ ⟨Nat.le_of_ble_eq_true rfl, Nat.le_of_ble_eq_true rfl⟩ ⟨Nat.le_of_ble_eq_true rfl, Nat.le_of_ble_eq_true rfl⟩ hl.1 rfl (Nat.le_of_ble_eq_true rfl) dX8_readLoss_20) hP (fun v_20 u_20 H locs h hP => ?_)
    exact q_iret C hr hlk hP h (by decide) (by decide) dX8_readLoss_23
  · have h := h.1 c6
    refine lv_iconst (v := (0 : Int32)) hx hb dX8_readLoss_9 (by decide) ?_
    exact q_iret C hr hlk hP h (by decide) (by decide) dX8_readLoss_10
-- X8_readSign
abbrev rm_X8_readSign : Room := { frames := 2, cells := 0, slots := 0, locals := 41 }
theorem hd_X8_readSign : yX8_readSign.cls ≠ "java/lang/invoke/MethodHandle" ∧ yX8_readSign.cls ≠ "java/lang/invoke/VarHandle" ∧ (parseMethodDescriptor yX8_readSign.desc).map (fun d => d.parameters.length) = some 0 := by decide +kernel
def V_X8_readSign (G : Gx) (p0 : Nat) (u : Mm) (Q : Mm → Prop) : Prop :=
  kd G p0 = 8 ∧ (((gI u p0 10) = 0 → (((gI u p0 6) = (2 : Int32) → V_X8_takeToken G p0 u (fun (u_23 : Mm) => Q u_23)) ∧ (¬ (gI u p0 6) = (2 : Int32) → V_X8_refuse G p0 (1 : Int32) u (fun (u_18 : Mm) => Q u_18)))) ∧ (¬ (gI u p0 10) = 0 → Q u))
set_option maxHeartbeats 4000000 in
set_option maxRecDepth 100000 in
theorem c_X8_readSign {l : Launch} {G : Gx} {p0 : Nat} {u : Mm} {Q : Mm → Prop} (h : V_X8_readSign G p0 u Q) : Met l yX8_readSign [.code yX8_readSign cX8_readSign 1 none] rm_X8_readSign (va_Pc [.ref p0] (Wd G u)) (Ev G Q) 0 0 (ag G) := by
  refine q_met (by decide) (Nat.le_of_ble_eq_true rfl) ?_
  intro p e s m below meth c ls C hr hlk hnm hl hP
  have hl : lv_has ls 1 [(0, .ref p0)] := hl
  generalize ([.ref p0] : List Value).toArray = args
  have hx := C.1
  have hb := C.2.1
  unfold V_X8_readSign at h
  refine lv_aload_n hx hb dX8_readSign_0 rfl (lv_at hl 0 rfl) ?_
  obtain ⟨g1, h⟩ := h
  refine q_getI C hP (k := 10) (lay_X8 C.hA) rfl (by decide) g1 (fl_X8_48 C.hA) dX8_readSign_1 ?_
  refine lv_if_eq (tgt := 8) hx hb dX8_readSign_4 (by decide) (fun c4 => ?_) (fun c4 => ?_)
  · have h := h.1 c4
    refine lv_aload_n hx hb dX8_readSign_8 rfl (lv_at hl 0 rfl) ?_
    refine q_getI C hP (k := 6) (lay_X8 C.hA) rfl (by decide) g1 (fl_X8_57 C.hA) dX8_readSign_9 ?_
    refine lv_iconst (v := (2 : Int32)) hx hb dX8_readSign_12 (by decide) ?_
    refine lv_icmp_eq (tgt := 22) hx hb dX8_readSign_13 (by decide) (fun c13 => ?_) (fun c13 => ?_)
    · have h := h.1 c13
      refine lv_aload_n hx hb dX8_readSign_22 rfl (lv_at hl 0 rfl) ?_
      refine q_calv (q_runV C hP (c_X8_takeToken h) (cd_X8_takeToken C.hA) (ini_X8 C.hA) (ml_X8_54 C.hA) (im_X8_takeToken C.hA) (sl_X8_takeToken C.hA) g1 (by decide) rfl hd_X8_takeToken ⟨rfl, rfl⟩ ⟨Nat.le_of_ble_eq_true rfl, Nat.le_of_ble_eq_true rfl⟩ ⟨Nat.le_of_ble_eq_true rfl, Nat.le_of_ble_eq_true rfl⟩ hl.1 rfl (Nat.le_of_ble_eq_true rfl) dX8_readSign_23) hP (fun u_23 H locs h hP => ?_)
      exact q_vret C hr hlk hP h (by decide) (by decide) dX8_readSign_26
    · have h := h.2 c13
      refine lv_aload_n hx hb dX8_readSign_16 rfl (lv_at hl 0 rfl) ?_
      refine lv_iconst (v := (1 : Int32)) hx hb dX8_readSign_17 (by decide) ?_
      refine q_calv (q_runV C hP (c_X8_refuse h) (cd_X8_refuse C.hA) (ini_X8 C.hA) (ml_X8_92 C.hA) (im_X8_refuse C.hA) (sl_X8_refuse C.hA) g1 (by decide) rfl hd_X8_refuse ⟨rfl, rfl⟩ ⟨Nat.le_of_ble_eq_true rfl, Nat.le_of_ble_eq_true rfl⟩ ⟨Nat.le_of_ble_eq_true rfl, Nat.le_of_ble_eq_true rfl⟩ hl.1 rfl (Nat.le_of_ble_eq_true rfl) dX8_readSign_18) hP (fun u_18 H locs h hP => ?_)
      exact q_vret C hr hlk hP h (by decide) (by decide) dX8_readSign_21
  · have h := h.2 c4
    exact q_vret C hr hlk hP h (by decide) (by decide) dX8_readSign_7
-- X8_readWall
abbrev rm_X8_readWall : Room := { frames := 6, cells := 0, slots := 0, locals := 127 }
theorem hd_X8_readWall : yX8_readWall.cls ≠ "java/lang/invoke/MethodHandle" ∧ yX8_readWall.cls ≠ "java/lang/invoke/VarHandle" ∧ (parseMethodDescriptor yX8_readWall.desc).map (fun d => d.parameters.length) = some 1 := by decide +kernel
def V_X8_readWall (G : Gx) (p0 : Nat) (p1 : Int32) (u : Mm) (Q : Mm → Prop) : Prop :=
  kd G p0 = 8 ∧ (gR u p0 3) ≠ 0 ∧ kd G (gR u p0 3) = 4 ∧ (((gI u (gR u p0 3) 3) < (6 : Int32) → V_X8_takeToken G p0 u (fun (u_19 : Mm) => (gR u_19 p0 3) ≠ 0 ∧ kd G (gR u_19 p0 3) = 4 ∧ (gR u_19 (gR u_19 p0 3) 0) ≠ 0 ∧ kd G (gR u_19 (gR u_19 p0 3) 0) = 17 ∧ vp_in (gI u_19 (gR u_19 p0 3) 3) (ln G (gR u_19 (gR u_19 p0 3) 0)) ∧ (gR u_19 (gR u_19 (gR u_19 p0 3) 0) (gI u_19 (gR u_19 p0 3) 3).toNatClampNeg) ≠ 0 ∧ ∀ x2_37 : Nat, x2_37 = (gR u_19 (gR u_19 (gR u_19 p0 3) 0) (gI u_19 (gR u_19 p0 3) 3).toNatClampNeg) → kd G x2_37 = 9 ∧ (p1 = 0 ∨ p1 = 1) ∧ ∀ u_40 : Mm, u_40 = sI u_19 x2_37 0 p1 → V_X8_readNumber G p0 (0 : Int32) (40 : Int32) (0 : Int32) u_40 (fun (v_49 : Int32) (u_49 : Mm) => ∀ u_52 : Mm, u_52 = sI u_49 x2_37 1 v_49 → V_X8_readNumber G p0 (0 : Int32) (40 : Int32) (0 : Int32) u_52 (fun (v_61 : Int32) (u_61 : Mm) => ∀ u_64 : Mm, u_64 = sI u_61 x2_37 2 v_61 → V_X8_readNumber G p0 (0 : Int32) (40 : Int32) ((gI u_64 x2_37 2) + (1 : Int32)) u_64 (fun (v_78 : Int32) (u_78 : Mm) => ∀ u_81 : Mm, u_81 = sI u_78 x2_37 3 v_78 → V_X8_readLoss G p0 u_81 (fun (v_86 : Int32) (u_86 : Mm) => ∀ u_89 : Mm, u_89 = sI u_86 x2_37 4 v_86 → V_X8_readSign G p0 u_89 (fun (u_93 : Mm) => (gR u_93 p0 3) ≠ 0 ∧ kd G (gR u_93 p0 3) = 4 ∧ ∀ u_106 : Mm, u_106 = sI u_93 (gR u_93 p0 3) 3 ((gI u_93 (gR u_93 p0 3) 3) + (1 : Int32)) → Q u_106))))))) ∧ (¬ (gI u (gR u p0 3) 3) < (6 : Int32) → V_X8_refuse G p0 (2 : Int32) u (fun (u_14 : Mm) => Q u_14)))
set_option maxHeartbeats 4000000 in
set_option maxRecDepth 100000 in
theorem c_X8_readWall {l : Launch} {G : Gx} {p0 : Nat} {p1 : Int32} {u : Mm} {Q : Mm → Prop} (h : V_X8_readWall G p0 p1 u Q) : Met l yX8_readWall [.code yX8_readWall cX8_readWall 3 none] rm_X8_readWall (va_Pc [.ref p0, .int p1] (Wd G u)) (Ev G Q) 0 0 (ag G) := by
  refine q_met (by decide) (Nat.le_of_ble_eq_true rfl) ?_
  intro p e s m below meth c ls C hr hlk hnm hl hP
  have hl : lv_has ls 3 [(0, .ref p0), (1, .int p1)] := hl
  generalize ([.ref p0, .int p1] : List Value).toArray = args
  have hx := C.1
  have hb := C.2.1
  unfold V_X8_readWall at h
  refine lv_aload_n hx hb dX8_readWall_0 rfl (lv_at hl 0 rfl) ?_
  obtain ⟨g1, h⟩ := h
  obtain ⟨g2, h⟩ := h
  refine q_getR C hP (k := 3) (lay_X8 C.hA) rfl (by decide) g1 g2 (fl_X8_18 C.hA) dX8_readWall_1 ?_
  obtain ⟨g3, h⟩ := h
  refine q_getIN C hP (k := 3) (lay_X4 C.hA) rfl (by decide) g3 (fn_X8_96 C.hA) dX8_readWall_4 ?_
  refine lv_bipush (v := (6 : Int32)) hx hb dX8_readWall_7 (by decide) ?_
  refine lv_icmp_lt (tgt := 18) hx hb dX8_readWall_9 (by decide) (fun c9 => ?_) (fun c9 => ?_)
  · have h := h.1 c9
    refine lv_aload_n hx hb dX8_readWall_18 rfl (lv_at hl 0 rfl) ?_
    refine q_calv (q_runV C hP (c_X8_takeToken h) (cd_X8_takeToken C.hA) (ini_X8 C.hA) (ml_X8_54 C.hA) (im_X8_takeToken C.hA) (sl_X8_takeToken C.hA) g1 (by decide) rfl hd_X8_takeToken ⟨rfl, rfl⟩ ⟨Nat.le_of_ble_eq_true rfl, Nat.le_of_ble_eq_true rfl⟩ ⟨Nat.le_of_ble_eq_true rfl, Nat.le_of_ble_eq_true rfl⟩ hl.1 rfl (Nat.le_of_ble_eq_true rfl) dX8_readWall_19) hP (fun u_19 H locs h hP => ?_)
    refine lv_aload_n hx hb dX8_readWall_22 rfl (lv_at hl 0 rfl) ?_
    obtain ⟨g4, h⟩ := h
    refine q_getR C hP (k := 3) (lay_X8 C.hA) rfl (by decide) g1 g4 (fl_X8_18 C.hA) dX8_readWall_23 ?_
    obtain ⟨g5, h⟩ := h
    obtain ⟨g6, h⟩ := h
    refine q_getRN C hP (k := 0) (lay_X4 C.hA) rfl (by decide) g5 g6 (fn_X8_99 C.hA) dX8_readWall_26 ?_
    refine lv_aload_n hx hb dX8_readWall_29 rfl (lv_at hl 0 rfl) ?_
    refine q_getR C hP (k := 3) (lay_X8 C.hA) rfl (by decide) g1 g4 (fl_X8_18 C.hA) dX8_readWall_30 ?_
    refine q_getIN C hP (k := 3) (lay_X4 C.hA) rfl (by decide) g5 (fn_X8_96 C.hA) dX8_readWall_33 ?_
    obtain ⟨g7, h⟩ := h
    obtain ⟨g8, h⟩ := h
    obtain ⟨g9, h⟩ := h
    refine q_aald C hP g7 (by decide) rfl g8 g9 dX8_readWall_36 ?_
    refine q_topr (fun x2_37 ex2_37 => ?_)
    have h := h x2_37 ex2_37
    refine lv_astore_n (lv' := [(2, .ref x2_37), (0, .ref p0), (1, .int p1)]) hx hb dX8_readWall_37 rfl hl (by decide) rfl (fun ls hl => ?_)
    refine lv_aload_n hx hb dX8_readWall_38 rfl (lv_at hl 0 rfl) ?_
    refine lv_iload_n hx hb dX8_readWall_39 rfl (lv_at hl 2 rfl) ?_
    obtain ⟨g10, h⟩ := h
    obtain ⟨g11, h⟩ := h
    refine q_putIN C hP (k := 0) tyX9_ok nmX9 (lay_X9 C.hA) rfl (by decide) rfl rfl (nb01 g11) (fb01 g11) g10 (fn_X8_103 C.hA) dX8_readWall_40 (fun H locs hP => ?_)
    obtain ⟨u_40, eu_40, hP⟩ := Hp.nm hP
    have h := h u_40 eu_40
    refine lv_aload_n hx hb dX8_readWall_43 rfl (lv_at hl 0 rfl) ?_
    refine lv_aload_n hx hb dX8_readWall_44 rfl (lv_at hl 1 rfl) ?_
    refine lv_iconst (v := (0 : Int32)) hx hb dX8_readWall_45 (by decide) ?_
    refine lv_bipush (v := (40 : Int32)) hx hb dX8_readWall_46 (by decide) ?_
    refine lv_iconst (v := (0 : Int32)) hx hb dX8_readWall_48 (by decide) ?_
    refine q_cali (q_runV C hP (c_X8_readNumber h) (cd_X8_readNumber C.hA) (ini_X8 C.hA) (ml_X8_107 C.hA) (im_X8_readNumber C.hA) (sl_X8_readNumber C.hA) g1 (by decide) rfl hd_X8_readNumber ⟨rfl, rfl⟩ ⟨Nat.le_of_ble_eq_true rfl, Nat.le_of_ble_eq_true rfl⟩ ⟨Nat.le_of_ble_eq_true rfl, Nat.le_of_ble_eq_true rfl⟩ hl.1 rfl (Nat.le_of_ble_eq_true rfl) dX8_readWall_49) hP (fun v_49 u_49 H locs h hP => ?_)
    refine q_putIN C hP (k := 1) tyX9_ok nmX9 (lay_X9 C.hA) rfl (by decide) rfl rfl rfl rfl g10 (fn_X8_111 C.hA) dX8_readWall_52 (fun H locs hP => ?_)
    obtain ⟨u_52, eu_52, hP⟩ := Hp.nm hP
    have h := h u_52 eu_52
    refine lv_aload_n hx hb dX8_readWall_55 rfl (lv_at hl 0 rfl) ?_
    refine lv_aload_n hx hb dX8_readWall_56 rfl (lv_at hl 1 rfl) ?_
    refine lv_iconst (v := (0 : Int32)) hx hb dX8_readWall_57 (by decide) ?_
    refine lv_bipush (v := (40 : Int32)) hx hb dX8_readWall_58 (by decide) ?_
    refine lv_iconst (v := (0 : Int32)) hx hb dX8_readWall_60 (by decide) ?_
    refine q_cali (q_runV C hP (c_X8_readNumber h) (cd_X8_readNumber C.hA) (ini_X8 C.hA) (ml_X8_107 C.hA) (im_X8_readNumber C.hA) (sl_X8_readNumber C.hA) g1 (by decide) rfl hd_X8_readNumber ⟨rfl, rfl⟩ ⟨Nat.le_of_ble_eq_true rfl, Nat.le_of_ble_eq_true rfl⟩ ⟨Nat.le_of_ble_eq_true rfl, Nat.le_of_ble_eq_true rfl⟩ hl.1 rfl (Nat.le_of_ble_eq_true rfl) dX8_readWall_61) hP (fun v_61 u_61 H locs h hP => ?_)
    refine q_putIN C hP (k := 2) tyX9_ok nmX9 (lay_X9 C.hA) rfl (by decide) rfl rfl rfl rfl g10 (fn_X8_114 C.hA) dX8_readWall_64 (fun H locs hP => ?_)
    obtain ⟨u_64, eu_64, hP⟩ := Hp.nm hP
    have h := h u_64 eu_64
    refine lv_aload_n hx hb dX8_readWall_67 rfl (lv_at hl 0 rfl) ?_
    refine lv_aload_n hx hb dX8_readWall_68 rfl (lv_at hl 1 rfl) ?_
    refine lv_iconst (v := (0 : Int32)) hx hb dX8_readWall_69 (by decide) ?_
    refine lv_bipush (v := (40 : Int32)) hx hb dX8_readWall_70 (by decide) ?_
    refine lv_aload_n hx hb dX8_readWall_72 rfl (lv_at hl 0 rfl) ?_
    refine q_getIN C hP (k := 2) (lay_X9 C.hA) rfl (by decide) g10 (fn_X8_114 C.hA) dX8_readWall_73 ?_
    refine lv_iconst (v := (1 : Int32)) hx hb dX8_readWall_76 (by decide) ?_
    refine lv_iadd hx hb dX8_readWall_77 ?_
    refine q_cali (q_runV C hP (c_X8_readNumber h) (cd_X8_readNumber C.hA) (ini_X8 C.hA) (ml_X8_107 C.hA) (im_X8_readNumber C.hA) (sl_X8_readNumber C.hA) g1 (by decide) rfl hd_X8_readNumber ⟨rfl, rfl⟩ ⟨Nat.le_of_ble_eq_true rfl, Nat.le_of_ble_eq_true rfl⟩ ⟨Nat.le_of_ble_eq_true rfl, Nat.le_of_ble_eq_true rfl⟩ hl.1 rfl (Nat.le_of_ble_eq_true rfl) dX8_readWall_78) hP (fun v_78 u_78 H locs h hP => ?_)
    refine q_putIN C hP (k := 3) tyX9_ok nmX9 (lay_X9 C.hA) rfl (by decide) rfl rfl rfl rfl g10 (fn_X8_117 C.hA) dX8_readWall_81 (fun H locs hP => ?_)
    obtain ⟨u_81, eu_81, hP⟩ := Hp.nm hP
    have h := h u_81 eu_81
    refine lv_aload_n hx hb dX8_readWall_84 rfl (lv_at hl 0 rfl) ?_
    refine lv_aload_n hx hb dX8_readWall_85 rfl (lv_at hl 1 rfl) ?_
    refine q_cali (q_runV C hP (c_X8_readLoss h) (cd_X8_readLoss C.hA) (ini_X8 C.hA) (ml_X8_120 C.hA) (im_X8_readLoss C.hA) (sl_X8_readLoss C.hA) g1 (by decide) rfl hd_X8_readLoss ⟨rfl, rfl⟩ ⟨Nat.le_of_ble_eq_true rfl, Nat.le_of_ble_eq_true rfl⟩ ⟨Nat.le_of_ble_eq_true rfl, Nat.le_of_ble_eq_true rfl⟩ hl.1 rfl (Nat.le_of_ble_eq_true rfl) dX8_readWall_86) hP (fun v_86 u_86 H locs h hP => ?_)
    refine q_putIN C hP (k := 4) tyX9_ok nmX9 (lay_X9 C.hA) rfl (by decide) rfl rfl rfl rfl g10 (fn_X8_124 C.hA) dX8_readWall_89 (fun H locs hP => ?_)
    obtain ⟨u_89, eu_89, hP⟩ := Hp.nm hP
    have h := h u_89 eu_89
    refine lv_aload_n hx hb dX8_readWall_92 rfl (lv_at hl 1 rfl) ?_
    refine q_calv (q_runV C hP (c_X8_readSign h) (cd_X8_readSign C.hA) (ini_X8 C.hA) (ml_X8_127 C.hA) (im_X8_readSign C.hA) (sl_X8_readSign C.hA) g1 (by decide) rfl hd_X8_readSign ⟨rfl, rfl⟩ ⟨Nat.le_of_ble_eq_true rfl, Nat.le_of_ble_eq_true rfl⟩ ⟨Nat.le_of_ble_eq_true rfl, Nat.le_of_ble_eq_true rfl⟩ hl.1 rfl (Nat.le_of_ble_eq_true rfl) dX8_readWall_93) hP (fun u_93 H locs h hP => ?_)
    refine lv_aload_n hx hb dX8_readWall_96 rfl (lv_at hl 1 rfl) ?_
    obtain ⟨g12, h⟩ := h
    refine q_getR C hP (k := 3) (lay_X8 C.hA) rfl (by decide) g1 g12 (fl_X8_18 C.hA) dX8_readWall_97 ?_
    refine lv_dup hx hb dX8_readWall_100 rfl ?_
    obtain ⟨g13, h⟩ := h
    refine q_getIN C hP (k := 3) (lay_X4 C.hA) rfl (by decide) g13 (fn_X8_96 C.hA) dX8_readWall_101 ?_
    refine lv_iconst (v := (1 : Int32)) hx hb dX8_readWall_104 (by decide) ?_
    refine lv_iadd hx hb dX8_readWall_105 ?_
    refine q_putIN C hP (k := 3) tyX4_ok nmX4 (lay_X4 C.hA) rfl (by decide) rfl rfl rfl rfl g13 (fn_X8_96 C.hA) dX8_readWall_106 (fun H locs hP => ?_)
    obtain ⟨u_106, eu_106, hP⟩ := Hp.nm hP
    have h := h u_106 eu_106
    exact q_vret C hr hlk hP h (by decide) (by decide) dX8_readWall_109
  · have h := h.2 c9
    refine lv_aload_n hx hb dX8_readWall_12 rfl (lv_at hl 0 rfl) ?_
    refine lv_iconst (v := (2 : Int32)) hx hb dX8_readWall_13 (by decide) ?_
    refine q_calv (q_runV C hP (c_X8_refuse h) (cd_X8_refuse C.hA) (ini_X8 C.hA) (ml_X8_92 C.hA) (im_X8_refuse C.hA) (sl_X8_refuse C.hA) g1 (by decide) rfl hd_X8_refuse ⟨rfl, rfl⟩ ⟨Nat.le_of_ble_eq_true rfl, Nat.le_of_ble_eq_true rfl⟩ ⟨Nat.le_of_ble_eq_true rfl, Nat.le_of_ble_eq_true rfl⟩ hl.1 rfl (Nat.le_of_ble_eq_true rfl) dX8_readWall_14) hP (fun u_14 H locs h hP => ?_)
    exact q_vret C hr hlk hP h (by decide) (by decide) dX8_readWall_17
-- X8_readBarn
abbrev rm_X8_readBarn : Room := { frames := 6, cells := 0, slots := 0, locals := 127 }
theorem hd_X8_readBarn : yX8_readBarn.cls ≠ "java/lang/invoke/MethodHandle" ∧ yX8_readBarn.cls ≠ "java/lang/invoke/VarHandle" ∧ (parseMethodDescriptor yX8_readBarn.desc).map (fun d => d.parameters.length) = some 0 := by decide +kernel
def V_X8_readBarn_121 (G : Gx) (Q : Mm → Prop) (x0 : Nat) (u : Mm) : Prop :=
  kd G x0 = 8 ∧ V_X8_readSign G x0 u (fun (u_122 : Mm) => (gR u_122 x0 3) ≠ 0 ∧ kd G (gR u_122 x0 3) = 4 ∧ ∀ u_135 : Mm, u_135 = sI u_122 (gR u_122 x0 3) 4 ((gI u_122 (gR u_122 x0 3) 4) + (1 : Int32)) → Q u_135)
def V_X8_readBarn (G : Gx) (p0 : Nat) (u : Mm) (Q : Mm → Prop) : Prop :=
  kd G p0 = 8 ∧ (gR u p0 3) ≠ 0 ∧ kd G (gR u p0 3) = 4 ∧ (((gI u (gR u p0 3) 4) < (6 : Int32) → V_X8_takeToken G p0 u (fun (u_19 : Mm) => (gR u_19 p0 3) ≠ 0 ∧ kd G (gR u_19 p0 3) = 4 ∧ (gR u_19 (gR u_19 p0 3) 1) ≠ 0 ∧ kd G (gR u_19 (gR u_19 p0 3) 1) = 18 ∧ vp_in (gI u_19 (gR u_19 p0 3) 4) (ln G (gR u_19 (gR u_19 p0 3) 1)) ∧ (gR u_19 (gR u_19 (gR u_19 p0 3) 1) (gI u_19 (gR u_19 p0 3) 4).toNatClampNeg) ≠ 0 ∧ ∀ x1_37 : Nat, x1_37 = (gR u_19 (gR u_19 (gR u_19 p0 3) 1) (gI u_19 (gR u_19 p0 3) 4).toNatClampNeg) → V_X8_readNumber G p0 (0 : Int32) (40 : Int32) (0 : Int32) u_19 (fun (v_44 : Int32) (u_44 : Mm) => kd G x1_37 = 0 ∧ ∀ u_47 : Mm, u_47 = sI u_44 x1_37 0 v_44 → V_X8_readNumber G p0 (0 : Int32) (40 : Int32) (0 : Int32) u_47 (fun (v_56 : Int32) (u_56 : Mm) => ∀ u_59 : Mm, u_59 = sI u_56 x1_37 1 v_56 → V_X8_readLoss G p0 u_59 (fun (v_64 : Int32) (u_64 : Mm) => ∀ u_67 : Mm, u_67 = sI u_64 x1_37 2 v_64 → ∀ u_72 : Mm, u_72 = sI u_67 x1_37 3 (0 : Int32) → ∀ u_78 : Mm, u_78 = sI u_72 x1_37 4 (99 : Int32) → V_X8_isWord G p0 (gS G 6) u_78 (fun (v_84 : Int32) (u_84 : Mm) => ((v_84 = 0 → V_X8_readBarn_121 G Q p0 u_84) ∧ (¬ v_84 = 0 → V_X8_takeToken G p0 u_84 (fun (u_91 : Mm) => V_X8_readNumber G p0 (0 : Int32) (99 : Int32) (0 : Int32) u_91 (fun (v_100 : Int32) (u_100 : Mm) => ∀ u_103 : Mm, u_103 = sI u_100 x1_37 3 v_100 → V_X8_readNumber G p0 (0 : Int32) (99 : Int32) (gI u_103 x1_37 3) u_103 (fun (v_115 : Int32) (u_115 : Mm) => ∀ u_118 : Mm, u_118 = sI u_115 x1_37 4 v_115 → V_X8_readBarn_121 G Q p0 u_118))))))))))) ∧ (¬ (gI u (gR u p0 3) 4) < (6 : Int32) → V_X8_refuse G p0 (2 : Int32) u (fun (u_14 : Mm) => Q u_14)))
set_option maxHeartbeats 4000000 in
set_option maxRecDepth 100000 in
theorem b_X8_readBarn_121 {G : Gx} {Q : Mm → Prop} {p : Program} {l : Launch} {e : Env} {s : State} {m : MethodId} {args : Array Value} {below : List Frame} {meth : Method} {c : Code} (C : Cx G p s m c cX8_readBarn RX8 2) (hr : meth.sig.returnType = none) (hlk : meth.locks = false) {x0 : Nat} {u : Mm} {H : Heap} {locs : List Loc} {ls : Array Slot} (h : V_X8_readBarn_121 G Q x0 u) (hl : lv_has ls 2 [(0, .ref x0)]) (hP : Hp G u s H locs) : W p l e rm_X8_readBarn s m args below meth c H locs 0 0 (MQ below (Ev G Q) args s 0 0 (ag G)) (F0 m 121 ls []) := by
  have hx := C.1
  have hb := C.2.1
  unfold V_X8_readBarn_121 at h
  refine lv_aload_n hx hb dX8_readBarn_121 rfl (lv_at hl 0 rfl) ?_
  obtain ⟨g1, h⟩ := h
  refine q_calv (q_runV C hP (c_X8_readSign h) (cd_X8_readSign C.hA) (ini_X8 C.hA) (ml_X8_127 C.hA) (im_X8_readSign C.hA) (sl_X8_readSign C.hA) g1 (by decide) rfl hd_X8_readSign ⟨rfl, rfl⟩ ⟨Nat.le_of_ble_eq_true rfl, Nat.le_of_ble_eq_true rfl⟩ ⟨Nat.le_of_ble_eq_true rfl, Nat.le_of_ble_eq_true rfl⟩ hl.1 rfl (Nat.le_of_ble_eq_true rfl) dX8_readBarn_122) hP (fun u_122 H locs h hP => ?_)
  refine lv_aload_n hx hb dX8_readBarn_125 rfl (lv_at hl 0 rfl) ?_
  obtain ⟨g2, h⟩ := h
  refine q_getR C hP (k := 3) (lay_X8 C.hA) rfl (by decide) g1 g2 (fl_X8_18 C.hA) dX8_readBarn_126 ?_
  refine lv_dup hx hb dX8_readBarn_129 rfl ?_
  obtain ⟨g3, h⟩ := h
  refine q_getIN C hP (k := 4) (lay_X4 C.hA) rfl (by decide) g3 (fn_X8_130 C.hA) dX8_readBarn_130 ?_
  refine lv_iconst (v := (1 : Int32)) hx hb dX8_readBarn_133 (by decide) ?_
  refine lv_iadd hx hb dX8_readBarn_134 ?_
  refine q_putIN C hP (k := 4) tyX4_ok nmX4 (lay_X4 C.hA) rfl (by decide) rfl rfl rfl rfl g3 (fn_X8_130 C.hA) dX8_readBarn_135 (fun H locs hP => ?_)
  obtain ⟨u_135, eu_135, hP⟩ := Hp.nm hP
  have h := h u_135 eu_135
  exact q_vret C hr hlk hP h (by decide) (by decide) dX8_readBarn_138
set_option maxHeartbeats 4000000 in
set_option maxRecDepth 100000 in
theorem c_X8_readBarn {l : Launch} {G : Gx} {p0 : Nat} {u : Mm} {Q : Mm → Prop} (h : V_X8_readBarn G p0 u Q) : Met l yX8_readBarn [.code yX8_readBarn cX8_readBarn 2 none] rm_X8_readBarn (va_Pc [.ref p0] (Wd G u)) (Ev G Q) 0 0 (ag G) := by
  refine q_met (by decide) (Nat.le_of_ble_eq_true rfl) ?_
  intro p e s m below meth c ls C hr hlk hnm hl hP
  have hl : lv_has ls 2 [(0, .ref p0)] := hl
  generalize ([.ref p0] : List Value).toArray = args
  have hx := C.1
  have hb := C.2.1
  unfold V_X8_readBarn at h
  refine lv_aload_n hx hb dX8_readBarn_0 rfl (lv_at hl 0 rfl) ?_
  obtain ⟨g1, h⟩ := h
  obtain ⟨g2, h⟩ := h
  refine q_getR C hP (k := 3) (lay_X8 C.hA) rfl (by decide) g1 g2 (fl_X8_18 C.hA) dX8_readBarn_1 ?_
  obtain ⟨g3, h⟩ := h
  refine q_getIN C hP (k := 4) (lay_X4 C.hA) rfl (by decide) g3 (fn_X8_130 C.hA) dX8_readBarn_4 ?_
  refine lv_bipush (v := (6 : Int32)) hx hb dX8_readBarn_7 (by decide) ?_
  refine lv_icmp_lt (tgt := 18) hx hb dX8_readBarn_9 (by decide) (fun c9 => ?_) (fun c9 => ?_)
  · have h := h.1 c9
    refine lv_aload_n hx hb dX8_readBarn_18 rfl (lv_at hl 0 rfl) ?_
    refine q_calv (q_runV C hP (c_X8_takeToken h) (cd_X8_takeToken C.hA) (ini_X8 C.hA) (ml_X8_54 C.hA) (im_X8_takeToken C.hA) (sl_X8_takeToken C.hA) g1 (by decide) rfl hd_X8_takeToken ⟨rfl, rfl⟩ ⟨Nat.le_of_ble_eq_true rfl, Nat.le_of_ble_eq_true rfl⟩ ⟨Nat.le_of_ble_eq_true rfl, Nat.le_of_ble_eq_true rfl⟩ hl.1 rfl (Nat.le_of_ble_eq_true rfl) dX8_readBarn_19) hP (fun u_19 H locs h hP => ?_)
    refine lv_aload_n hx hb dX8_readBarn_22 rfl (lv_at hl 0 rfl) ?_
    obtain ⟨g4, h⟩ := h
    refine q_getR C hP (k := 3) (lay_X8 C.hA) rfl (by decide) g1 g4 (fl_X8_18 C.hA) dX8_readBarn_23 ?_
    obtain ⟨g5, h⟩ := h
    obtain ⟨g6, h⟩ := h
    refine q_getRN C hP (k := 1) (lay_X4 C.hA) rfl (by decide) g5 g6 (fn_X8_133 C.hA) dX8_readBarn_26 ?_
    refine lv_aload_n hx hb dX8_readBarn_29 rfl (lv_at hl 0 rfl) ?_
    refine q_getR C hP (k := 3) (lay_X8 C.hA) rfl (by decide) g1 g4 (fl_X8_18 C.hA) dX8_readBarn_30 ?_
    refine q_getIN C hP (k := 4) (lay_X4 C.hA) rfl (by decide) g5 (fn_X8_130 C.hA) dX8_readBarn_33 ?_
    obtain ⟨g7, h⟩ := h
    obtain ⟨g8, h⟩ := h
    obtain ⟨g9, h⟩ := h
    refine q_aald C hP g7 (by decide) rfl g8 g9 dX8_readBarn_36 ?_
    refine q_topr (fun x1_37 ex1_37 => ?_)
    have h := h x1_37 ex1_37
    refine lv_astore_n (lv' := [(1, .ref x1_37), (0, .ref p0)]) hx hb dX8_readBarn_37 rfl hl (by decide) rfl (fun ls hl => ?_)
    refine lv_aload_n hx hb dX8_readBarn_38 rfl (lv_at hl 0 rfl) ?_
    refine lv_aload_n hx hb dX8_readBarn_39 rfl (lv_at hl 1 rfl) ?_
    refine lv_iconst (v := (0 : Int32)) hx hb dX8_readBarn_40 (by decide) ?_
    refine lv_bipush (v := (40 : Int32)) hx hb dX8_readBarn_41 (by decide) ?_
    refine lv_iconst (v := (0 : Int32)) hx hb dX8_readBarn_43 (by decide) ?_
    refine q_cali (q_runV C hP (c_X8_readNumber h) (cd_X8_readNumber C.hA) (ini_X8 C.hA) (ml_X8_107 C.hA) (im_X8_readNumber C.hA) (sl_X8_readNumber C.hA) g1 (by decide) rfl hd_X8_readNumber ⟨rfl, rfl⟩ ⟨Nat.le_of_ble_eq_true rfl, Nat.le_of_ble_eq_true rfl⟩ ⟨Nat.le_of_ble_eq_true rfl, Nat.le_of_ble_eq_true rfl⟩ hl.1 rfl (Nat.le_of_ble_eq_true rfl) dX8_readBarn_44) hP (fun v_44 u_44 H locs h hP => ?_)
    obtain ⟨g10, h⟩ := h
    refine q_putIN C hP (k := 0) tyX0_ok nmX0 (lay_X0 C.hA) rfl (by decide) rfl rfl rfl rfl g10 (fn_X8_137 C.hA) dX8_readBarn_47 (fun H locs hP => ?_)
    obtain ⟨u_47, eu_47, hP⟩ := Hp.nm hP
    have h := h u_47 eu_47
    refine lv_aload_n hx hb dX8_readBarn_50 rfl (lv_at hl 0 rfl) ?_
    refine lv_aload_n hx hb dX8_readBarn_51 rfl (lv_at hl 1 rfl) ?_
    refine lv_iconst (v := (0 : Int32)) hx hb dX8_readBarn_52 (by decide) ?_
    refine lv_bipush (v := (40 : Int32)) hx hb dX8_readBarn_53 (by decide) ?_
    refine lv_iconst (v := (0 : Int32)) hx hb dX8_readBarn_55 (by decide) ?_
    refine q_cali (q_runV C hP (c_X8_readNumber h) (cd_X8_readNumber C.hA) (ini_X8 C.hA) (ml_X8_107 C.hA) (im_X8_readNumber C.hA) (sl_X8_readNumber C.hA) g1 (by decide) rfl hd_X8_readNumber ⟨rfl, rfl⟩ ⟨Nat.le_of_ble_eq_true rfl, Nat.le_of_ble_eq_true rfl⟩ ⟨Nat.le_of_ble_eq_true rfl, Nat.le_of_ble_eq_true rfl⟩ hl.1 rfl (Nat.le_of_ble_eq_true rfl) dX8_readBarn_56) hP (fun v_56 u_56 H locs h hP => ?_)
    refine q_putIN C hP (k := 1) tyX0_ok nmX0 (lay_X0 C.hA) rfl (by decide) rfl rfl rfl rfl g10 (fn_X8_142 C.hA) dX8_readBarn_59 (fun H locs hP => ?_)
    obtain ⟨u_59, eu_59, hP⟩ := Hp.nm hP
    have h := h u_59 eu_59
    refine lv_aload_n hx hb dX8_readBarn_62 rfl (lv_at hl 0 rfl) ?_
    refine lv_aload_n hx hb dX8_readBarn_63 rfl (lv_at hl 1 rfl) ?_
    refine q_cali (q_runV C hP (c_X8_readLoss h) (cd_X8_readLoss C.hA) (ini_X8 C.hA) (ml_X8_120 C.hA) (im_X8_readLoss C.hA) (sl_X8_readLoss C.hA) g1 (by decide) rfl hd_X8_readLoss ⟨rfl, rfl⟩ ⟨Nat.le_of_ble_eq_true rfl, Nat.le_of_ble_eq_true rfl⟩ ⟨Nat.le_of_ble_eq_true rfl, Nat.le_of_ble_eq_true rfl⟩ hl.1 rfl (Nat.le_of_ble_eq_true rfl) dX8_readBarn_64) hP (fun v_64 u_64 H locs h hP => ?_)
    refine q_putIN C hP (k := 2) tyX0_ok nmX0 (lay_X0 C.hA) rfl (by decide) rfl rfl rfl rfl g10 (fn_X8_145 C.hA) dX8_readBarn_67 (fun H locs hP => ?_)
    obtain ⟨u_67, eu_67, hP⟩ := Hp.nm hP
    have h := h u_67 eu_67
    refine lv_aload_n hx hb dX8_readBarn_70 rfl (lv_at hl 0 rfl) ?_
    refine lv_iconst (v := (0 : Int32)) hx hb dX8_readBarn_71 (by decide) ?_
    refine q_putIN C hP (k := 3) tyX0_ok nmX0 (lay_X0 C.hA) rfl (by decide) rfl rfl rfl rfl g10 (fn_X8_146 C.hA) dX8_readBarn_72 (fun H locs hP => ?_)
    obtain ⟨u_72, eu_72, hP⟩ := Hp.nm hP
    have h := h u_72 eu_72
    refine lv_aload_n hx hb dX8_readBarn_75 rfl (lv_at hl 0 rfl) ?_
    refine lv_bipush (v := (99 : Int32)) hx hb dX8_readBarn_76 (by decide) ?_
    refine q_putIN C hP (k := 4) tyX0_ok nmX0 (lay_X0 C.hA) rfl (by decide) rfl rfl rfl rfl g10 (fn_X8_147 C.hA) dX8_readBarn_78 (fun H locs hP => ?_)
    obtain ⟨u_78, eu_78, hP⟩ := Hp.nm hP
    have h := h u_78 eu_78
    refine lv_aload_n hx hb dX8_readBarn_81 rfl (lv_at hl 1 rfl) ?_
    refine q_lds C 6 (by decide) rfl rfl dX8_readBarn_82 ?_
    refine q_cali (q_runV C hP (c_X8_isWord h) (cd_X8_isWord C.hA) (ini_X8 C.hA) (ml_X8_62 C.hA) (im_X8_isWord C.hA) (sl_X8_isWord C.hA) g1 (by decide) rfl hd_X8_isWord ⟨rfl, rfl⟩ ⟨Nat.le_of_ble_eq_true rfl, Nat.le_of_ble_eq_true rfl⟩ ⟨Nat.le_of_ble_eq_true rfl, Nat.le_of_ble_eq_true rfl⟩ hl.1 rfl (Nat.le_of_ble_eq_true rfl) dX8_readBarn_84) hP (fun v_84 u_84 H locs h hP => ?_)
    refine lv_if_eq (tgt := 121) hx hb dX8_readBarn_87 (by decide) (fun c87 => ?_) (fun c87 => ?_)
    · have h := h.1 c87
      exact b_X8_readBarn_121 C hr hlk h (lv_sub hl [1] rfl) hP
    · have h := h.2 c87
      refine lv_aload_n hx hb dX8_readBarn_90 rfl (lv_at hl 1 rfl) ?_
      refine q_calv (q_runV C hP (c_X8_takeToken h) (cd_X8_takeToken C.hA) (ini_X8 C.hA) (ml_X8_54 C.hA) (im_X8_takeToken C.hA) (sl_X8_takeToken C.hA) g1 (by decide) rfl hd_X8_takeToken ⟨rfl, rfl⟩ ⟨Nat.le_of_ble_eq_true rfl, Nat.le_of_ble_eq_true rfl⟩ ⟨Nat.le_of_ble_eq_true rfl, Nat.le_of_ble_eq_true rfl⟩ hl.1 rfl (Nat.le_of_ble_eq_true rfl) dX8_readBarn_91) hP (fun u_91 H locs h hP => ?_)
      refine lv_aload_n hx hb dX8_readBarn_94 rfl (lv_at hl 0 rfl) ?_
      refine lv_aload_n hx hb dX8_readBarn_95 rfl (lv_at hl 1 rfl) ?_
      refine lv_iconst (v := (0 : Int32)) hx hb dX8_readBarn_96 (by decide) ?_
      refine lv_bipush (v := (99 : Int32)) hx hb dX8_readBarn_97 (by decide) ?_
      refine lv_iconst (v := (0 : Int32)) hx hb dX8_readBarn_99 (by decide) ?_
      refine q_cali (q_runV C hP (c_X8_readNumber h) (cd_X8_readNumber C.hA) (ini_X8 C.hA) (ml_X8_107 C.hA) (im_X8_readNumber C.hA) (sl_X8_readNumber C.hA) g1 (by decide) rfl hd_X8_readNumber ⟨rfl, rfl⟩ ⟨Nat.le_of_ble_eq_true rfl, Nat.le_of_ble_eq_true rfl⟩ ⟨Nat.le_of_ble_eq_true rfl, Nat.le_of_ble_eq_true rfl⟩ hl.1 rfl (Nat.le_of_ble_eq_true rfl) dX8_readBarn_100) hP (fun v_100 u_100 H locs h hP => ?_)
      refine q_putIN C hP (k := 3) tyX0_ok nmX0 (lay_X0 C.hA) rfl (by decide) rfl rfl rfl rfl g10 (fn_X8_146 C.hA) dX8_readBarn_103 (fun H locs hP => ?_)
      obtain ⟨u_103, eu_103, hP⟩ := Hp.nm hP
      have h := h u_103 eu_103
      refine lv_aload_n hx hb dX8_readBarn_106 rfl (lv_at hl 0 rfl) ?_
      refine lv_aload_n hx hb dX8_readBarn_107 rfl (lv_at hl 1 rfl) ?_
      refine lv_iconst (v := (0 : Int32)) hx hb dX8_readBarn_108 (by decide) ?_
      refine lv_bipush (v := (99 : Int32)) hx hb dX8_readBarn_109 (by decide) ?_
      refine lv_aload_n hx hb dX8_readBarn_111 rfl (lv_at hl 0 rfl) ?_
      refine q_getIN C hP (k := 3) (lay_X0 C.hA) rfl (by decide) g10 (fn_X8_146 C.hA) dX8_readBarn_112 ?_
      refine q_cali (q_runV C hP (c_X8_readNumber h) (cd_X8_readNumber C.hA) (ini_X8 C.hA) (ml_X8_107 C.hA) (im_X8_readNumber C.hA) (sl_X8_readNumber C.hA) g1 (by decide) rfl hd_X8_readNumber ⟨rfl, rfl⟩ ⟨Nat.le_of_ble_eq_true rfl, Nat.le_of_ble_eq_true rfl⟩ ⟨Nat.le_of_ble_eq_true rfl, Nat.le_of_ble_eq_true rfl⟩ hl.1 rfl (Nat.le_of_ble_eq_true rfl) dX8_readBarn_115) hP (fun v_115 u_115 H locs h hP => ?_)
      refine q_putIN C hP (k := 4) tyX0_ok nmX0 (lay_X0 C.hA) rfl (by decide) rfl rfl rfl rfl g10 (fn_X8_147 C.hA) dX8_readBarn_118 (fun H locs hP => ?_)
      obtain ⟨u_118, eu_118, hP⟩ := Hp.nm hP
      have h := h u_118 eu_118
      exact b_X8_readBarn_121 C hr hlk h (lv_sub hl [1] rfl) hP
  · have h := h.2 c9
    refine lv_aload_n hx hb dX8_readBarn_12 rfl (lv_at hl 0 rfl) ?_
    refine lv_iconst (v := (2 : Int32)) hx hb dX8_readBarn_13 (by decide) ?_
    refine q_calv (q_runV C hP (c_X8_refuse h) (cd_X8_refuse C.hA) (ini_X8 C.hA) (ml_X8_92 C.hA) (im_X8_refuse C.hA) (sl_X8_refuse C.hA) g1 (by decide) rfl hd_X8_refuse ⟨rfl, rfl⟩ ⟨Nat.le_of_ble_eq_true rfl, Nat.le_of_ble_eq_true rfl⟩ ⟨Nat.le_of_ble_eq_true rfl, Nat.le_of_ble_eq_true rfl⟩ hl.1 rfl (Nat.le_of_ble_eq_true rfl) dX8_readBarn_14) hP (fun u_14 H locs h hP => ?_)
    exact q_vret C hr hlk hP h (by decide) (by decide) dX8_readBarn_17
-- X8_readWood
abbrev rm_X8_readWood : Room := { frames := 3, cells := 0, slots := 0, locals := 65 }
theorem hd_X8_readWood : yX8_readWood.cls ≠ "java/lang/invoke/MethodHandle" ∧ yX8_readWood.cls ≠ "java/lang/invoke/VarHandle" ∧ (parseMethodDescriptor yX8_readWood.desc).map (fun d => d.parameters.length) = some 0 := by decide +kernel
def V_X8_readWood_93_B (G : Gx) (Q : Mm → Prop) (k_93 : Nat → Nat → Int32 → Mm → Prop) (x0 : Nat) (x1 : Nat) (x2 : Int32) (u : Mm) : Prop :=
  (((3 : Int32) ≤ x2 → kd G x0 = 8 ∧ V_X8_readSign G x0 u (fun (u_119 : Mm) => (gR u_119 x0 3) ≠ 0 ∧ kd G (gR u_119 x0 3) = 4 ∧ ∀ u_132 : Mm, u_132 = sI u_119 (gR u_119 x0 3) 5 ((gI u_119 (gR u_119 x0 3) 5) + (1 : Int32)) → Q u_132)) ∧ (¬ (3 : Int32) ≤ x2 → kd G x1 = 10 ∧ (gR u x1 4) ≠ 0 ∧ kd G x0 = 8 ∧ V_X8_readNumber G x0 (0 : Int32) (100 : Int32) (0 : Int32) u (fun (v_108 : Int32) (u_108 : Mm) => kd G (gR u x1 4) = 13 ∧ vp_in x2 (ln G (gR u x1 4)) ∧ ∀ u_111 : Mm, u_111 = sI u_108 (gR u x1 4) x2.toNatClampNeg v_108 → ∀ x2_112 : Int32, x2_112 = x2 + (1 : Int32) → k_93 x0 x1 x2_112 u_111)))
def V_X8_readWood_93 (G : Gx) (Q : Mm → Prop) : Nat → (Nat → Nat → Int32 → Mm → Prop)
  | 0 => fun _ _ _ _ => False
  | n + 1 => fun x0 x1 x2 u => V_X8_readWood_93_B G Q (V_X8_readWood_93 G Q n) x0 x1 x2 u
def V_X8_readWood (G : Gx) (p0 : Nat) (u : Mm) (Q : Mm → Prop) : Prop :=
  kd G p0 = 8 ∧ (gR u p0 3) ≠ 0 ∧ kd G (gR u p0 3) = 4 ∧ (((gI u (gR u p0 3) 5) < (4 : Int32) → V_X8_takeToken G p0 u (fun (u_18 : Mm) => (gR u_18 p0 3) ≠ 0 ∧ kd G (gR u_18 p0 3) = 4 ∧ (gR u_18 (gR u_18 p0 3) 2) ≠ 0 ∧ kd G (gR u_18 (gR u_18 p0 3) 2) = 19 ∧ vp_in (gI u_18 (gR u_18 p0 3) 5) (ln G (gR u_18 (gR u_18 p0 3) 2)) ∧ (gR u_18 (gR u_18 (gR u_18 p0 3) 2) (gI u_18 (gR u_18 p0 3) 5).toNatClampNeg) ≠ 0 ∧ ∀ x1_36 : Nat, x1_36 = (gR u_18 (gR u_18 (gR u_18 p0 3) 2) (gI u_18 (gR u_18 p0 3) 5).toNatClampNeg) → V_X8_readNumber G p0 (0 : Int32) (40 : Int32) (0 : Int32) u_18 (fun (v_43 : Int32) (u_43 : Mm) => kd G x1_36 = 10 ∧ ∀ u_46 : Mm, u_46 = sI u_43 x1_36 0 v_43 → V_X8_readNumber G p0 (0 : Int32) (40 : Int32) (0 : Int32) u_46 (fun (v_55 : Int32) (u_55 : Mm) => ∀ u_58 : Mm, u_58 = sI u_55 x1_36 1 v_55 → V_X8_readNumber G p0 (0 : Int32) (40 : Int32) (gI u_58 x1_36 0) u_58 (fun (v_70 : Int32) (u_70 : Mm) => ∀ u_73 : Mm, u_73 = sI u_70 x1_36 2 v_70 → V_X8_readNumber G p0 (0 : Int32) (40 : Int32) (gI u_73 x1_36 1) u_73 (fun (v_85 : Int32) (u_85 : Mm) => ∀ u_88 : Mm, u_88 = sI u_85 x1_36 3 v_85 → ∃ n : Nat, V_X8_readWood_93 G Q n p0 x1_36 (0 : Int32) u_88)))))) ∧ (¬ (gI u (gR u p0 3) 5) < (4 : Int32) → V_X8_refuse G p0 (2 : Int32) u (fun (u_13 : Mm) => Q u_13)))
set_option maxHeartbeats 4000000 in
set_option maxRecDepth 100000 in
theorem b_X8_readWood_93 {G : Gx} {Q : Mm → Prop} {p : Program} {l : Launch} {e : Env} {s : State} {m : MethodId} {args : Array Value} {below : List Frame} {meth : Method} {c : Code} (C : Cx G p s m c cX8_readWood RX8 3) (hr : meth.sig.returnType = none) (hlk : meth.locks = false) {k_93 : Nat → Nat → Int32 → Mm → Prop} (hk_93 : ∀ (x0 : Nat) (x1 : Nat) (x2 : Int32) (u : Mm) (H : Heap) (locs : List Loc) (ls : Array Slot), k_93 x0 x1 x2 u → lv_has ls 3 [(0, .ref x0), (1, .ref x1), (2, .int x2)] → Hp G u s H locs → W p l e rm_X8_readWood s m args below meth c H locs 0 0 (MQ below (Ev G Q) args s 0 0 (ag G)) (F0 m 93 ls [])) {x0 : Nat} {x1 : Nat} {x2 : Int32} {u : Mm} {H : Heap} {locs : List Loc} {ls : Array Slot} (h : V_X8_readWood_93_B G Q k_93 x0 x1 x2 u) (hl : lv_has ls 3 [(0, .ref x0), (1, .ref x1), (2, .int x2)]) (hP : Hp G u s H locs) : W p l e rm_X8_readWood s m args below meth c H locs 0 0 (MQ below (Ev G Q) args s 0 0 (ag G)) (F0 m 93 ls []) := by
  have hx := C.1
  have hb := C.2.1
  unfold V_X8_readWood_93_B at h
  refine lv_iload_n hx hb dX8_readWood_93 rfl (lv_at hl 2 rfl) ?_
  refine lv_iconst (v := (3 : Int32)) hx hb dX8_readWood_94 (by decide) ?_
  refine lv_icmp_ge (tgt := 118) hx hb dX8_readWood_95 (by decide) (fun c95 => ?_) (fun c95 => ?_)
  · have h := h.1 c95
    refine lv_aload_n hx hb dX8_readWood_118 rfl (lv_at hl 0 rfl) ?_
    obtain ⟨g1, h⟩ := h
    refine q_calv (q_runV C hP (c_X8_readSign h) (cd_X8_readSign C.hA) (ini_X8 C.hA) (ml_X8_127 C.hA) (im_X8_readSign C.hA) (sl_X8_readSign C.hA) g1 (by decide) rfl hd_X8_readSign ⟨rfl, rfl⟩ ⟨Nat.le_of_ble_eq_true rfl, Nat.le_of_ble_eq_true rfl⟩ ⟨Nat.le_of_ble_eq_true rfl, Nat.le_of_ble_eq_true rfl⟩ hl.1 rfl (Nat.le_of_ble_eq_true rfl) dX8_readWood_119) hP (fun u_119 H locs h hP => ?_)
    refine lv_aload_n hx hb dX8_readWood_122 rfl (lv_at hl 0 rfl) ?_
    obtain ⟨g2, h⟩ := h
    refine q_getR C hP (k := 3) (lay_X8 C.hA) rfl (by decide) g1 g2 (fl_X8_18 C.hA) dX8_readWood_123 ?_
    refine lv_dup hx hb dX8_readWood_126 rfl ?_
    obtain ⟨g3, h⟩ := h
    refine q_getIN C hP (k := 5) (lay_X4 C.hA) rfl (by decide) g3 (fn_X8_150 C.hA) dX8_readWood_127 ?_
    refine lv_iconst (v := (1 : Int32)) hx hb dX8_readWood_130 (by decide) ?_
    refine lv_iadd hx hb dX8_readWood_131 ?_
    refine q_putIN C hP (k := 5) tyX4_ok nmX4 (lay_X4 C.hA) rfl (by decide) rfl rfl rfl rfl g3 (fn_X8_150 C.hA) dX8_readWood_132 (fun H locs hP => ?_)
    obtain ⟨u_132, eu_132, hP⟩ := Hp.nm hP
    have h := h u_132 eu_132
    exact q_vret C hr hlk hP h (by decide) (by decide) dX8_readWood_135
  · have h := h.2 c95
    refine lv_aload_n hx hb dX8_readWood_98 rfl (lv_at hl 1 rfl) ?_
    obtain ⟨g4, h⟩ := h
    obtain ⟨g5, h⟩ := h
    refine q_getRN C hP (k := 4) (lay_X10 C.hA) rfl (by decide) g4 g5 (fn_X8_171 C.hA) dX8_readWood_99 ?_
    refine lv_iload_n hx hb dX8_readWood_102 rfl (lv_at hl 2 rfl) ?_
    refine lv_aload_n hx hb dX8_readWood_103 rfl (lv_at hl 0 rfl) ?_
    refine lv_iconst (v := (0 : Int32)) hx hb dX8_readWood_104 (by decide) ?_
    refine lv_bipush (v := (100 : Int32)) hx hb dX8_readWood_105 (by decide) ?_
    refine lv_iconst (v := (0 : Int32)) hx hb dX8_readWood_107 (by decide) ?_
    obtain ⟨g6, h⟩ := h
    refine q_cali (q_runV C hP (c_X8_readNumber h) (cd_X8_readNumber C.hA) (ini_X8 C.hA) (ml_X8_107 C.hA) (im_X8_readNumber C.hA) (sl_X8_readNumber C.hA) g6 (by decide) rfl hd_X8_readNumber ⟨rfl, rfl⟩ ⟨Nat.le_of_ble_eq_true rfl, Nat.le_of_ble_eq_true rfl⟩ ⟨Nat.le_of_ble_eq_true rfl, Nat.le_of_ble_eq_true rfl⟩ hl.1 rfl (Nat.le_of_ble_eq_true rfl) dX8_readWood_108) hP (fun v_108 u_108 H locs h hP => ?_)
    obtain ⟨g7, h⟩ := h
    obtain ⟨g8, h⟩ := h
    refine q_iast C hP g7 g8 dX8_readWood_111 (fun H locs hP => ?_)
    obtain ⟨u_111, eu_111, hP⟩ := Hp.nm hP
    have h := h u_111 eu_111
    obtain ⟨x2_112, ex2_112⟩ : ∃ y : Int32, y = x2 + (1 : Int32) := ⟨_, rfl⟩
    have h := h x2_112 ex2_112
    refine lv_iinc (v := x2_112) (lv' := [(2, .int x2_112), (0, .ref x0), (1, .ref x1)]) hx hb dX8_readWood_112 hl (k := 2) rfl (by rw [ex2_112]; rfl) (by decide) rfl (fun ls hl => ?_)
    refine lv_goto (tgt := 93) hx hb dX8_readWood_115 (by decide) ?_
    exact hk_93 x0 x1 x2_112 u_111 _ _ _ h (lv_sub hl [1, 2, 0] rfl) hP
theorem l_X8_readWood_93 {G : Gx} {Q : Mm → Prop} {p : Program} {l : Launch} {e : Env} {s : State} {m : MethodId} {args : Array Value} {below : List Frame} {meth : Method} {c : Code} (C : Cx G p s m c cX8_readWood RX8 3) (hr : meth.sig.returnType = none) (hlk : meth.locks = false) : ∀ (n : Nat) (x0 : Nat) (x1 : Nat) (x2 : Int32) (u : Mm) (H : Heap) (locs : List Loc) (ls : Array Slot), V_X8_readWood_93 G Q n x0 x1 x2 u → lv_has ls 3 [(0, .ref x0), (1, .ref x1), (2, .int x2)] → Hp G u s H locs → W p l e rm_X8_readWood s m args below meth c H locs 0 0 (MQ below (Ev G Q) args s 0 0 (ag G)) (F0 m 93 ls []) := by
  intro n
  induction n with
  | zero => intro x0 x1 x2 u H locs ls h; exact h.elim
  | succ n ih => intro x0 x1 x2 u H locs ls h hl hP; exact b_X8_readWood_93 C hr hlk ih h hl hP
set_option maxHeartbeats 4000000 in
set_option maxRecDepth 100000 in
theorem c_X8_readWood {l : Launch} {G : Gx} {p0 : Nat} {u : Mm} {Q : Mm → Prop} (h : V_X8_readWood G p0 u Q) : Met l yX8_readWood [.code yX8_readWood cX8_readWood 3 none] rm_X8_readWood (va_Pc [.ref p0] (Wd G u)) (Ev G Q) 0 0 (ag G) := by
  refine q_met (by decide) (Nat.le_of_ble_eq_true rfl) ?_
  intro p e s m below meth c ls C hr hlk hnm hl hP
  have hl : lv_has ls 3 [(0, .ref p0)] := hl
  generalize ([.ref p0] : List Value).toArray = args
  have hx := C.1
  have hb := C.2.1
  unfold V_X8_readWood at h
  refine lv_aload_n hx hb dX8_readWood_0 rfl (lv_at hl 0 rfl) ?_
  obtain ⟨g1, h⟩ := h
  obtain ⟨g2, h⟩ := h
  refine q_getR C hP (k := 3) (lay_X8 C.hA) rfl (by decide) g1 g2 (fl_X8_18 C.hA) dX8_readWood_1 ?_
  obtain ⟨g3, h⟩ := h
  refine q_getIN C hP (k := 5) (lay_X4 C.hA) rfl (by decide) g3 (fn_X8_150 C.hA) dX8_readWood_4 ?_
  refine lv_iconst (v := (4 : Int32)) hx hb dX8_readWood_7 (by decide) ?_
  refine lv_icmp_lt (tgt := 17) hx hb dX8_readWood_8 (by decide) (fun c8 => ?_) (fun c8 => ?_)
  · have h := h.1 c8
    refine lv_aload_n hx hb dX8_readWood_17 rfl (lv_at hl 0 rfl) ?_
    refine q_calv (q_runV C hP (c_X8_takeToken h) (cd_X8_takeToken C.hA) (ini_X8 C.hA) (ml_X8_54 C.hA) (im_X8_takeToken C.hA) (sl_X8_takeToken C.hA) g1 (by decide) rfl hd_X8_takeToken ⟨rfl, rfl⟩ ⟨Nat.le_of_ble_eq_true rfl, Nat.le_of_ble_eq_true rfl⟩ ⟨Nat.le_of_ble_eq_true rfl, Nat.le_of_ble_eq_true rfl⟩ hl.1 rfl (Nat.le_of_ble_eq_true rfl) dX8_readWood_18) hP (fun u_18 H locs h hP => ?_)
    refine lv_aload_n hx hb dX8_readWood_21 rfl (lv_at hl 0 rfl) ?_
    obtain ⟨g4, h⟩ := h
    refine q_getR C hP (k := 3) (lay_X8 C.hA) rfl (by decide) g1 g4 (fl_X8_18 C.hA) dX8_readWood_22 ?_
    obtain ⟨g5, h⟩ := h
    obtain ⟨g6, h⟩ := h
    refine q_getRN C hP (k := 2) (lay_X4 C.hA) rfl (by decide) g5 g6 (fn_X8_153 C.hA) dX8_readWood_25 ?_
    refine lv_aload_n hx hb dX8_readWood_28 rfl (lv_at hl 0 rfl) ?_
    refine q_getR C hP (k := 3) (lay_X8 C.hA) rfl (by decide) g1 g4 (fl_X8_18 C.hA) dX8_readWood_29 ?_
    refine q_getIN C hP (k := 5) (lay_X4 C.hA) rfl (by decide) g5 (fn_X8_150 C.hA) dX8_readWood_32 ?_
    obtain ⟨g7, h⟩ := h
    obtain ⟨g8, h⟩ := h
    obtain ⟨g9, h⟩ := h
    refine q_aald C hP g7 (by decide) rfl g8 g9 dX8_readWood_35 ?_
    refine q_topr (fun x1_36 ex1_36 => ?_)
    have h := h x1_36 ex1_36
    refine lv_astore_n (lv' := [(1, .ref x1_36), (0, .ref p0)]) hx hb dX8_readWood_36 rfl hl (by decide) rfl (fun ls hl => ?_)
    refine lv_aload_n hx hb dX8_readWood_37 rfl (lv_at hl 0 rfl) ?_
    refine lv_aload_n hx hb dX8_readWood_38 rfl (lv_at hl 1 rfl) ?_
    refine lv_iconst (v := (0 : Int32)) hx hb dX8_readWood_39 (by decide) ?_
    refine lv_bipush (v := (40 : Int32)) hx hb dX8_readWood_40 (by decide) ?_
    refine lv_iconst (v := (0 : Int32)) hx hb dX8_readWood_42 (by decide) ?_
    refine q_cali (q_runV C hP (c_X8_readNumber h) (cd_X8_readNumber C.hA) (ini_X8 C.hA) (ml_X8_107 C.hA) (im_X8_readNumber C.hA) (sl_X8_readNumber C.hA) g1 (by decide) rfl hd_X8_readNumber ⟨rfl, rfl⟩ ⟨Nat.le_of_ble_eq_true rfl, Nat.le_of_ble_eq_true rfl⟩ ⟨Nat.le_of_ble_eq_true rfl, Nat.le_of_ble_eq_true rfl⟩ hl.1 rfl (Nat.le_of_ble_eq_true rfl) dX8_readWood_43) hP (fun v_43 u_43 H locs h hP => ?_)
    obtain ⟨g10, h⟩ := h
    refine q_putIN C hP (k := 0) tyX10_ok nmX10 (lay_X10 C.hA) rfl (by decide) rfl rfl rfl rfl g10 (fn_X8_157 C.hA) dX8_readWood_46 (fun H locs hP => ?_)
    obtain ⟨u_46, eu_46, hP⟩ := Hp.nm hP
    have h := h u_46 eu_46
    refine lv_aload_n hx hb dX8_readWood_49 rfl (lv_at hl 0 rfl) ?_
    refine lv_aload_n hx hb dX8_readWood_50 rfl (lv_at hl 1 rfl) ?_
    refine lv_iconst (v := (0 : Int32)) hx hb dX8_readWood_51 (by decide) ?_
    refine lv_bipush (v := (40 : Int32)) hx hb dX8_readWood_52 (by decide) ?_
    refine lv_iconst (v := (0 : Int32)) hx hb dX8_readWood_54 (by decide) ?_
    refine q_cali (q_runV C hP (c_X8_readNumber h) (cd_X8_readNumber C.hA) (ini_X8 C.hA) (ml_X8_107 C.hA) (im_X8_readNumber C.hA) (sl_X8_readNumber C.hA) g1 (by decide) rfl hd_X8_readNumber ⟨rfl, rfl⟩ ⟨Nat.le_of_ble_eq_true rfl, Nat.le_of_ble_eq_true rfl⟩ ⟨Nat.le_of_ble_eq_true rfl, Nat.le_of_ble_eq_true rfl⟩ hl.1 rfl (Nat.le_of_ble_eq_true rfl) dX8_readWood_55) hP (fun v_55 u_55 H locs h hP => ?_)
    refine q_putIN C hP (k := 1) tyX10_ok nmX10 (lay_X10 C.hA) rfl (by decide) rfl rfl rfl rfl g10 (fn_X8_162 C.hA) dX8_readWood_58 (fun H locs hP => ?_)
    obtain ⟨u_58, eu_58, hP⟩ := Hp.nm hP
    have h := h u_58 eu_58
    refine lv_aload_n hx hb dX8_readWood_61 rfl (lv_at hl 0 rfl) ?_
    refine lv_aload_n hx hb dX8_readWood_62 rfl (lv_at hl 1 rfl) ?_
    refine lv_iconst (v := (0 : Int32)) hx hb dX8_readWood_63 (by decide) ?_
    refine lv_bipush (v := (40 : Int32)) hx hb dX8_readWood_64 (by decide) ?_
    refine lv_aload_n hx hb dX8_readWood_66 rfl (lv_at hl 0 rfl) ?_
    refine q_getIN C hP (k := 0) (lay_X10 C.hA) rfl (by decide) g10 (fn_X8_157 C.hA) dX8_readWood_67 ?_
    refine q_cali (q_runV C hP (c_X8_readNumber h) (cd_X8_readNumber C.hA) (ini_X8 C.hA) (ml_X8_107 C.hA) (im_X8_readNumber C.hA) (sl_X8_readNumber C.hA) g1 (by decide) rfl hd_X8_readNumber ⟨rfl, rfl⟩ ⟨Nat.le_of_ble_eq_true rfl, Nat.le_of_ble_eq_true rfl⟩ ⟨Nat.le_of_ble_eq_true rfl, Nat.le_of_ble_eq_true rfl⟩ hl.1 rfl (Nat.le_of_ble_eq_true rfl) dX8_readWood_70) hP (fun v_70 u_70 H locs h hP => ?_)
    refine q_putIN C hP (k := 2) tyX10_ok nmX10 (lay_X10 C.hA) rfl (by decide) rfl rfl rfl rfl g10 (fn_X8_165 C.hA) dX8_readWood_73 (fun H locs hP => ?_)
    obtain ⟨u_73, eu_73, hP⟩ := Hp.nm hP
    have h := h u_73 eu_73
    refine lv_aload_n hx hb dX8_readWood_76 rfl (lv_at hl 0 rfl) ?_
    refine lv_aload_n hx hb dX8_readWood_77 rfl (lv_at hl 1 rfl) ?_
    refine lv_iconst (v := (0 : Int32)) hx hb dX8_readWood_78 (by decide) ?_
    refine lv_bipush (v := (40 : Int32)) hx hb dX8_readWood_79 (by decide) ?_
    refine lv_aload_n hx hb dX8_readWood_81 rfl (lv_at hl 0 rfl) ?_
    refine q_getIN C hP (k := 1) (lay_X10 C.hA) rfl (by decide) g10 (fn_X8_162 C.hA) dX8_readWood_82 ?_
    refine q_cali (q_runV C hP (c_X8_readNumber h) (cd_X8_readNumber C.hA) (ini_X8 C.hA) (ml_X8_107 C.hA) (im_X8_readNumber C.hA) (sl_X8_readNumber C.hA) g1 (by decide) rfl hd_X8_readNumber ⟨rfl, rfl⟩ ⟨Nat.le_of_ble_eq_true rfl, Nat.le_of_ble_eq_true rfl⟩ ⟨Nat.le_of_ble_eq_true rfl, Nat.le_of_ble_eq_true rfl⟩ hl.1 rfl (Nat.le_of_ble_eq_true rfl) dX8_readWood_85) hP (fun v_85 u_85 H locs h hP => ?_)
    refine q_putIN C hP (k := 3) tyX10_ok nmX10 (lay_X10 C.hA) rfl (by decide) rfl rfl rfl rfl g10 (fn_X8_168 C.hA) dX8_readWood_88 (fun H locs hP => ?_)
    obtain ⟨u_88, eu_88, hP⟩ := Hp.nm hP
    have h := h u_88 eu_88
    refine lv_iconst (v := (0 : Int32)) hx hb dX8_readWood_91 (by decide) ?_
    refine lv_istore_n (lv' := [(2, .int (0 : Int32)), (1, .ref x1_36), (0, .ref p0)]) hx hb dX8_readWood_92 rfl hl (by decide) rfl (fun ls hl => ?_)
    obtain ⟨n, h⟩ := h
    exact l_X8_readWood_93 C hr hlk n p0 x1_36 (0 : Int32) u_88 _ _ _ h (lv_sub hl [2, 1, 0] rfl) hP
  · have h := h.2 c8
    refine lv_aload_n hx hb dX8_readWood_11 rfl (lv_at hl 0 rfl) ?_
    refine lv_iconst (v := (2 : Int32)) hx hb dX8_readWood_12 (by decide) ?_
    refine q_calv (q_runV C hP (c_X8_refuse h) (cd_X8_refuse C.hA) (ini_X8 C.hA) (ml_X8_92 C.hA) (im_X8_refuse C.hA) (sl_X8_refuse C.hA) g1 (by decide) rfl hd_X8_refuse ⟨rfl, rfl⟩ ⟨Nat.le_of_ble_eq_true rfl, Nat.le_of_ble_eq_true rfl⟩ ⟨Nat.le_of_ble_eq_true rfl, Nat.le_of_ble_eq_true rfl⟩ hl.1 rfl (Nat.le_of_ble_eq_true rfl) dX8_readWood_13) hP (fun u_13 H locs h hP => ?_)
    exact q_vret C hr hlk hP h (by decide) (by decide) dX8_readWood_16
-- X8_readHears
abbrev rm_X8_readHears : Room := { frames := 3, cells := 0, slots := 0, locals := 65 }
theorem hd_X8_readHears : yX8_readHears.cls ≠ "java/lang/invoke/MethodHandle" ∧ yX8_readHears.cls ≠ "java/lang/invoke/VarHandle" ∧ (parseMethodDescriptor yX8_readHears.desc).map (fun d => d.parameters.length) = some 0 := by decide +kernel
def V_X8_readHears (G : Gx) (p0 : Nat) (u : Mm) (Q : Mm → Prop) : Prop :=
  kd G p0 = 8 ∧ (((gI u p0 4) = 0 → ∀ u_15 : Mm, u_15 = sI u p0 4 (1 : Int32) → V_X8_takeToken G p0 u_15 (fun (u_19 : Mm) => (gR u_19 p0 3) ≠ 0 ∧ V_X8_readNumber G p0 (0 : Int32) (1000 : Int32) (0 : Int32) u_19 (fun (v_32 : Int32) (u_32 : Mm) => kd G (gR u_19 p0 3) = 4 ∧ ∀ u_35 : Mm, u_35 = sI u_32 (gR u_19 p0 3) 6 v_32 → V_X8_readSign G p0 u_35 (fun (u_39 : Mm) => Q u_39)))) ∧ (¬ (gI u p0 4) = 0 → V_X8_refuse G p0 (4 : Int32) u (fun (u_9 : Mm) => Q u_9)))
set_option maxHeartbeats 4000000 in
set_option maxRecDepth 100000 in
theorem c_X8_readHears {l : Launch} {G : Gx} {p0 : Nat} {u : Mm} {Q : Mm → Prop} (h : V_X8_readHears G p0 u Q) : Met l yX8_readHears [.code yX8_readHears cX8_readHears 1 none] rm_X8_readHears (va_Pc [.ref p0] (Wd G u)) (Ev G Q) 0 0 (ag G) := by
  refine q_met (by decide) (Nat.le_of_ble_eq_true rfl) ?_
  intro p e s m below meth c ls C hr hlk hnm hl hP
  have hl : lv_has ls 1 [(0, .ref p0)] := hl
  generalize ([.ref p0] : List Value).toArray = args
  have hx := C.1
  have hb := C.2.1
  unfold V_X8_readHears at h
  refine lv_aload_n hx hb dX8_readHears_0 rfl (lv_at hl 0 rfl) ?_
  obtain ⟨g1, h⟩ := h
  refine q_getI C hP (k := 4) (lay_X8 C.hA) rfl (by decide) g1 (fl_X8_41 C.hA) dX8_readHears_1 ?_
  refine lv_if_eq (tgt := 13) hx hb dX8_readHears_4 (by decide) (fun c4 => ?_) (fun c4 => ?_)
  · have h := h.1 c4
    refine lv_aload_n hx hb dX8_readHears_13 rfl (lv_at hl 0 rfl) ?_
    refine lv_iconst (v := (1 : Int32)) hx hb dX8_readHears_14 (by decide) ?_
    refine q_putI C hP (k := 4) tyX8_ok nmX8 (lay_X8 C.hA) rfl (by decide) rfl rfl (nb01 (by decide)) (fb01 (by decide)) g1 (fl_X8_41 C.hA) dX8_readHears_15 (fun H locs hP => ?_)
    obtain ⟨u_15, eu_15, hP⟩ := Hp.nm hP
    have h := h u_15 eu_15
    refine lv_aload_n hx hb dX8_readHears_18 rfl (lv_at hl 0 rfl) ?_
    refine q_calv (q_runV C hP (c_X8_takeToken h) (cd_X8_takeToken C.hA) (ini_X8 C.hA) (ml_X8_54 C.hA) (im_X8_takeToken C.hA) (sl_X8_takeToken C.hA) g1 (by decide) rfl hd_X8_takeToken ⟨rfl, rfl⟩ ⟨Nat.le_of_ble_eq_true rfl, Nat.le_of_ble_eq_true rfl⟩ ⟨Nat.le_of_ble_eq_true rfl, Nat.le_of_ble_eq_true rfl⟩ hl.1 rfl (Nat.le_of_ble_eq_true rfl) dX8_readHears_19) hP (fun u_19 H locs h hP => ?_)
    refine lv_aload_n hx hb dX8_readHears_22 rfl (lv_at hl 0 rfl) ?_
    obtain ⟨g2, h⟩ := h
    refine q_getR C hP (k := 3) (lay_X8 C.hA) rfl (by decide) g1 g2 (fl_X8_18 C.hA) dX8_readHears_23 ?_
    refine lv_aload_n hx hb dX8_readHears_26 rfl (lv_at hl 0 rfl) ?_
    refine lv_iconst (v := (0 : Int32)) hx hb dX8_readHears_27 (by decide) ?_
    refine lv_sipush (v := (1000 : Int32)) hx hb dX8_readHears_28 (by decide) ?_
    refine lv_iconst (v := (0 : Int32)) hx hb dX8_readHears_31 (by decide) ?_
    refine q_cali (q_runV C hP (c_X8_readNumber h) (cd_X8_readNumber C.hA) (ini_X8 C.hA) (ml_X8_107 C.hA) (im_X8_readNumber C.hA) (sl_X8_readNumber C.hA) g1 (by decide) rfl hd_X8_readNumber ⟨rfl, rfl⟩ ⟨Nat.le_of_ble_eq_true rfl, Nat.le_of_ble_eq_true rfl⟩ ⟨Nat.le_of_ble_eq_true rfl, Nat.le_of_ble_eq_true rfl⟩ hl.1 rfl (Nat.le_of_ble_eq_true rfl) dX8_readHears_32) hP (fun v_32 u_32 H locs h hP => ?_)
    obtain ⟨g3, h⟩ := h
    refine q_putIN C hP (k := 6) tyX4_ok nmX4 (lay_X4 C.hA) rfl (by decide) rfl rfl rfl rfl g3 (fn_X8_175 C.hA) dX8_readHears_35 (fun H locs hP => ?_)
    obtain ⟨u_35, eu_35, hP⟩ := Hp.nm hP
    have h := h u_35 eu_35
    refine lv_aload_n hx hb dX8_readHears_38 rfl (lv_at hl 0 rfl) ?_
    refine q_calv (q_runV C hP (c_X8_readSign h) (cd_X8_readSign C.hA) (ini_X8 C.hA) (ml_X8_127 C.hA) (im_X8_readSign C.hA) (sl_X8_readSign C.hA) g1 (by decide) rfl hd_X8_readSign ⟨rfl, rfl⟩ ⟨Nat.le_of_ble_eq_true rfl, Nat.le_of_ble_eq_true rfl⟩ ⟨Nat.le_of_ble_eq_true rfl, Nat.le_of_ble_eq_true rfl⟩ hl.1 rfl (Nat.le_of_ble_eq_true rfl) dX8_readHears_39) hP (fun u_39 H locs h hP => ?_)
    exact q_vret C hr hlk hP h (by decide) (by decide) dX8_readHears_42
  · have h := h.2 c4
    refine lv_aload_n hx hb dX8_readHears_7 rfl (lv_at hl 0 rfl) ?_
    refine lv_iconst (v := (4 : Int32)) hx hb dX8_readHears_8 (by decide) ?_
    refine q_calv (q_runV C hP (c_X8_refuse h) (cd_X8_refuse C.hA) (ini_X8 C.hA) (ml_X8_92 C.hA) (im_X8_refuse C.hA) (sl_X8_refuse C.hA) g1 (by decide) rfl hd_X8_refuse ⟨rfl, rfl⟩ ⟨Nat.le_of_ble_eq_true rfl, Nat.le_of_ble_eq_true rfl⟩ ⟨Nat.le_of_ble_eq_true rfl, Nat.le_of_ble_eq_true rfl⟩ hl.1 rfl (Nat.le_of_ble_eq_true rfl) dX8_readHears_9) hP (fun u_9 H locs h hP => ?_)
    exact q_vret C hr hlk hP h (by decide) (by decide) dX8_readHears_12
-- X8_readAir
abbrev rm_X8_readAir : Room := { frames := 3, cells := 0, slots := 0, locals := 65 }
theorem hd_X8_readAir : yX8_readAir.cls ≠ "java/lang/invoke/MethodHandle" ∧ yX8_readAir.cls ≠ "java/lang/invoke/VarHandle" ∧ (parseMethodDescriptor yX8_readAir.desc).map (fun d => d.parameters.length) = some 0 := by decide +kernel
def V_X8_readAir (G : Gx) (p0 : Nat) (u : Mm) (Q : Mm → Prop) : Prop :=
  kd G p0 = 8 ∧ (((gI u p0 5) = 0 → ∀ u_15 : Mm, u_15 = sI u p0 5 (1 : Int32) → V_X8_takeToken G p0 u_15 (fun (u_19 : Mm) => (gR u_19 p0 3) ≠ 0 ∧ V_X8_readNumber G p0 (50 : Int32) (150 : Int32) (50 : Int32) u_19 (fun (v_34 : Int32) (u_34 : Mm) => kd G (gR u_19 p0 3) = 4 ∧ ∀ u_37 : Mm, u_37 = sI u_34 (gR u_19 p0 3) 7 v_34 → V_X8_readSign G p0 u_37 (fun (u_41 : Mm) => Q u_41)))) ∧ (¬ (gI u p0 5) = 0 → V_X8_refuse G p0 (4 : Int32) u (fun (u_9 : Mm) => Q u_9)))
set_option maxHeartbeats 4000000 in
set_option maxRecDepth 100000 in
theorem c_X8_readAir {l : Launch} {G : Gx} {p0 : Nat} {u : Mm} {Q : Mm → Prop} (h : V_X8_readAir G p0 u Q) : Met l yX8_readAir [.code yX8_readAir cX8_readAir 1 none] rm_X8_readAir (va_Pc [.ref p0] (Wd G u)) (Ev G Q) 0 0 (ag G) := by
  refine q_met (by decide) (Nat.le_of_ble_eq_true rfl) ?_
  intro p e s m below meth c ls C hr hlk hnm hl hP
  have hl : lv_has ls 1 [(0, .ref p0)] := hl
  generalize ([.ref p0] : List Value).toArray = args
  have hx := C.1
  have hb := C.2.1
  unfold V_X8_readAir at h
  refine lv_aload_n hx hb dX8_readAir_0 rfl (lv_at hl 0 rfl) ?_
  obtain ⟨g1, h⟩ := h
  refine q_getI C hP (k := 5) (lay_X8 C.hA) rfl (by decide) g1 (fl_X8_45 C.hA) dX8_readAir_1 ?_
  refine lv_if_eq (tgt := 13) hx hb dX8_readAir_4 (by decide) (fun c4 => ?_) (fun c4 => ?_)
  · have h := h.1 c4
    refine lv_aload_n hx hb dX8_readAir_13 rfl (lv_at hl 0 rfl) ?_
    refine lv_iconst (v := (1 : Int32)) hx hb dX8_readAir_14 (by decide) ?_
    refine q_putI C hP (k := 5) tyX8_ok nmX8 (lay_X8 C.hA) rfl (by decide) rfl rfl (nb01 (by decide)) (fb01 (by decide)) g1 (fl_X8_45 C.hA) dX8_readAir_15 (fun H locs hP => ?_)
    obtain ⟨u_15, eu_15, hP⟩ := Hp.nm hP
    have h := h u_15 eu_15
    refine lv_aload_n hx hb dX8_readAir_18 rfl (lv_at hl 0 rfl) ?_
    refine q_calv (q_runV C hP (c_X8_takeToken h) (cd_X8_takeToken C.hA) (ini_X8 C.hA) (ml_X8_54 C.hA) (im_X8_takeToken C.hA) (sl_X8_takeToken C.hA) g1 (by decide) rfl hd_X8_takeToken ⟨rfl, rfl⟩ ⟨Nat.le_of_ble_eq_true rfl, Nat.le_of_ble_eq_true rfl⟩ ⟨Nat.le_of_ble_eq_true rfl, Nat.le_of_ble_eq_true rfl⟩ hl.1 rfl (Nat.le_of_ble_eq_true rfl) dX8_readAir_19) hP (fun u_19 H locs h hP => ?_)
    refine lv_aload_n hx hb dX8_readAir_22 rfl (lv_at hl 0 rfl) ?_
    obtain ⟨g2, h⟩ := h
    refine q_getR C hP (k := 3) (lay_X8 C.hA) rfl (by decide) g1 g2 (fl_X8_18 C.hA) dX8_readAir_23 ?_
    refine lv_aload_n hx hb dX8_readAir_26 rfl (lv_at hl 0 rfl) ?_
    refine lv_bipush (v := (50 : Int32)) hx hb dX8_readAir_27 (by decide) ?_
    refine lv_sipush (v := (150 : Int32)) hx hb dX8_readAir_29 (by decide) ?_
    refine lv_bipush (v := (50 : Int32)) hx hb dX8_readAir_32 (by decide) ?_
    refine q_cali (q_runV C hP (c_X8_readNumber h) (cd_X8_readNumber C.hA) (ini_X8 C.hA) (ml_X8_107 C.hA) (im_X8_readNumber C.hA) (sl_X8_readNumber C.hA) g1 (by decide) rfl hd_X8_readNumber ⟨rfl, rfl⟩ ⟨Nat.le_of_ble_eq_true rfl, Nat.le_of_ble_eq_true rfl⟩ ⟨Nat.le_of_ble_eq_true rfl, Nat.le_of_ble_eq_true rfl⟩ hl.1 rfl (Nat.le_of_ble_eq_true rfl) dX8_readAir_34) hP (fun v_34 u_34 H locs h hP => ?_)
    obtain ⟨g3, h⟩ := h
    refine q_putIN C hP (k := 7) tyX4_ok nmX4 (lay_X4 C.hA) rfl (by decide) rfl rfl rfl rfl g3 (fn_X8_177 C.hA) dX8_readAir_37 (fun H locs hP => ?_)
    obtain ⟨u_37, eu_37, hP⟩ := Hp.nm hP
    have h := h u_37 eu_37
    refine lv_aload_n hx hb dX8_readAir_40 rfl (lv_at hl 0 rfl) ?_
    refine q_calv (q_runV C hP (c_X8_readSign h) (cd_X8_readSign C.hA) (ini_X8 C.hA) (ml_X8_127 C.hA) (im_X8_readSign C.hA) (sl_X8_readSign C.hA) g1 (by decide) rfl hd_X8_readSign ⟨rfl, rfl⟩ ⟨Nat.le_of_ble_eq_true rfl, Nat.le_of_ble_eq_true rfl⟩ ⟨Nat.le_of_ble_eq_true rfl, Nat.le_of_ble_eq_true rfl⟩ hl.1 rfl (Nat.le_of_ble_eq_true rfl) dX8_readAir_41) hP (fun u_41 H locs h hP => ?_)
    exact q_vret C hr hlk hP h (by decide) (by decide) dX8_readAir_44
  · have h := h.2 c4
    refine lv_aload_n hx hb dX8_readAir_7 rfl (lv_at hl 0 rfl) ?_
    refine lv_iconst (v := (4 : Int32)) hx hb dX8_readAir_8 (by decide) ?_
    refine q_calv (q_runV C hP (c_X8_refuse h) (cd_X8_refuse C.hA) (ini_X8 C.hA) (ml_X8_92 C.hA) (im_X8_refuse C.hA) (sl_X8_refuse C.hA) g1 (by decide) rfl hd_X8_refuse ⟨rfl, rfl⟩ ⟨Nat.le_of_ble_eq_true rfl, Nat.le_of_ble_eq_true rfl⟩ ⟨Nat.le_of_ble_eq_true rfl, Nat.le_of_ble_eq_true rfl⟩ hl.1 rfl (Nat.le_of_ble_eq_true rfl) dX8_readAir_9) hP (fun u_9 H locs h hP => ?_)
    exact q_vret C hr hlk hP h (by decide) (by decide) dX8_readAir_12
-- X8_readLand
abbrev rm_X8_readLand : Room := { frames := 7, cells := 0, slots := 0, locals := 149 }
theorem hd_X8_readLand : yX8_readLand.cls ≠ "java/lang/invoke/MethodHandle" ∧ yX8_readLand.cls ≠ "java/lang/invoke/VarHandle" ∧ (parseMethodDescriptor yX8_readLand.desc).map (fun d => d.parameters.length) = some 1 := by decide +kernel
def V_X8_readLand_181 (G : Gx) (Q : Int32 → Mm → Prop) (k_55 : Nat → Int32 → Mm → Prop) (x0 : Nat) (x2 : Int32) (u : Mm) : Prop :=
  ∀ x2_181 : Int32, x2_181 = x2 + (1 : Int32) → k_55 x0 x2_181 u
def V_X8_readLand_55_B (G : Gx) (Q : Int32 → Mm → Prop) (k_55 : Nat → Int32 → Mm → Prop) (x0 : Nat) (x2 : Int32) (u : Mm) : Prop :=
  kd G x0 = 8 ∧ (((gI u x0 2) < x2 → Q (gI u x0 10) u) ∧ (¬ (gI u x0 2) < x2 → (((gI u x0 6) = (4 : Int32) → Q (gI u x0 10) u) ∧ (¬ (gI u x0 6) = (4 : Int32) → (((gI u x0 10) = 0 → V_X8_isWord G x0 (gS G 2) u (fun (v_81 : Int32) (u_81 : Mm) => ((v_81 = 0 → V_X8_isWord G x0 (gS G 4) u_81 (fun (v_98 : Int32) (u_98 : Mm) => ((v_98 = 0 → V_X8_isWord G x0 (gS G 5) u_98 (fun (v_115 : Int32) (u_115 : Mm) => ((v_115 = 0 → V_X8_isWord G x0 (gS G 7) u_115 (fun (v_131 : Int32) (u_131 : Mm) => ((v_131 = 0 → V_X8_isWord G x0 (gS G 8) u_131 (fun (v_147 : Int32) (u_147 : Mm) => ((v_147 = 0 → V_X8_isWord G x0 (gS G 9) u_147 (fun (v_163 : Int32) (u_163 : Mm) => ((v_163 = 0 → V_X8_refuse G x0 (1 : Int32) u_163 (fun (u_178 : Mm) => V_X8_readLand_181 G Q k_55 x0 x2 u_178)) ∧ (¬ v_163 = 0 → V_X8_readAir G x0 u_163 (fun (u_170 : Mm) => V_X8_readLand_181 G Q k_55 x0 x2 u_170))))) ∧ (¬ v_147 = 0 → V_X8_readHears G x0 u_147 (fun (u_154 : Mm) => V_X8_readLand_181 G Q k_55 x0 x2 u_154))))) ∧ (¬ v_131 = 0 → V_X8_readWood G x0 u_131 (fun (u_138 : Mm) => V_X8_readLand_181 G Q k_55 x0 x2 u_138))))) ∧ (¬ v_115 = 0 → V_X8_readBarn G x0 u_115 (fun (u_122 : Mm) => V_X8_readLand_181 G Q k_55 x0 x2 u_122))))) ∧ (¬ v_98 = 0 → V_X8_readWall G x0 (0 : Int32) u_98 (fun (u_106 : Mm) => V_X8_readLand_181 G Q k_55 x0 x2 u_106))))) ∧ (¬ v_81 = 0 → V_X8_readWall G x0 (1 : Int32) u_81 (fun (u_89 : Mm) => V_X8_readLand_181 G Q k_55 x0 x2 u_89))))) ∧ (¬ (gI u x0 10) = 0 → Q (gI u x0 10) u))))))
def V_X8_readLand_55 (G : Gx) (Q : Int32 → Mm → Prop) : Nat → (Nat → Int32 → Mm → Prop)
  | 0 => fun _ _ _ => False
  | n + 1 => fun x0 x2 u => V_X8_readLand_55_B G Q (V_X8_readLand_55 G Q n) x0 x2 u
def V_X8_readLand (G : Gx) (p0 : Nat) (p1 : Int32) (u : Mm) (Q : Int32 → Mm → Prop) : Prop :=
  kd G p0 = 8 ∧ ∀ u_9 : Mm, u_9 = sI u p0 2 (mn p1 (gI u p0 1)) → ∀ u_14 : Mm, u_14 = sI u_9 p0 1 (0 : Int32) → (gR u_14 p0 3) ≠ 0 ∧ kd G (gR u_14 p0 3) = 4 ∧ V_X4_empty G (gR u_14 p0 3) u_14 (fun (u_21 : Mm) => ∀ u_26 : Mm, u_26 = sI u_21 p0 4 (0 : Int32) → ∀ u_31 : Mm, u_31 = sI u_26 p0 5 (0 : Int32) → ∀ u_36 : Mm, u_36 = sI u_31 p0 10 (0 : Int32) → ∀ u_41 : Mm, u_41 = sI u_36 p0 11 (-1 : Int32) → ∀ u_46 : Mm, u_46 = sI u_41 p0 8 (0 : Int32) → V_X8_takeToken G p0 u_46 (fun (u_50 : Mm) => ∃ n : Nat, V_X8_readLand_55 G Q n p0 (0 : Int32) u_50))
set_option maxHeartbeats 4000000 in
set_option maxRecDepth 100000 in
theorem b_X8_readLand_181 {G : Gx} {Q : Int32 → Mm → Prop} {p : Program} {l : Launch} {e : Env} {s : State} {m : MethodId} {args : Array Value} {below : List Frame} {meth : Method} {c : Code} (C : Cx G p s m c cX8_readLand RX8 3) (hr : meth.sig.returnType = (some .int)) (hlk : meth.locks = false) {k_55 : Nat → Int32 → Mm → Prop} (hk_55 : ∀ (x0 : Nat) (x2 : Int32) (u : Mm) (H : Heap) (locs : List Loc) (ls : Array Slot), k_55 x0 x2 u → lv_has ls 3 [(0, .ref x0), (2, .int x2)] → Hp G u s H locs → W p l e rm_X8_readLand s m args below meth c H locs 0 0 (MQ below (Ei G Q) args s 0 0 (ag G)) (F0 m 55 ls [])) {x0 : Nat} {x2 : Int32} {u : Mm} {H : Heap} {locs : List Loc} {ls : Array Slot} (h : V_X8_readLand_181 G Q k_55 x0 x2 u) (hl : lv_has ls 3 [(0, .ref x0), (2, .int x2)]) (hP : Hp G u s H locs) : W p l e rm_X8_readLand s m args below meth c H locs 0 0 (MQ below (Ei G Q) args s 0 0 (ag G)) (F0 m 181 ls []) := by
  have hx := C.1
  have hb := C.2.1
  unfold V_X8_readLand_181 at h
  obtain ⟨x2_181, ex2_181⟩ : ∃ y : Int32, y = x2 + (1 : Int32) := ⟨_, rfl⟩
  have h := h x2_181 ex2_181
  refine lv_iinc (v := x2_181) (lv' := [(2, .int x2_181), (0, .ref x0)]) hx hb dX8_readLand_181 hl (k := 1) rfl (by rw [ex2_181]; rfl) (by decide) rfl (fun ls hl => ?_)
  refine lv_goto (tgt := 55) hx hb dX8_readLand_184 (by decide) ?_
  exact hk_55 x0 x2_181 u _ _ _ h (lv_sub hl [1, 0] rfl) hP
set_option maxHeartbeats 4000000 in
set_option maxRecDepth 100000 in
theorem b_X8_readLand_55 {G : Gx} {Q : Int32 → Mm → Prop} {p : Program} {l : Launch} {e : Env} {s : State} {m : MethodId} {args : Array Value} {below : List Frame} {meth : Method} {c : Code} (C : Cx G p s m c cX8_readLand RX8 3) (hr : meth.sig.returnType = (some .int)) (hlk : meth.locks = false) {k_55 : Nat → Int32 → Mm → Prop} (hk_55 : ∀ (x0 : Nat) (x2 : Int32) (u : Mm) (H : Heap) (locs : List Loc) (ls : Array Slot), k_55 x0 x2 u → lv_has ls 3 [(0, .ref x0), (2, .int x2)] → Hp G u s H locs → W p l e rm_X8_readLand s m args below meth c H locs 0 0 (MQ below (Ei G Q) args s 0 0 (ag G)) (F0 m 55 ls [])) {x0 : Nat} {x2 : Int32} {u : Mm} {H : Heap} {locs : List Loc} {ls : Array Slot} (h : V_X8_readLand_55_B G Q k_55 x0 x2 u) (hl : lv_has ls 3 [(0, .ref x0), (2, .int x2)]) (hP : Hp G u s H locs) : W p l e rm_X8_readLand s m args below meth c H locs 0 0 (MQ below (Ei G Q) args s 0 0 (ag G)) (F0 m 55 ls []) := by
  have hx := C.1
  have hb := C.2.1
  unfold V_X8_readLand_55_B at h
  refine lv_iload_n hx hb dX8_readLand_55 rfl (lv_at hl 1 rfl) ?_
  refine lv_aload_n hx hb dX8_readLand_56 rfl (lv_at hl 0 rfl) ?_
  obtain ⟨g1, h⟩ := h
  refine q_getI C hP (k := 2) (lay_X8 C.hA) rfl (by decide) g1 (fl_X8_35 C.hA) dX8_readLand_57 ?_
  refine lv_icmp_gt (tgt := 187) hx hb dX8_readLand_60 (by decide) (fun c60 => ?_) (fun c60 => ?_)
  · have h := h.1 c60
    refine lv_aload_n hx hb dX8_readLand_187 rfl (lv_at hl 0 rfl) ?_
    refine q_getI C hP (k := 10) (lay_X8 C.hA) rfl (by decide) g1 (fl_X8_48 C.hA) dX8_readLand_188 ?_
    exact q_iret C hr hlk hP h (by decide) (by decide) dX8_readLand_191
  · have h := h.2 c60
    refine lv_aload_n hx hb dX8_readLand_63 rfl (lv_at hl 0 rfl) ?_
    refine q_getI C hP (k := 6) (lay_X8 C.hA) rfl (by decide) g1 (fl_X8_57 C.hA) dX8_readLand_64 ?_
    refine lv_iconst (v := (4 : Int32)) hx hb dX8_readLand_67 (by decide) ?_
    refine lv_icmp_eq (tgt := 187) hx hb dX8_readLand_68 (by decide) (fun c68 => ?_) (fun c68 => ?_)
    · have h := h.1 c68
      refine lv_aload_n hx hb dX8_readLand_187 rfl (lv_at hl 0 rfl) ?_
      refine q_getI C hP (k := 10) (lay_X8 C.hA) rfl (by decide) g1 (fl_X8_48 C.hA) dX8_readLand_188 ?_
      exact q_iret C hr hlk hP h (by decide) (by decide) dX8_readLand_191
    · have h := h.2 c68
      refine lv_aload_n hx hb dX8_readLand_71 rfl (lv_at hl 0 rfl) ?_
      refine q_getI C hP (k := 10) (lay_X8 C.hA) rfl (by decide) g1 (fl_X8_48 C.hA) dX8_readLand_72 ?_
      refine lv_if_ne (tgt := 187) hx hb dX8_readLand_75 (by decide) (fun c75 => ?_) (fun c75 => ?_)
      · have h := h.2 c75
        refine lv_aload_n hx hb dX8_readLand_187 rfl (lv_at hl 0 rfl) ?_
        refine q_getI C hP (k := 10) (lay_X8 C.hA) rfl (by decide) g1 (fl_X8_48 C.hA) dX8_readLand_188 ?_
        exact q_iret C hr hlk hP h (by decide) (by decide) dX8_readLand_191
      · have h := h.1 c75
        refine lv_aload_n hx hb dX8_readLand_78 rfl (lv_at hl 0 rfl) ?_
        refine q_lds C 2 (by decide) rfl rfl dX8_readLand_79 ?_
        refine q_cali (q_runV C hP (c_X8_isWord h) (cd_X8_isWord C.hA) (ini_X8 C.hA) (ml_X8_62 C.hA) (im_X8_isWord C.hA) (sl_X8_isWord C.hA) g1 (by decide) rfl hd_X8_isWord ⟨rfl, rfl⟩ ⟨Nat.le_of_ble_eq_true rfl, Nat.le_of_ble_eq_true rfl⟩ ⟨Nat.le_of_ble_eq_true rfl, Nat.le_of_ble_eq_true rfl⟩ hl.1 rfl (Nat.le_of_ble_eq_true rfl) dX8_readLand_81) hP (fun v_81 u_81 H locs h hP => ?_)
        refine lv_if_eq (tgt := 95) hx hb dX8_readLand_84 (by decide) (fun c84 => ?_) (fun c84 => ?_)
        · have h := h.1 c84
          refine lv_aload_n hx hb dX8_readLand_95 rfl (lv_at hl 0 rfl) ?_
          refine q_lds C 4 (by decide) rfl rfl dX8_readLand_96 ?_
          refine q_cali (q_runV C hP (c_X8_isWord h) (cd_X8_isWord C.hA) (ini_X8 C.hA) (ml_X8_62 C.hA) (im_X8_isWord C.hA) (sl_X8_isWord C.hA) g1 (by decide) rfl hd_X8_isWord ⟨rfl, rfl⟩ ⟨Nat.le_of_ble_eq_true rfl, Nat.le_of_ble_eq_true rfl⟩ ⟨Nat.le_of_ble_eq_true rfl, Nat.le_of_ble_eq_true rfl⟩ hl.1 rfl (Nat.le_of_ble_eq_true rfl) dX8_readLand_98) hP (fun v_98 u_98 H locs h hP => ?_)
          refine lv_if_eq (tgt := 112) hx hb dX8_readLand_101 (by decide) (fun c101 => ?_) (fun c101 => ?_)
          · have h := h.1 c101
            refine lv_aload_n hx hb dX8_readLand_112 rfl (lv_at hl 0 rfl) ?_
            refine q_lds C 5 (by decide) rfl rfl dX8_readLand_113 ?_
            refine q_cali (q_runV C hP (c_X8_isWord h) (cd_X8_isWord C.hA) (ini_X8 C.hA) (ml_X8_62 C.hA) (im_X8_isWord C.hA) (sl_X8_isWord C.hA) g1 (by decide) rfl hd_X8_isWord ⟨rfl, rfl⟩ ⟨Nat.le_of_ble_eq_true rfl, Nat.le_of_ble_eq_true rfl⟩ ⟨Nat.le_of_ble_eq_true rfl, Nat.le_of_ble_eq_true rfl⟩ hl.1 rfl (Nat.le_of_ble_eq_true rfl) dX8_readLand_115) hP (fun v_115 u_115 H locs h hP => ?_)
            refine lv_if_eq (tgt := 128) hx hb dX8_readLand_118 (by decide) (fun c118 => ?_) (fun c118 => ?_)
            · have h := h.1 c118
              refine lv_aload_n hx hb dX8_readLand_128 rfl (lv_at hl 0 rfl) ?_
              refine q_lds C 7 (by decide) rfl rfl dX8_readLand_129 ?_
              refine q_cali (q_runV C hP (c_X8_isWord h) (cd_X8_isWord C.hA) (ini_X8 C.hA) (ml_X8_62 C.hA) (im_X8_isWord C.hA) (sl_X8_isWord C.hA) g1 (by decide) rfl hd_X8_isWord ⟨rfl, rfl⟩ ⟨Nat.le_of_ble_eq_true rfl, Nat.le_of_ble_eq_true rfl⟩ ⟨Nat.le_of_ble_eq_true rfl, Nat.le_of_ble_eq_true rfl⟩ hl.1 rfl (Nat.le_of_ble_eq_true rfl) dX8_readLand_131) hP (fun v_131 u_131 H locs h hP => ?_)
              refine lv_if_eq (tgt := 144) hx hb dX8_readLand_134 (by decide) (fun c134 => ?_) (fun c134 => ?_)
              · have h := h.1 c134
                refine lv_aload_n hx hb dX8_readLand_144 rfl (lv_at hl 0 rfl) ?_
                refine q_lds C 8 (by decide) rfl rfl dX8_readLand_145 ?_
                refine q_cali (q_runV C hP (c_X8_isWord h) (cd_X8_isWord C.hA) (ini_X8 C.hA) (ml_X8_62 C.hA) (im_X8_isWord C.hA) (sl_X8_isWord C.hA) g1 (by decide) rfl hd_X8_isWord ⟨rfl, rfl⟩ ⟨Nat.le_of_ble_eq_true rfl, Nat.le_of_ble_eq_true rfl⟩ ⟨Nat.le_of_ble_eq_true rfl, Nat.le_of_ble_eq_true rfl⟩ hl.1 rfl (Nat.le_of_ble_eq_true rfl) dX8_readLand_147) hP (fun v_147 u_147 H locs h hP => ?_)
                refine lv_if_eq (tgt := 160) hx hb dX8_readLand_150 (by decide) (fun c150 => ?_) (fun c150 => ?_)
                · have h := h.1 c150
                  refine lv_aload_n hx hb dX8_readLand_160 rfl (lv_at hl 0 rfl) ?_
                  refine q_lds C 9 (by decide) rfl rfl dX8_readLand_161 ?_
                  refine q_cali (q_runV C hP (c_X8_isWord h) (cd_X8_isWord C.hA) (ini_X8 C.hA) (ml_X8_62 C.hA) (im_X8_isWord C.hA) (sl_X8_isWord C.hA) g1 (by decide) rfl hd_X8_isWord ⟨rfl, rfl⟩ ⟨Nat.le_of_ble_eq_true rfl, Nat.le_of_ble_eq_true rfl⟩ ⟨Nat.le_of_ble_eq_true rfl, Nat.le_of_ble_eq_true rfl⟩ hl.1 rfl (Nat.le_of_ble_eq_true rfl) dX8_readLand_163) hP (fun v_163 u_163 H locs h hP => ?_)
                  refine lv_if_eq (tgt := 176) hx hb dX8_readLand_166 (by decide) (fun c166 => ?_) (fun c166 => ?_)
                  · have h := h.1 c166
                    refine lv_aload_n hx hb dX8_readLand_176 rfl (lv_at hl 0 rfl) ?_
                    refine lv_iconst (v := (1 : Int32)) hx hb dX8_readLand_177 (by decide) ?_
                    refine q_calv (q_runV C hP (c_X8_refuse h) (cd_X8_refuse C.hA) (ini_X8 C.hA) (ml_X8_92 C.hA) (im_X8_refuse C.hA) (sl_X8_refuse C.hA) g1 (by decide) rfl hd_X8_refuse ⟨rfl, rfl⟩ ⟨Nat.le_of_ble_eq_true rfl, Nat.le_of_ble_eq_true rfl⟩ ⟨Nat.le_of_ble_eq_true rfl, Nat.le_of_ble_eq_true rfl⟩ hl.1 rfl (Nat.le_of_ble_eq_true rfl) dX8_readLand_178) hP (fun u_178 H locs h hP => ?_)
                    exact b_X8_readLand_181 C hr hlk hk_55 h (lv_sub hl [0, 1] rfl) hP
                  · have h := h.2 c166
                    refine lv_aload_n hx hb dX8_readLand_169 rfl (lv_at hl 0 rfl) ?_
                    refine q_calv (q_runV C hP (c_X8_readAir h) (cd_X8_readAir C.hA) (ini_X8 C.hA) (ml_X8_89 C.hA) (im_X8_readAir C.hA) (sl_X8_readAir C.hA) g1 (by decide) rfl hd_X8_readAir ⟨rfl, rfl⟩ ⟨Nat.le_of_ble_eq_true rfl, Nat.le_of_ble_eq_true rfl⟩ ⟨Nat.le_of_ble_eq_true rfl, Nat.le_of_ble_eq_true rfl⟩ hl.1 rfl (Nat.le_of_ble_eq_true rfl) dX8_readLand_170) hP (fun u_170 H locs h hP => ?_)
                    refine lv_goto (tgt := 181) hx hb dX8_readLand_173 (by decide) ?_
                    exact b_X8_readLand_181 C hr hlk hk_55 h (lv_sub hl [0, 1] rfl) hP
                · have h := h.2 c150
                  refine lv_aload_n hx hb dX8_readLand_153 rfl (lv_at hl 0 rfl) ?_
                  refine q_calv (q_runV C hP (c_X8_readHears h) (cd_X8_readHears C.hA) (ini_X8 C.hA) (ml_X8_84 C.hA) (im_X8_readHears C.hA) (sl_X8_readHears C.hA) g1 (by decide) rfl hd_X8_readHears ⟨rfl, rfl⟩ ⟨Nat.le_of_ble_eq_true rfl, Nat.le_of_ble_eq_true rfl⟩ ⟨Nat.le_of_ble_eq_true rfl, Nat.le_of_ble_eq_true rfl⟩ hl.1 rfl (Nat.le_of_ble_eq_true rfl) dX8_readLand_154) hP (fun u_154 H locs h hP => ?_)
                  refine lv_goto (tgt := 181) hx hb dX8_readLand_157 (by decide) ?_
                  exact b_X8_readLand_181 C hr hlk hk_55 h (lv_sub hl [0, 1] rfl) hP
              · have h := h.2 c134
                refine lv_aload_n hx hb dX8_readLand_137 rfl (lv_at hl 0 rfl) ?_
                refine q_calv (q_runV C hP (c_X8_readWood h) (cd_X8_readWood C.hA) (ini_X8 C.hA) (ml_X8_79 C.hA) (im_X8_readWood C.hA) (sl_X8_readWood C.hA) g1 (by decide) rfl hd_X8_readWood ⟨rfl, rfl⟩ ⟨Nat.le_of_ble_eq_true rfl, Nat.le_of_ble_eq_true rfl⟩ ⟨Nat.le_of_ble_eq_true rfl, Nat.le_of_ble_eq_true rfl⟩ hl.1 rfl (Nat.le_of_ble_eq_true rfl) dX8_readLand_138) hP (fun u_138 H locs h hP => ?_)
                refine lv_goto (tgt := 181) hx hb dX8_readLand_141 (by decide) ?_
                exact b_X8_readLand_181 C hr hlk hk_55 h (lv_sub hl [0, 1] rfl) hP
            · have h := h.2 c118
              refine lv_aload_n hx hb dX8_readLand_121 rfl (lv_at hl 0 rfl) ?_
              refine q_calv (q_runV C hP (c_X8_readBarn h) (cd_X8_readBarn C.hA) (ini_X8 C.hA) (ml_X8_74 C.hA) (im_X8_readBarn C.hA) (sl_X8_readBarn C.hA) g1 (by decide) rfl hd_X8_readBarn ⟨rfl, rfl⟩ ⟨Nat.le_of_ble_eq_true rfl, Nat.le_of_ble_eq_true rfl⟩ ⟨Nat.le_of_ble_eq_true rfl, Nat.le_of_ble_eq_true rfl⟩ hl.1 rfl (Nat.le_of_ble_eq_true rfl) dX8_readLand_122) hP (fun u_122 H locs h hP => ?_)
              refine lv_goto (tgt := 181) hx hb dX8_readLand_125 (by decide) ?_
              exact b_X8_readLand_181 C hr hlk hk_55 h (lv_sub hl [0, 1] rfl) hP
          · have h := h.2 c101
            refine lv_aload_n hx hb dX8_readLand_104 rfl (lv_at hl 0 rfl) ?_
            refine lv_iconst (v := (0 : Int32)) hx hb dX8_readLand_105 (by decide) ?_
            refine q_calv (q_runV C hP (c_X8_readWall h) (cd_X8_readWall C.hA) (ini_X8 C.hA) (ml_X8_66 C.hA) (im_X8_readWall C.hA) (sl_X8_readWall C.hA) g1 (by decide) rfl hd_X8_readWall ⟨rfl, rfl⟩ ⟨Nat.le_of_ble_eq_true rfl, Nat.le_of_ble_eq_true rfl⟩ ⟨Nat.le_of_ble_eq_true rfl, Nat.le_of_ble_eq_true rfl⟩ hl.1 rfl (Nat.le_of_ble_eq_true rfl) dX8_readLand_106) hP (fun u_106 H locs h hP => ?_)
            refine lv_goto (tgt := 181) hx hb dX8_readLand_109 (by decide) ?_
            exact b_X8_readLand_181 C hr hlk hk_55 h (lv_sub hl [0, 1] rfl) hP
        · have h := h.2 c84
          refine lv_aload_n hx hb dX8_readLand_87 rfl (lv_at hl 0 rfl) ?_
          refine lv_iconst (v := (1 : Int32)) hx hb dX8_readLand_88 (by decide) ?_
          refine q_calv (q_runV C hP (c_X8_readWall h) (cd_X8_readWall C.hA) (ini_X8 C.hA) (ml_X8_66 C.hA) (im_X8_readWall C.hA) (sl_X8_readWall C.hA) g1 (by decide) rfl hd_X8_readWall ⟨rfl, rfl⟩ ⟨Nat.le_of_ble_eq_true rfl, Nat.le_of_ble_eq_true rfl⟩ ⟨Nat.le_of_ble_eq_true rfl, Nat.le_of_ble_eq_true rfl⟩ hl.1 rfl (Nat.le_of_ble_eq_true rfl) dX8_readLand_89) hP (fun u_89 H locs h hP => ?_)
          refine lv_goto (tgt := 181) hx hb dX8_readLand_92 (by decide) ?_
          exact b_X8_readLand_181 C hr hlk hk_55 h (lv_sub hl [0, 1] rfl) hP
theorem l_X8_readLand_55 {G : Gx} {Q : Int32 → Mm → Prop} {p : Program} {l : Launch} {e : Env} {s : State} {m : MethodId} {args : Array Value} {below : List Frame} {meth : Method} {c : Code} (C : Cx G p s m c cX8_readLand RX8 3) (hr : meth.sig.returnType = (some .int)) (hlk : meth.locks = false) : ∀ (n : Nat) (x0 : Nat) (x2 : Int32) (u : Mm) (H : Heap) (locs : List Loc) (ls : Array Slot), V_X8_readLand_55 G Q n x0 x2 u → lv_has ls 3 [(0, .ref x0), (2, .int x2)] → Hp G u s H locs → W p l e rm_X8_readLand s m args below meth c H locs 0 0 (MQ below (Ei G Q) args s 0 0 (ag G)) (F0 m 55 ls []) := by
  intro n
  induction n with
  | zero => intro x0 x2 u H locs ls h; exact h.elim
  | succ n ih => intro x0 x2 u H locs ls h hl hP; exact b_X8_readLand_55 C hr hlk ih h hl hP
set_option maxHeartbeats 4000000 in
set_option maxRecDepth 100000 in
theorem c_X8_readLand {l : Launch} {G : Gx} {p0 : Nat} {p1 : Int32} {u : Mm} {Q : Int32 → Mm → Prop} (h : V_X8_readLand G p0 p1 u Q) : Met l yX8_readLand [.code yX8_readLand cX8_readLand 3 (some .int)] rm_X8_readLand (va_Pc [.ref p0, .int p1] (Wd G u)) (Ei G Q) 0 0 (ag G) := by
  refine q_met (by decide) (Nat.le_of_ble_eq_true rfl) ?_
  intro p e s m below meth c ls C hr hlk hnm hl hP
  have hl : lv_has ls 3 [(0, .ref p0), (1, .int p1)] := hl
  generalize ([.ref p0, .int p1] : List Value).toArray = args
  have hx := C.1
  have hb := C.2.1
  unfold V_X8_readLand at h
  refine lv_aload_n hx hb dX8_readLand_0 rfl (lv_at hl 0 rfl) ?_
  refine lv_iload_n hx hb dX8_readLand_1 rfl (lv_at hl 1 rfl) ?_
  refine lv_aload_n hx hb dX8_readLand_2 rfl (lv_at hl 0 rfl) ?_
  obtain ⟨g1, h⟩ := h
  refine q_getI C hP (k := 1) (lay_X8 C.hA) rfl (by decide) g1 (fl_X8_26 C.hA) dX8_readLand_3 ?_
  refine va_mmin hx hb (C.2.2.2.1.trans hl.1.symm) C.2.2.1 (ml_X8_29 C.hA) (st_J9_min_7cf53 C.hA) (ini_J9 C.hA) (cd_J9_min_7cf53 C.hA) (Nat.le_of_ble_eq_true rfl) (Nat.le_of_ble_eq_true rfl) (Nat.le_of_ble_eq_true rfl) (Nat.le_of_ble_eq_true rfl) dX8_readLand_6 ?_
  refine q_putI C hP (k := 2) tyX8_ok nmX8 (lay_X8 C.hA) rfl (by decide) rfl rfl rfl rfl g1 (fl_X8_35 C.hA) dX8_readLand_9 (fun H locs hP => ?_)
  obtain ⟨u_9, eu_9, hP⟩ := Hp.nm hP
  have h := h u_9 eu_9
  refine lv_aload_n hx hb dX8_readLand_12 rfl (lv_at hl 0 rfl) ?_
  refine lv_iconst (v := (0 : Int32)) hx hb dX8_readLand_13 (by decide) ?_
  refine q_putI C hP (k := 1) tyX8_ok nmX8 (lay_X8 C.hA) rfl (by decide) rfl rfl rfl rfl g1 (fl_X8_26 C.hA) dX8_readLand_14 (fun H locs hP => ?_)
  obtain ⟨u_14, eu_14, hP⟩ := Hp.nm hP
  have h := h u_14 eu_14
  refine lv_aload_n hx hb dX8_readLand_17 rfl (lv_at hl 0 rfl) ?_
  obtain ⟨g2, h⟩ := h
  refine q_getR C hP (k := 3) (lay_X8 C.hA) rfl (by decide) g1 g2 (fl_X8_18 C.hA) dX8_readLand_18 ?_
  obtain ⟨g3, h⟩ := h
  refine q_calv (q_runVN C hP (c_X4_empty h) (cd_X4_empty C.hA) (ini_X4 C.hA) (mn_X8_38 C.hA) (im_X4_empty C.hA) (sl_X4_empty C.hA) g3 (by decide) rfl hd_X4_empty ⟨rfl, rfl⟩ ⟨Nat.le_of_ble_eq_true rfl, Nat.le_of_ble_eq_true rfl⟩ ⟨Nat.le_of_ble_eq_true rfl, Nat.le_of_ble_eq_true rfl⟩ hl.1 rfl (Nat.le_of_ble_eq_true rfl) dX8_readLand_21) hP (fun u_21 H locs h hP => ?_)
  refine lv_aload_n hx hb dX8_readLand_24 rfl (lv_at hl 0 rfl) ?_
  refine lv_iconst (v := (0 : Int32)) hx hb dX8_readLand_25 (by decide) ?_
  refine q_putI C hP (k := 4) tyX8_ok nmX8 (lay_X8 C.hA) rfl (by decide) rfl rfl (nb01 (by decide)) (fb01 (by decide)) g1 (fl_X8_41 C.hA) dX8_readLand_26 (fun H locs hP => ?_)
  obtain ⟨u_26, eu_26, hP⟩ := Hp.nm hP
  have h := h u_26 eu_26
  refine lv_aload_n hx hb dX8_readLand_29 rfl (lv_at hl 0 rfl) ?_
  refine lv_iconst (v := (0 : Int32)) hx hb dX8_readLand_30 (by decide) ?_
  refine q_putI C hP (k := 5) tyX8_ok nmX8 (lay_X8 C.hA) rfl (by decide) rfl rfl (nb01 (by decide)) (fb01 (by decide)) g1 (fl_X8_45 C.hA) dX8_readLand_31 (fun H locs hP => ?_)
  obtain ⟨u_31, eu_31, hP⟩ := Hp.nm hP
  have h := h u_31 eu_31
  refine lv_aload_n hx hb dX8_readLand_34 rfl (lv_at hl 0 rfl) ?_
  refine lv_iconst (v := (0 : Int32)) hx hb dX8_readLand_35 (by decide) ?_
  refine q_putI C hP (k := 10) tyX8_ok nmX8 (lay_X8 C.hA) rfl (by decide) rfl rfl rfl rfl g1 (fl_X8_48 C.hA) dX8_readLand_36 (fun H locs hP => ?_)
  obtain ⟨u_36, eu_36, hP⟩ := Hp.nm hP
  have h := h u_36 eu_36
  refine lv_aload_n hx hb dX8_readLand_39 rfl (lv_at hl 0 rfl) ?_
  refine lv_iconst (v := (-1 : Int32)) hx hb dX8_readLand_40 (by decide) ?_
  refine q_putI C hP (k := 11) tyX8_ok nmX8 (lay_X8 C.hA) rfl (by decide) rfl rfl rfl rfl g1 (fl_X8_22 C.hA) dX8_readLand_41 (fun H locs hP => ?_)
  obtain ⟨u_41, eu_41, hP⟩ := Hp.nm hP
  have h := h u_41 eu_41
  refine lv_aload_n hx hb dX8_readLand_44 rfl (lv_at hl 0 rfl) ?_
  refine lv_iconst (v := (0 : Int32)) hx hb dX8_readLand_45 (by decide) ?_
  refine q_putI C hP (k := 8) tyX8_ok nmX8 (lay_X8 C.hA) rfl (by decide) rfl rfl rfl rfl g1 (fl_X8_51 C.hA) dX8_readLand_46 (fun H locs hP => ?_)
  obtain ⟨u_46, eu_46, hP⟩ := Hp.nm hP
  have h := h u_46 eu_46
  refine lv_aload_n hx hb dX8_readLand_49 rfl (lv_at hl 0 rfl) ?_
  refine q_calv (q_runV C hP (c_X8_takeToken h) (cd_X8_takeToken C.hA) (ini_X8 C.hA) (ml_X8_54 C.hA) (im_X8_takeToken C.hA) (sl_X8_takeToken C.hA) g1 (by decide) rfl hd_X8_takeToken ⟨rfl, rfl⟩ ⟨Nat.le_of_ble_eq_true rfl, Nat.le_of_ble_eq_true rfl⟩ ⟨Nat.le_of_ble_eq_true rfl, Nat.le_of_ble_eq_true rfl⟩ hl.1 rfl (Nat.le_of_ble_eq_true rfl) dX8_readLand_50) hP (fun u_50 H locs h hP => ?_)
  refine lv_iconst (v := (0 : Int32)) hx hb dX8_readLand_53 (by decide) ?_
  refine lv_istore_n (lv' := [(2, .int (0 : Int32)), (0, .ref p0), (1, .int p1)]) hx hb dX8_readLand_54 rfl hl (by decide) rfl (fun ls hl => ?_)
  obtain ⟨n, h⟩ := h
  exact l_X8_readLand_55 C hr hlk n p0 (0 : Int32) u_50 _ _ _ h (lv_sub hl [1, 0] rfl) hP
-- X8_exchange
abbrev rm_X8_exchange : Room := { frames := 0, cells := 0, slots := 0, locals := 0 }
theorem hd_X8_exchange : yX8_exchange.cls ≠ "java/lang/invoke/MethodHandle" ∧ yX8_exchange.cls ≠ "java/lang/invoke/VarHandle" ∧ (parseMethodDescriptor yX8_exchange.desc).map (fun d => d.parameters.length) = some 1 := by decide +kernel
def V_X8_exchange (G : Gx) (p0 : Nat) (p1 : Nat) (u : Mm) (Q : Nat → Mm → Prop) : Prop :=
  kd G p0 = 8 ∧ (gR u p0 3) ≠ 0 ∧ ∀ x2_4 : Nat, x2_4 = (gR u p0 3) → p1 ≠ 0 ∧ ∀ u_7 : Mm, u_7 = sR u p0 3 p1 → Q x2_4 u_7
set_option maxHeartbeats 4000000 in
set_option maxRecDepth 100000 in
theorem c_X8_exchange {l : Launch} {G : Gx} {p0 : Nat} {p1 : Nat} {u : Mm} {Q : Nat → Mm → Prop} (h : V_X8_exchange G p0 p1 u Q) : Met l yX8_exchange [.code yX8_exchange cX8_exchange 3 (some (.object "ClapValley$Land"))] rm_X8_exchange (va_Pc [.ref p0, .ref p1] (Wd G u)) (Er G Q) 0 0 (ag G) := by
  refine q_met (by decide) (Nat.le_of_ble_eq_true rfl) ?_
  intro p e s m below meth c ls C hr hlk hnm hl hP
  have hl : lv_has ls 3 [(0, .ref p0), (1, .ref p1)] := hl
  generalize ([.ref p0, .ref p1] : List Value).toArray = args
  have hx := C.1
  have hb := C.2.1
  unfold V_X8_exchange at h
  refine lv_aload_n hx hb dX8_exchange_0 rfl (lv_at hl 0 rfl) ?_
  obtain ⟨g1, h⟩ := h
  obtain ⟨g2, h⟩ := h
  refine q_getR C hP (k := 3) (lay_X8 C.hA) rfl (by decide) g1 g2 (fl_X8_18 C.hA) dX8_exchange_1 ?_
  refine q_topr (fun x2_4 ex2_4 => ?_)
  have h := h x2_4 ex2_4
  refine lv_astore_n (lv' := [(2, .ref x2_4), (0, .ref p0), (1, .ref p1)]) hx hb dX8_exchange_4 rfl hl (by decide) rfl (fun ls hl => ?_)
  refine lv_aload_n hx hb dX8_exchange_5 rfl (lv_at hl 1 rfl) ?_
  refine lv_aload_n hx hb dX8_exchange_6 rfl (lv_at hl 2 rfl) ?_
  obtain ⟨g3, h⟩ := h
  refine q_putR C hP (k := 3) tyX8_ok nmX8 (lay_X8 C.hA) rfl (by decide) rfl rfl rfl rfl g1 g3 (fl_X8_18 C.hA) dX8_exchange_7 (fun H locs hP => ?_)
  obtain ⟨u_7, eu_7, hP⟩ := Hp.nm hP
  have h := h u_7 eu_7
  refine lv_aload_n hx hb dX8_exchange_10 rfl (lv_at hl 0 rfl) ?_
  exact q_aret C hr hlk hP h (by decide) (by decide) dX8_exchange_11
