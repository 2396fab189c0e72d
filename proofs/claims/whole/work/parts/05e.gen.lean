-- X5_tickOf
abbrev rm_X5_tickOf : Room := { frames := 1, cells := 0, slots := 0, locals := 24 }
theorem hd_X5_tickOf : yX5_tickOf.cls ≠ "java/lang/invoke/MethodHandle" ∧ yX5_tickOf.cls ≠ "java/lang/invoke/VarHandle" ∧ (parseMethodDescriptor yX5_tickOf.desc).map (fun d => d.parameters.length) = some 2 := by decide +kernel
def V_X5_tickOf_24 (G : Gx) (Q : Int32 → Mm → Prop) (x0 : Nat) (t0 : Int32) (u : Mm) : Prop :=
  ∀ x3_27 : Int32, x3_27 = (ab t0) → ((x3_27 = 0 → Q (-1 : Int32) u) ∧ (¬ x3_27 = 0 → V_X11_wayRoot G (((4 : Int32) * x3_27) * x3_27) u (fun (v_41 : Int32) (u_41 : Mm) => kd G x0 = 5 ∧ V_X11_byAir G v_41 (gI u_41 x0 0) u_41 (fun (v_48 : Int32) (u_48 : Mm) => Q v_48 u_48))))
def V_X5_tickOf (G : Gx) (p0 : Nat) (p1 : Int32) (p2 : Nat) (u : Mm) (Q : Int32 → Mm → Prop) : Prop :=
  (((41 : Int32) ≤ p1 → kd G p2 = 7 ∧ V_X5_tickOf_24 G Q p0 ((gI u p2 1) - (p1 - (41 : Int32))) u) ∧ (¬ (41 : Int32) ≤ p1 → kd G p2 = 7 ∧ V_X5_tickOf_24 G Q p0 ((gI u p2 0) - p1) u))
set_option maxHeartbeats 4000000 in
set_option maxRecDepth 100000 in
theorem b_X5_tickOf_24 {G : Gx} {Q : Int32 → Mm → Prop} {p : Program} {l : Launch} {e : Env} {s : State} {m : MethodId} {args : Array Value} {below : List Frame} {meth : Method} {c : Code} (C : Cx G p s m c cX5_tickOf RX5 4) (hr : meth.sig.returnType = (some .int)) (hlk : meth.locks = false) {x0 : Nat} {t0 : Int32} {u : Mm} {H : Heap} {locs : List Loc} {ls : Array Slot} (h : V_X5_tickOf_24 G Q x0 t0 u) (hl : lv_has ls 4 [(0, .ref x0)]) (hP : Hp G u s H locs) : W p l e rm_X5_tickOf s m args below meth c H locs 0 0 (MQ below (Ei G Q) args s 0 0 (ag G)) (F0 m 24 ls [.int t0]) := by
  have hx := C.1
  have hb := C.2.1
  unfold V_X5_tickOf_24 at h
  refine va_mabs hx hb (C.2.2.2.1.trans hl.1.symm) C.2.2.1 (ml_X5_63 C.hA) (st_J9_abs_0f7a4 C.hA) (ini_J9 C.hA) (cd_J9_abs_0f7a4 C.hA) (Nat.le_of_ble_eq_true rfl) (Nat.le_of_ble_eq_true rfl) (Nat.le_of_ble_eq_true rfl) (Nat.le_of_ble_eq_true rfl) dX5_tickOf_24 ?_
  refine lv_topi (fun x3_27 ex3_27 => ?_)
  have h := h x3_27 ex3_27
  refine lv_istore_n (lv' := [(3, .int x3_27), (0, .ref x0)]) hx hb dX5_tickOf_27 rfl hl (by decide) rfl (fun ls hl => ?_)
  refine lv_iload_n hx hb dX5_tickOf_28 rfl (lv_at hl 0 rfl) ?_
  refine lv_if_ne (tgt := 36) hx hb dX5_tickOf_29 (by decide) (fun c29 => ?_) (fun c29 => ?_)
  · have h := h.2 c29
    refine lv_iconst (v := (4 : Int32)) hx hb dX5_tickOf_36 (by decide) ?_
    refine lv_iload_n hx hb dX5_tickOf_37 rfl (lv_at hl 0 rfl) ?_
    refine lv_imul hx hb dX5_tickOf_38 ?_
    refine lv_iload_n hx hb dX5_tickOf_39 rfl (lv_at hl 0 rfl) ?_
    refine lv_imul hx hb dX5_tickOf_40 ?_
    refine q_cali (q_runSN C hP (c_X11_wayRoot h) (cd_X11_wayRoot C.hA) (ini_X11 C.hA) (mn_X5_69 C.hA) (st_X11_wayRoot C.hA) hd_X11_wayRoot ⟨rfl, rfl⟩ ⟨Nat.le_of_ble_eq_true rfl, Nat.le_of_ble_eq_true rfl⟩ ⟨Nat.le_of_ble_eq_true rfl, Nat.le_of_ble_eq_true rfl⟩ hl.1 rfl (Nat.le_of_ble_eq_true rfl) dX5_tickOf_41) hP (fun v_41 u_41 H locs h hP => ?_)
    refine lv_aload_n hx hb dX5_tickOf_44 rfl (lv_at hl 1 rfl) ?_
    obtain ⟨g1, h⟩ := h
    refine q_getI C hP (k := 0) (lay_X5 C.hA) rfl (by decide) g1 (fl_X5_21 C.hA) dX5_tickOf_45 ?_
    refine q_cali (q_runSN C hP (c_X11_byAir h) (cd_X11_byAir C.hA) (ini_X11 C.hA) (mn_X5_72 C.hA) (st_X11_byAir C.hA) hd_X11_byAir ⟨rfl, rfl⟩ ⟨Nat.le_of_ble_eq_true rfl, Nat.le_of_ble_eq_true rfl⟩ ⟨Nat.le_of_ble_eq_true rfl, Nat.le_of_ble_eq_true rfl⟩ hl.1 rfl (Nat.le_of_ble_eq_true rfl) dX5_tickOf_48) hP (fun v_48 u_48 H locs h hP => ?_)
    exact q_iret C hr hlk hP h (by decide) (by decide) dX5_tickOf_51
  · have h := h.1 c29
    refine lv_iconst (v := (-1 : Int32)) hx hb dX5_tickOf_32 (by decide) ?_
    refine lv_goto (tgt := 51) hx hb dX5_tickOf_33 (by decide) ?_
    exact q_iret C hr hlk hP h (by decide) (by decide) dX5_tickOf_51
set_option maxHeartbeats 4000000 in
set_option maxRecDepth 100000 in
theorem c_X5_tickOf {l : Launch} {G : Gx} {p0 : Nat} {p1 : Int32} {p2 : Nat} {u : Mm} {Q : Int32 → Mm → Prop} (h : V_X5_tickOf G p0 p1 p2 u Q) : Met l yX5_tickOf [.code yX5_tickOf cX5_tickOf 4 (some .int)] rm_X5_tickOf (va_Pc [.ref p0, .int p1, .ref p2] (Wd G u)) (Ei G Q) 0 0 (ag G) := by
  refine q_met (by decide) (Nat.le_of_ble_eq_true rfl) ?_
  intro p e s m below meth c ls C hr hlk hnm hl hP
  have hl : lv_has ls 4 [(0, .ref p0), (1, .int p1), (2, .ref p2)] := hl
  generalize ([.ref p0, .int p1, .ref p2] : List Value).toArray = args
  have hx := C.1
  have hb := C.2.1
  unfold V_X5_tickOf at h
  refine lv_iload_n hx hb dX5_tickOf_0 rfl (lv_at hl 1 rfl) ?_
  refine lv_bipush (v := (41 : Int32)) hx hb dX5_tickOf_1 (by decide) ?_
  refine lv_icmp_ge (tgt := 15) hx hb dX5_tickOf_3 (by decide) (fun c3 => ?_) (fun c3 => ?_)
  · have h := h.1 c3
    refine lv_aload_n hx hb dX5_tickOf_15 rfl (lv_at hl 2 rfl) ?_
    obtain ⟨g1, h⟩ := h
    refine q_getIN C hP (k := 1) (lay_X7 C.hA) rfl (by decide) g1 (fn_X5_60 C.hA) dX5_tickOf_16 ?_
    refine lv_iload_n hx hb dX5_tickOf_19 rfl (lv_at hl 1 rfl) ?_
    refine lv_bipush (v := (41 : Int32)) hx hb dX5_tickOf_20 (by decide) ?_
    refine lv_isub hx hb dX5_tickOf_22 ?_
    refine lv_isub hx hb dX5_tickOf_23 ?_
    exact b_X5_tickOf_24 C hr hlk h (lv_sub hl [0] rfl) hP
  · have h := h.2 c3
    refine lv_aload_n hx hb dX5_tickOf_6 rfl (lv_at hl 2 rfl) ?_
    obtain ⟨g2, h⟩ := h
    refine q_getIN C hP (k := 0) (lay_X7 C.hA) rfl (by decide) g2 (fn_X5_57 C.hA) dX5_tickOf_7 ?_
    refine lv_iload_n hx hb dX5_tickOf_10 rfl (lv_at hl 1 rfl) ?_
    refine lv_isub hx hb dX5_tickOf_11 ?_
    refine lv_goto (tgt := 24) hx hb dX5_tickOf_12 (by decide) ?_
    exact b_X5_tickOf_24 C hr hlk h (lv_sub hl [0] rfl) hP
-- X5_isWritten
abbrev rm_X5_isWritten : Room := { frames := 0, cells := 0, slots := 0, locals := 0 }
theorem hd_X5_isWritten : yX5_isWritten.cls ≠ "java/lang/invoke/MethodHandle" ∧ yX5_isWritten.cls ≠ "java/lang/invoke/VarHandle" ∧ (parseMethodDescriptor yX5_isWritten.desc).map (fun d => d.parameters.length) = some 2 := by decide +kernel
def V_X5_isWritten_2_B (G : Gx) (Q : Int32 → Mm → Prop) (k_2 : Int32 → Nat → Int32 → Mm → Prop) (x0 : Int32) (x1 : Nat) (x2 : Int32) (u : Mm) : Prop :=
  kd G x1 = 7 ∧ (((gI u x1 4) ≤ x2 → Q (0 : Int32) u) ∧ (¬ (gI u x1 4) ≤ x2 → (gR u x1 5) ≠ 0 ∧ kd G (gR u x1 5) = 13 ∧ vp_in x2 (ln G (gR u x1 5)) ∧ (((gI u (gR u x1 5) x2.toNatClampNeg) = x0 → Q (1 : Int32) u) ∧ (¬ (gI u (gR u x1 5) x2.toNatClampNeg) = x0 → ∀ x2_22 : Int32, x2_22 = x2 + (1 : Int32) → k_2 x0 x1 x2_22 u))))
def V_X5_isWritten_2 (G : Gx) (Q : Int32 → Mm → Prop) : Nat → (Int32 → Nat → Int32 → Mm → Prop)
  | 0 => fun _ _ _ _ => False
  | n + 1 => fun x0 x1 x2 u => V_X5_isWritten_2_B G Q (V_X5_isWritten_2 G Q n) x0 x1 x2 u
def V_X5_isWritten (G : Gx) (p0 : Int32) (p1 : Nat) (u : Mm) (Q : Int32 → Mm → Prop) : Prop :=
  ∃ n : Nat, V_X5_isWritten_2 G Q n p0 p1 (0 : Int32) u
set_option maxHeartbeats 4000000 in
set_option maxRecDepth 100000 in
theorem b_X5_isWritten_2 {G : Gx} {Q : Int32 → Mm → Prop} {p : Program} {l : Launch} {e : Env} {s : State} {m : MethodId} {args : Array Value} {below : List Frame} {meth : Method} {c : Code} (C : Cx G p s m c cX5_isWritten RX5 3) (hr : meth.sig.returnType = (some .boolean)) (hlk : meth.locks = false) {k_2 : Int32 → Nat → Int32 → Mm → Prop} (hk_2 : ∀ (x0 : Int32) (x1 : Nat) (x2 : Int32) (u : Mm) (H : Heap) (locs : List Loc) (ls : Array Slot), k_2 x0 x1 x2 u → lv_has ls 3 [(0, .int x0), (1, .ref x1), (2, .int x2)] → Hp G u s H locs → W p l e rm_X5_isWritten s m args below meth c H locs 0 0 (MQ below (Ei G Q) args s 0 0 (ag G)) (F0 m 2 ls [])) {x0 : Int32} {x1 : Nat} {x2 : Int32} {u : Mm} {H : Heap} {locs : List Loc} {ls : Array Slot} (h : V_X5_isWritten_2_B G Q k_2 x0 x1 x2 u) (hl : lv_has ls 3 [(0, .int x0), (1, .ref x1), (2, .int x2)]) (hP : Hp G u s H locs) : W p l e rm_X5_isWritten s m args below meth c H locs 0 0 (MQ below (Ei G Q) args s 0 0 (ag G)) (F0 m 2 ls []) := by
  have hx := C.1
  have hb := C.2.1
  unfold V_X5_isWritten_2_B at h
  refine lv_iload_n hx hb dX5_isWritten_2 rfl (lv_at hl 2 rfl) ?_
  refine lv_aload_n hx hb dX5_isWritten_3 rfl (lv_at hl 1 rfl) ?_
  obtain ⟨g1, h⟩ := h
  refine q_getIN C hP (k := 4) (lay_X7 C.hA) rfl (by decide) g1 (fn_X5_37 C.hA) dX5_isWritten_4 ?_
  refine lv_icmp_ge (tgt := 28) hx hb dX5_isWritten_7 (by decide) (fun c7 => ?_) (fun c7 => ?_)
  · have h := h.1 c7
    refine lv_iconst (v := (0 : Int32)) hx hb dX5_isWritten_28 (by decide) ?_
    exact q_zret C hr hlk hP (by decide) h (by decide) (by decide) dX5_isWritten_29
  · have h := h.2 c7
    refine lv_aload_n hx hb dX5_isWritten_10 rfl (lv_at hl 1 rfl) ?_
    obtain ⟨g2, h⟩ := h
    refine q_getRN C hP (k := 5) (lay_X7 C.hA) rfl (by decide) g1 g2 (fn_X5_54 C.hA) dX5_isWritten_11 ?_
    refine lv_iload_n hx hb dX5_isWritten_14 rfl (lv_at hl 2 rfl) ?_
    obtain ⟨g3, h⟩ := h
    obtain ⟨g4, h⟩ := h
    refine q_iald C hP g3 g4 dX5_isWritten_15 ?_
    refine lv_iload_n hx hb dX5_isWritten_16 rfl (lv_at hl 0 rfl) ?_
    refine lv_icmp_ne (tgt := 22) hx hb dX5_isWritten_17 (by decide) (fun c17 => ?_) (fun c17 => ?_)
    · have h := h.2 c17
      obtain ⟨x2_22, ex2_22⟩ : ∃ y : Int32, y = x2 + (1 : Int32) := ⟨_, rfl⟩
      have h := h x2_22 ex2_22
      refine lv_iinc (v := x2_22) (lv' := [(2, .int x2_22), (0, .int x0), (1, .ref x1)]) hx hb dX5_isWritten_22 hl (k := 2) rfl (by rw [ex2_22]; rfl) (by decide) rfl (fun ls hl => ?_)
      refine lv_goto (tgt := 2) hx hb dX5_isWritten_25 (by decide) ?_
      exact hk_2 x0 x1 x2_22 u _ _ _ h (lv_sub hl [1, 2, 0] rfl) hP
    · have h := h.1 c17
      refine lv_iconst (v := (1 : Int32)) hx hb dX5_isWritten_20 (by decide) ?_
      exact q_zret C hr hlk hP (by decide) h (by decide) (by decide) dX5_isWritten_21
theorem l_X5_isWritten_2 {G : Gx} {Q : Int32 → Mm → Prop} {p : Program} {l : Launch} {e : Env} {s : State} {m : MethodId} {args : Array Value} {below : List Frame} {meth : Method} {c : Code} (C : Cx G p s m c cX5_isWritten RX5 3) (hr : meth.sig.returnType = (some .boolean)) (hlk : meth.locks = false) : ∀ (n : Nat) (x0 : Int32) (x1 : Nat) (x2 : Int32) (u : Mm) (H : Heap) (locs : List Loc) (ls : Array Slot), V_X5_isWritten_2 G Q n x0 x1 x2 u → lv_has ls 3 [(0, .int x0), (1, .ref x1), (2, .int x2)] → Hp G u s H locs → W p l e rm_X5_isWritten s m args below meth c H locs 0 0 (MQ below (Ei G Q) args s 0 0 (ag G)) (F0 m 2 ls []) := by
  intro n
  induction n with
  | zero => intro x0 x1 x2 u H locs ls h; exact h.elim
  | succ n ih => intro x0 x1 x2 u H locs ls h hl hP; exact b_X5_isWritten_2 C hr hlk ih h hl hP
set_option maxHeartbeats 4000000 in
set_option maxRecDepth 100000 in
theorem c_X5_isWritten {l : Launch} {G : Gx} {p0 : Int32} {p1 : Nat} {u : Mm} {Q : Int32 → Mm → Prop} (h : V_X5_isWritten G p0 p1 u Q) : Met l yX5_isWritten [.code yX5_isWritten cX5_isWritten 3 (some .boolean)] rm_X5_isWritten (va_Pc [.int p0, .ref p1] (Wd G u)) (Ei G Q) 0 0 (ag G) := by
  refine q_met (by decide) (Nat.le_of_ble_eq_true rfl) ?_
  intro p e s m below meth c ls C hr hlk hnm hl hP
  have hl : lv_has ls 3 [(0, .int p0), (1, .ref p1)] := hl
  generalize ([.int p0, .ref p1] : List Value).toArray = args
  have hx := C.1
  have hb := C.2.1
  unfold V_X5_isWritten at h
  refine lv_iconst (v := (0 : Int32)) hx hb dX5_isWritten_0 (by decide) ?_
  refine lv_istore_n (lv' := [(2, .int (0 : Int32)), (0, .int p0), (1, .ref p1)]) hx hb dX5_isWritten_1 rfl hl (by decide) rfl (fun ls hl => ?_)
  obtain ⟨n, h⟩ := h
  exact l_X5_isWritten_2 C hr hlk n p0 p1 (0 : Int32) u _ _ _ h (lv_sub hl [1, 2, 0] rfl) hP
-- X5_isAllowed
abbrev rm_X5_isAllowed : Room := { frames := 2, cells := 0, slots := 0, locals := 47 }
theorem hd_X5_isAllowed : yX5_isAllowed.cls ≠ "java/lang/invoke/MethodHandle" ∧ yX5_isAllowed.cls ≠ "java/lang/invoke/VarHandle" ∧ (parseMethodDescriptor yX5_isAllowed.desc).map (fun d => d.parameters.length) = some 2 := by decide +kernel
def V_X5_isAllowed_45 (G : Gx) (Q : Int32 → Mm → Prop) (k_2 : Nat → Int32 → Nat → Int32 → Mm → Prop) (x0 : Nat) (x1 : Int32) (x2 : Nat) (x3 : Int32) (u : Mm) : Prop :=
  ∀ x3_45 : Int32, x3_45 = x3 + (1 : Int32) → k_2 x0 x1 x2 x3_45 u
def V_X5_isAllowed_2_B (G : Gx) (Q : Int32 → Mm → Prop) (k_2 : Nat → Int32 → Nat → Int32 → Mm → Prop) (x0 : Nat) (x1 : Int32) (x2 : Nat) (x3 : Int32) (u : Mm) : Prop :=
  kd G x2 = 1 ∧ (((gI u x2 7) ≤ x3 → Q (1 : Int32) u) ∧ (¬ (gI u x2 7) ≤ x3 → (gR u x2 6) ≠ 0 ∧ kd G (gR u x2 6) = 21 ∧ vp_in x3 (ln G (gR u x2 6)) ∧ (gR u (gR u x2 6) x3.toNatClampNeg) ≠ 0 ∧ kd G x0 = 5 ∧ V_X5_tickOf G x0 x1 (gR u (gR u x2 6) x3.toNatClampNeg) u (fun (v_18 : Int32) (u_18 : Mm) => ((v_18 = (-1 : Int32) → V_X5_isAllowed_45 G Q k_2 x0 x1 x2 x3 u_18) ∧ (¬ v_18 = (-1 : Int32) → (gR u_18 x2 6) ≠ 0 ∧ kd G (gR u_18 x2 6) = 21 ∧ vp_in x3 (ln G (gR u_18 x2 6)) ∧ (gR u_18 (gR u_18 x2 6) x3.toNatClampNeg) ≠ 0 ∧ V_X5_isWritten G v_18 (gR u_18 (gR u_18 x2 6) x3.toNatClampNeg) u_18 (fun (v_37 : Int32) (u_37 : Mm) => ((v_37 = 0 → Q (0 : Int32) u_37) ∧ (¬ v_37 = 0 → V_X5_isAllowed_45 G Q k_2 x0 x1 x2 x3 u_37))))))))
def V_X5_isAllowed_2 (G : Gx) (Q : Int32 → Mm → Prop) : Nat → (Nat → Int32 → Nat → Int32 → Mm → Prop)
  | 0 => fun _ _ _ _ _ => False
  | n + 1 => fun x0 x1 x2 x3 u => V_X5_isAllowed_2_B G Q (V_X5_isAllowed_2 G Q n) x0 x1 x2 x3 u
def V_X5_isAllowed (G : Gx) (p0 : Nat) (p1 : Int32) (p2 : Nat) (u : Mm) (Q : Int32 → Mm → Prop) : Prop :=
  ∃ n : Nat, V_X5_isAllowed_2 G Q n p0 p1 p2 (0 : Int32) u
set_option maxHeartbeats 4000000 in
set_option maxRecDepth 100000 in
theorem b_X5_isAllowed_45 {G : Gx} {Q : Int32 → Mm → Prop} {p : Program} {l : Launch} {e : Env} {s : State} {m : MethodId} {args : Array Value} {below : List Frame} {meth : Method} {c : Code} (C : Cx G p s m c cX5_isAllowed RX5 5) (hr : meth.sig.returnType = (some .boolean)) (hlk : meth.locks = false) {k_2 : Nat → Int32 → Nat → Int32 → Mm → Prop} (hk_2 : ∀ (x0 : Nat) (x1 : Int32) (x2 : Nat) (x3 : Int32) (u : Mm) (H : Heap) (locs : List Loc) (ls : Array Slot), k_2 x0 x1 x2 x3 u → lv_has ls 5 [(0, .ref x0), (1, .int x1), (2, .ref x2), (3, .int x3)] → Hp G u s H locs → W p l e rm_X5_isAllowed s m args below meth c H locs 0 0 (MQ below (Ei G Q) args s 0 0 (ag G)) (F0 m 2 ls [])) {x0 : Nat} {x1 : Int32} {x2 : Nat} {x3 : Int32} {u : Mm} {H : Heap} {locs : List Loc} {ls : Array Slot} (h : V_X5_isAllowed_45 G Q k_2 x0 x1 x2 x3 u) (hl : lv_has ls 5 [(0, .ref x0), (1, .int x1), (2, .ref x2), (3, .int x3)]) (hP : Hp G u s H locs) : W p l e rm_X5_isAllowed s m args below meth c H locs 0 0 (MQ below (Ei G Q) args s 0 0 (ag G)) (F0 m 45 ls []) := by
  have hx := C.1
  have hb := C.2.1
  unfold V_X5_isAllowed_45 at h
  obtain ⟨x3_45, ex3_45⟩ : ∃ y : Int32, y = x3 + (1 : Int32) := ⟨_, rfl⟩
  have h := h x3_45 ex3_45
  refine lv_iinc (v := x3_45) (lv' := [(3, .int x3_45), (0, .ref x0), (1, .int x1), (2, .ref x2)]) hx hb dX5_isAllowed_45 hl (k := 3) rfl (by rw [ex3_45]; rfl) (by decide) rfl (fun ls hl => ?_)
  refine lv_goto (tgt := 2) hx hb dX5_isAllowed_48 (by decide) ?_
  exact hk_2 x0 x1 x2 x3_45 u _ _ _ h (lv_sub hl [1, 2, 3, 0] rfl) hP
set_option maxHeartbeats 4000000 in
set_option maxRecDepth 100000 in
theorem b_X5_isAllowed_2 {G : Gx} {Q : Int32 → Mm → Prop} {p : Program} {l : Launch} {e : Env} {s : State} {m : MethodId} {args : Array Value} {below : List Frame} {meth : Method} {c : Code} (C : Cx G p s m c cX5_isAllowed RX5 5) (hr : meth.sig.returnType = (some .boolean)) (hlk : meth.locks = false) {k_2 : Nat → Int32 → Nat → Int32 → Mm → Prop} (hk_2 : ∀ (x0 : Nat) (x1 : Int32) (x2 : Nat) (x3 : Int32) (u : Mm) (H : Heap) (locs : List Loc) (ls : Array Slot), k_2 x0 x1 x2 x3 u → lv_has ls 5 [(0, .ref x0), (1, .int x1), (2, .ref x2), (3, .int x3)] → Hp G u s H locs → W p l e rm_X5_isAllowed s m args below meth c H locs 0 0 (MQ below (Ei G Q) args s 0 0 (ag G)) (F0 m 2 ls [])) {x0 : Nat} {x1 : Int32} {x2 : Nat} {x3 : Int32} {u : Mm} {H : Heap} {locs : List Loc} {ls : Array Slot} (h : V_X5_isAllowed_2_B G Q k_2 x0 x1 x2 x3 u) (hl : lv_has ls 5 [(0, .ref x0), (1, .int x1), (2, .ref x2), (3, .int x3)]) (hP : Hp G u s H locs) : W p l e rm_X5_isAllowed s m args below meth c H locs 0 0 (MQ below (Ei G Q) args s 0 0 (ag G)) (F0 m 2 ls []) := by
  have hx := C.1
  have hb := C.2.1
  unfold V_X5_isAllowed_2_B at h
  refine lv_iload_n hx hb dX5_isAllowed_2 rfl (lv_at hl 3 rfl) ?_
  refine lv_aload_n hx hb dX5_isAllowed_3 rfl (lv_at hl 2 rfl) ?_
  obtain ⟨g1, h⟩ := h
  refine q_getIN C hP (k := 7) (lay_X1 C.hA) rfl (by decide) g1 (fn_X5_28 C.hA) dX5_isAllowed_4 ?_
  refine lv_icmp_ge (tgt := 51) hx hb dX5_isAllowed_7 (by decide) (fun c7 => ?_) (fun c7 => ?_)
  · have h := h.1 c7
    refine lv_iconst (v := (1 : Int32)) hx hb dX5_isAllowed_51 (by decide) ?_
    exact q_zret C hr hlk hP (by decide) h (by decide) (by decide) dX5_isAllowed_52
  · have h := h.2 c7
    refine lv_aload_n hx hb dX5_isAllowed_10 rfl (lv_at hl 0 rfl) ?_
    refine lv_iload_n hx hb dX5_isAllowed_11 rfl (lv_at hl 1 rfl) ?_
    refine lv_aload_n hx hb dX5_isAllowed_12 rfl (lv_at hl 2 rfl) ?_
    obtain ⟨g2, h⟩ := h
    refine q_getRN C hP (k := 6) (lay_X1 C.hA) rfl (by decide) g1 g2 (fn_X5_33 C.hA) dX5_isAllowed_13 ?_
    refine lv_iload_n hx hb dX5_isAllowed_16 rfl (lv_at hl 3 rfl) ?_
    obtain ⟨g3, h⟩ := h
    obtain ⟨g4, h⟩ := h
    obtain ⟨g5, h⟩ := h
    refine q_aald C hP g3 (by decide) rfl g4 g5 dX5_isAllowed_17 ?_
    obtain ⟨g6, h⟩ := h
    refine q_cali (q_runV C hP (c_X5_tickOf h) (cd_X5_tickOf C.hA) (ini_X5 C.hA) (ml_X5_46 C.hA) (im_X5_tickOf C.hA) (sl_X5_tickOf C.hA) g6 (by decide) rfl hd_X5_tickOf ⟨rfl, rfl⟩ ⟨Nat.le_of_ble_eq_true rfl, Nat.le_of_ble_eq_true rfl⟩ ⟨Nat.le_of_ble_eq_true rfl, Nat.le_of_ble_eq_true rfl⟩ hl.1 rfl (Nat.le_of_ble_eq_true rfl) dX5_isAllowed_18) hP (fun v_18 u_18 H locs h hP => ?_)
    refine lv_istore (lv' := [(4, .int v_18), (0, .ref x0), (1, .int x1), (2, .ref x2), (3, .int x3)]) hx hb dX5_isAllowed_21 hl (by decide) rfl (fun ls hl => ?_)
    refine lv_iload hx hb dX5_isAllowed_23 (lv_at hl 0 rfl) ?_
    refine lv_iconst (v := (-1 : Int32)) hx hb dX5_isAllowed_25 (by decide) ?_
    refine lv_icmp_eq (tgt := 45) hx hb dX5_isAllowed_26 (by decide) (fun c26 => ?_) (fun c26 => ?_)
    · have h := h.1 c26
      exact b_X5_isAllowed_45 C hr hlk hk_2 h (lv_sub hl [1, 2, 3, 4] rfl) hP
    · have h := h.2 c26
      refine lv_iload hx hb dX5_isAllowed_29 (lv_at hl 0 rfl) ?_
      refine lv_aload_n hx hb dX5_isAllowed_31 rfl (lv_at hl 3 rfl) ?_
      obtain ⟨g7, h⟩ := h
      refine q_getRN C hP (k := 6) (lay_X1 C.hA) rfl (by decide) g1 g7 (fn_X5_33 C.hA) dX5_isAllowed_32 ?_
      refine lv_iload_n hx hb dX5_isAllowed_35 rfl (lv_at hl 4 rfl) ?_
      obtain ⟨g8, h⟩ := h
      obtain ⟨g9, h⟩ := h
      obtain ⟨g10, h⟩ := h
      refine q_aald C hP g8 (by decide) rfl g9 g10 dX5_isAllowed_36 ?_
      refine q_cali (q_runS C hP (c_X5_isWritten h) (cd_X5_isWritten C.hA) (ini_X5 C.hA) (ml_X5_50 C.hA) (st_X5_isWritten C.hA) hd_X5_isWritten ⟨rfl, rfl⟩ ⟨Nat.le_of_ble_eq_true rfl, Nat.le_of_ble_eq_true rfl⟩ ⟨Nat.le_of_ble_eq_true rfl, Nat.le_of_ble_eq_true rfl⟩ hl.1 rfl (Nat.le_of_ble_eq_true rfl) dX5_isAllowed_37) hP (fun v_37 u_37 H locs h hP => ?_)
      refine lv_if_ne (tgt := 45) hx hb dX5_isAllowed_40 (by decide) (fun c40 => ?_) (fun c40 => ?_)
      · have h := h.2 c40
        exact b_X5_isAllowed_45 C hr hlk hk_2 h (lv_sub hl [1, 2, 3, 4] rfl) hP
      · have h := h.1 c40
        refine lv_iconst (v := (0 : Int32)) hx hb dX5_isAllowed_43 (by decide) ?_
        exact q_zret C hr hlk hP (by decide) h (by decide) (by decide) dX5_isAllowed_44
theorem l_X5_isAllowed_2 {G : Gx} {Q : Int32 → Mm → Prop} {p : Program} {l : Launch} {e : Env} {s : State} {m : MethodId} {args : Array Value} {below : List Frame} {meth : Method} {c : Code} (C : Cx G p s m c cX5_isAllowed RX5 5) (hr : meth.sig.returnType = (some .boolean)) (hlk : meth.locks = false) : ∀ (n : Nat) (x0 : Nat) (x1 : Int32) (x2 : Nat) (x3 : Int32) (u : Mm) (H : Heap) (locs : List Loc) (ls : Array Slot), V_X5_isAllowed_2 G Q n x0 x1 x2 x3 u → lv_has ls 5 [(0, .ref x0), (1, .int x1), (2, .ref x2), (3, .int x3)] → Hp G u s H locs → W p l e rm_X5_isAllowed s m args below meth c H locs 0 0 (MQ below (Ei G Q) args s 0 0 (ag G)) (F0 m 2 ls []) := by
  intro n
  induction n with
  | zero => intro x0 x1 x2 x3 u H locs ls h; exact h.elim
  | succ n ih => intro x0 x1 x2 x3 u H locs ls h hl hP; exact b_X5_isAllowed_2 C hr hlk ih h hl hP
set_option maxHeartbeats 4000000 in
set_option maxRecDepth 100000 in
theorem c_X5_isAllowed {l : Launch} {G : Gx} {p0 : Nat} {p1 : Int32} {p2 : Nat} {u : Mm} {Q : Int32 → Mm → Prop} (h : V_X5_isAllowed G p0 p1 p2 u Q) : Met l yX5_isAllowed [.code yX5_isAllowed cX5_isAllowed 5 (some .boolean)] rm_X5_isAllowed (va_Pc [.ref p0, .int p1, .ref p2] (Wd G u)) (Ei G Q) 0 0 (ag G) := by
  refine q_met (by decide) (Nat.le_of_ble_eq_true rfl) ?_
  intro p e s m below meth c ls C hr hlk hnm hl hP
  have hl : lv_has ls 5 [(0, .ref p0), (1, .int p1), (2, .ref p2)] := hl
  generalize ([.ref p0, .int p1, .ref p2] : List Value).toArray = args
  have hx := C.1
  have hb := C.2.1
  unfold V_X5_isAllowed at h
  refine lv_iconst (v := (0 : Int32)) hx hb dX5_isAllowed_0 (by decide) ?_
  refine lv_istore_n (lv' := [(3, .int (0 : Int32)), (0, .ref p0), (1, .int p1), (2, .ref p2)]) hx hb dX5_isAllowed_1 rfl hl (by decide) rfl (fun ls hl => ?_)
  obtain ⟨n, h⟩ := h
  exact l_X5_isAllowed_2 C hr hlk n p0 p1 p2 (0 : Int32) u _ _ _ h (lv_sub hl [1, 2, 3, 0] rfl) hP
-- X5_prepare
abbrev rm_X5_prepare : Room := { frames := 3, cells := 0, slots := 0, locals := 71 }
theorem hd_X5_prepare : yX5_prepare.cls ≠ "java/lang/invoke/MethodHandle" ∧ yX5_prepare.cls ≠ "java/lang/invoke/VarHandle" ∧ (parseMethodDescriptor yX5_prepare.desc).map (fun d => d.parameters.length) = some 2 := by decide +kernel
def V_X5_prepare_77 (G : Gx) (Q : Mm → Prop) (k_42 : Nat → Nat → Int32 → Mm → Prop) (x0 : Nat) (x1 : Nat) (x3 : Int32) (u : Mm) : Prop :=
  ∀ x3_77 : Int32, x3_77 = x3 + (1 : Int32) → k_42 x0 x1 x3_77 u
def V_X5_prepare_42_B (G : Gx) (Q : Mm → Prop) (k_42 : Nat → Nat → Int32 → Mm → Prop) (x0 : Nat) (x1 : Nat) (x3 : Int32) (u : Mm) : Prop :=
  (((82 : Int32) ≤ x3 → Q u) ∧ (¬ (82 : Int32) ≤ x3 → kd G x0 = 5 ∧ V_X5_isAllowed G x0 x3 x1 u (fun (v_51 : Int32) (u_51 : Mm) => ((v_51 = 0 → V_X5_prepare_77 G Q k_42 x0 x1 x3 u_51) ∧ (¬ v_51 = 0 → (gR u_51 x0 1) ≠ 0 ∧ kd G (gR u_51 x0 1) = 13 ∧ vp_in (gI u_51 x0 2) (ln G (gR u_51 x0 1)) ∧ ∀ u_66 : Mm, u_66 = sI u_51 (gR u_51 x0 1) (gI u_51 x0 2).toNatClampNeg x3 → ∀ u_74 : Mm, u_74 = sI u_66 x0 2 ((gI u_66 x0 2) + (1 : Int32)) → V_X5_prepare_77 G Q k_42 x0 x1 x3 u_74)))))
def V_X5_prepare_42 (G : Gx) (Q : Mm → Prop) : Nat → (Nat → Nat → Int32 → Mm → Prop)
  | 0 => fun _ _ _ _ => False
  | n + 1 => fun x0 x1 x3 u => V_X5_prepare_42_B G Q (V_X5_prepare_42 G Q n) x0 x1 x3 u
def V_X5_prepare_12_B (G : Gx) (Q : Mm → Prop) (k_12 : Nat → Nat → Int32 → Mm → Prop) (x0 : Nat) (x1 : Nat) (x3 : Int32) (u : Mm) : Prop :=
  kd G x1 = 1 ∧ (((gI u x1 7) ≤ x3 → ∃ n : Nat, V_X5_prepare_42 G Q n x0 x1 (0 : Int32) u) ∧ (¬ (gI u x1 7) ≤ x3 → (gR u x1 6) ≠ 0 ∧ kd G (gR u x1 6) = 21 ∧ vp_in x3 (ln G (gR u x1 6)) ∧ (gR u (gR u x1 6) x3.toNatClampNeg) ≠ 0 ∧ kd G (gR u (gR u x1 6) x3.toNatClampNeg) = 7 ∧ (((gI u (gR u (gR u x1 6) x3.toNatClampNeg) 4) ≤ (3 : Int32) → ∀ x3_34 : Int32, x3_34 = x3 + (1 : Int32) → k_12 x0 x1 x3_34 u) ∧ (¬ (gI u (gR u (gR u x1 6) x3.toNatClampNeg) 4) ≤ (3 : Int32) → Q u))))
def V_X5_prepare_12 (G : Gx) (Q : Mm → Prop) : Nat → (Nat → Nat → Int32 → Mm → Prop)
  | 0 => fun _ _ _ _ => False
  | n + 1 => fun x0 x1 x3 u => V_X5_prepare_12_B G Q (V_X5_prepare_12 G Q n) x0 x1 x3 u
def V_X5_prepare (G : Gx) (p0 : Nat) (p1 : Nat) (p2 : Int32) (u : Mm) (Q : Mm → Prop) : Prop :=
  kd G p0 = 5 ∧ ∀ u_2 : Mm, u_2 = sI u p0 0 p2 → ∀ u_7 : Mm, u_7 = sI u_2 p0 2 (0 : Int32) → ∃ n : Nat, V_X5_prepare_12 G Q n p0 p1 (0 : Int32) u_7
set_option maxHeartbeats 4000000 in
set_option maxRecDepth 100000 in
theorem b_X5_prepare_77 {G : Gx} {Q : Mm → Prop} {p : Program} {l : Launch} {e : Env} {s : State} {m : MethodId} {args : Array Value} {below : List Frame} {meth : Method} {c : Code} (C : Cx G p s m c cX5_prepare RX5 4) (hr : meth.sig.returnType = none) (hlk : meth.locks = false) {k_42 : Nat → Nat → Int32 → Mm → Prop} (hk_42 : ∀ (x0 : Nat) (x1 : Nat) (x3 : Int32) (u : Mm) (H : Heap) (locs : List Loc) (ls : Array Slot), k_42 x0 x1 x3 u → lv_has ls 4 [(0, .ref x0), (1, .ref x1), (3, .int x3)] → Hp G u s H locs → W p l e rm_X5_prepare s m args below meth c H locs 0 0 (MQ below (Ev G Q) args s 0 0 (ag G)) (F0 m 42 ls [])) {x0 : Nat} {x1 : Nat} {x3 : Int32} {u : Mm} {H : Heap} {locs : List Loc} {ls : Array Slot} (h : V_X5_prepare_77 G Q k_42 x0 x1 x3 u) (hl : lv_has ls 4 [(0, .ref x0), (1, .ref x1), (3, .int x3)]) (hP : Hp G u s H locs) : W p l e rm_X5_prepare s m args below meth c H locs 0 0 (MQ below (Ev G Q) args s 0 0 (ag G)) (F0 m 77 ls []) := by
  have hx := C.1
  have hb := C.2.1
  unfold V_X5_prepare_77 at h
  obtain ⟨x3_77, ex3_77⟩ : ∃ y : Int32, y = x3 + (1 : Int32) := ⟨_, rfl⟩
  have h := h x3_77 ex3_77
  refine lv_iinc (v := x3_77) (lv' := [(3, .int x3_77), (0, .ref x0), (1, .ref x1)]) hx hb dX5_prepare_77 hl (k := 2) rfl (by rw [ex3_77]; rfl) (by decide) rfl (fun ls hl => ?_)
  refine lv_goto (tgt := 42) hx hb dX5_prepare_80 (by decide) ?_
  exact hk_42 x0 x1 x3_77 u _ _ _ h (lv_sub hl [1, 2, 0] rfl) hP
set_option maxHeartbeats 4000000 in
set_option maxRecDepth 100000 in
theorem b_X5_prepare_42 {G : Gx} {Q : Mm → Prop} {p : Program} {l : Launch} {e : Env} {s : State} {m : MethodId} {args : Array Value} {below : List Frame} {meth : Method} {c : Code} (C : Cx G p s m c cX5_prepare RX5 4) (hr : meth.sig.returnType = none) (hlk : meth.locks = false) {k_42 : Nat → Nat → Int32 → Mm → Prop} (hk_42 : ∀ (x0 : Nat) (x1 : Nat) (x3 : Int32) (u : Mm) (H : Heap) (locs : List Loc) (ls : Array Slot), k_42 x0 x1 x3 u → lv_has ls 4 [(0, .ref x0), (1, .ref x1), (3, .int x3)] → Hp G u s H locs → W p l e rm_X5_prepare s m args below meth c H locs 0 0 (MQ below (Ev G Q) args s 0 0 (ag G)) (F0 m 42 ls [])) {x0 : Nat} {x1 : Nat} {x3 : Int32} {u : Mm} {H : Heap} {locs : List Loc} {ls : Array Slot} (h : V_X5_prepare_42_B G Q k_42 x0 x1 x3 u) (hl : lv_has ls 4 [(0, .ref x0), (1, .ref x1), (3, .int x3)]) (hP : Hp G u s H locs) : W p l e rm_X5_prepare s m args below meth c H locs 0 0 (MQ below (Ev G Q) args s 0 0 (ag G)) (F0 m 42 ls []) := by
  have hx := C.1
  have hb := C.2.1
  unfold V_X5_prepare_42_B at h
  refine lv_iload_n hx hb dX5_prepare_42 rfl (lv_at hl 2 rfl) ?_
  refine lv_bipush (v := (82 : Int32)) hx hb dX5_prepare_43 (by decide) ?_
  refine lv_icmp_ge (tgt := 83) hx hb dX5_prepare_45 (by decide) (fun c45 => ?_) (fun c45 => ?_)
  · have h := h.1 c45
    exact q_vret C hr hlk hP h (by decide) (by decide) dX5_prepare_83
  · have h := h.2 c45
    refine lv_aload_n hx hb dX5_prepare_48 rfl (lv_at hl 0 rfl) ?_
    refine lv_iload_n hx hb dX5_prepare_49 rfl (lv_at hl 2 rfl) ?_
    refine lv_aload_n hx hb dX5_prepare_50 rfl (lv_at hl 1 rfl) ?_
    obtain ⟨g1, h⟩ := h
    refine q_cali (q_runV C hP (c_X5_isAllowed h) (cd_X5_isAllowed C.hA) (ini_X5 C.hA) (ml_X5_42 C.hA) (im_X5_isAllowed C.hA) (sl_X5_isAllowed C.hA) g1 (by decide) rfl hd_X5_isAllowed ⟨rfl, rfl⟩ ⟨Nat.le_of_ble_eq_true rfl, Nat.le_of_ble_eq_true rfl⟩ ⟨Nat.le_of_ble_eq_true rfl, Nat.le_of_ble_eq_true rfl⟩ hl.1 rfl (Nat.le_of_ble_eq_true rfl) dX5_prepare_51) hP (fun v_51 u_51 H locs h hP => ?_)
    refine lv_if_eq (tgt := 77) hx hb dX5_prepare_54 (by decide) (fun c54 => ?_) (fun c54 => ?_)
    · have h := h.1 c54
      exact b_X5_prepare_77 C hr hlk hk_42 h (lv_sub hl [0, 1, 2] rfl) hP
    · have h := h.2 c54
      refine lv_aload_n hx hb dX5_prepare_57 rfl (lv_at hl 0 rfl) ?_
      obtain ⟨g2, h⟩ := h
      refine q_getR C hP (k := 1) (lay_X5 C.hA) rfl (by decide) g1 g2 (fl_X5_11 C.hA) dX5_prepare_58 ?_
      refine lv_aload_n hx hb dX5_prepare_61 rfl (lv_at hl 0 rfl) ?_
      refine q_getI C hP (k := 2) (lay_X5 C.hA) rfl (by decide) g1 (fl_X5_25 C.hA) dX5_prepare_62 ?_
      refine lv_iload_n hx hb dX5_prepare_65 rfl (lv_at hl 2 rfl) ?_
      obtain ⟨g3, h⟩ := h
      obtain ⟨g4, h⟩ := h
      refine q_iast C hP g3 g4 dX5_prepare_66 (fun H locs hP => ?_)
      obtain ⟨u_66, eu_66, hP⟩ := Hp.nm hP
      have h := h u_66 eu_66
      refine lv_aload_n hx hb dX5_prepare_67 rfl (lv_at hl 0 rfl) ?_
      refine lv_dup hx hb dX5_prepare_68 rfl ?_
      refine q_getI C hP (k := 2) (lay_X5 C.hA) rfl (by decide) g1 (fl_X5_25 C.hA) dX5_prepare_69 ?_
      refine lv_iconst (v := (1 : Int32)) hx hb dX5_prepare_72 (by decide) ?_
      refine lv_iadd hx hb dX5_prepare_73 ?_
      refine q_putI C hP (k := 2) tyX5_ok nmX5 (lay_X5 C.hA) rfl (by decide) rfl rfl rfl rfl g1 (fl_X5_25 C.hA) dX5_prepare_74 (fun H locs hP => ?_)
      obtain ⟨u_74, eu_74, hP⟩ := Hp.nm hP
      have h := h u_74 eu_74
      exact b_X5_prepare_77 C hr hlk hk_42 h (lv_sub hl [0, 1, 2] rfl) hP
theorem l_X5_prepare_42 {G : Gx} {Q : Mm → Prop} {p : Program} {l : Launch} {e : Env} {s : State} {m : MethodId} {args : Array Value} {below : List Frame} {meth : Method} {c : Code} (C : Cx G p s m c cX5_prepare RX5 4) (hr : meth.sig.returnType = none) (hlk : meth.locks = false) : ∀ (n : Nat) (x0 : Nat) (x1 : Nat) (x3 : Int32) (u : Mm) (H : Heap) (locs : List Loc) (ls : Array Slot), V_X5_prepare_42 G Q n x0 x1 x3 u → lv_has ls 4 [(0, .ref x0), (1, .ref x1), (3, .int x3)] → Hp G u s H locs → W p l e rm_X5_prepare s m args below meth c H locs 0 0 (MQ below (Ev G Q) args s 0 0 (ag G)) (F0 m 42 ls []) := by
  intro n
  induction n with
  | zero => intro x0 x1 x3 u H locs ls h; exact h.elim
  | succ n ih => intro x0 x1 x3 u H locs ls h hl hP; exact b_X5_prepare_42 C hr hlk ih h hl hP
set_option maxHeartbeats 4000000 in
set_option maxRecDepth 100000 in
theorem b_X5_prepare_12 {G : Gx} {Q : Mm → Prop} {p : Program} {l : Launch} {e : Env} {s : State} {m : MethodId} {args : Array Value} {below : List Frame} {meth : Method} {c : Code} (C : Cx G p s m c cX5_prepare RX5 4) (hr : meth.sig.returnType = none) (hlk : meth.locks = false) {k_12 : Nat → Nat → Int32 → Mm → Prop} (hk_12 : ∀ (x0 : Nat) (x1 : Nat) (x3 : Int32) (u : Mm) (H : Heap) (locs : List Loc) (ls : Array Slot), k_12 x0 x1 x3 u → lv_has ls 4 [(0, .ref x0), (1, .ref x1), (3, .int x3)] → Hp G u s H locs → W p l e rm_X5_prepare s m args below meth c H locs 0 0 (MQ below (Ev G Q) args s 0 0 (ag G)) (F0 m 12 ls [])) {x0 : Nat} {x1 : Nat} {x3 : Int32} {u : Mm} {H : Heap} {locs : List Loc} {ls : Array Slot} (h : V_X5_prepare_12_B G Q k_12 x0 x1 x3 u) (hl : lv_has ls 4 [(0, .ref x0), (1, .ref x1), (3, .int x3)]) (hP : Hp G u s H locs) : W p l e rm_X5_prepare s m args below meth c H locs 0 0 (MQ below (Ev G Q) args s 0 0 (ag G)) (F0 m 12 ls []) := by
  have hx := C.1
  have hb := C.2.1
  unfold V_X5_prepare_12_B at h
  refine lv_iload_n hx hb dX5_prepare_12 rfl (lv_at hl 2 rfl) ?_
  refine lv_aload_n hx hb dX5_prepare_13 rfl (lv_at hl 1 rfl) ?_
  obtain ⟨g1, h⟩ := h
  refine q_getIN C hP (k := 7) (lay_X1 C.hA) rfl (by decide) g1 (fn_X5_28 C.hA) dX5_prepare_14 ?_
  refine lv_icmp_ge (tgt := 40) hx hb dX5_prepare_17 (by decide) (fun c17 => ?_) (fun c17 => ?_)
  · have h := h.1 c17
    refine lv_iconst (v := (0 : Int32)) hx hb dX5_prepare_40 (by decide) ?_
    refine lv_istore_n (lv' := [(3, .int (0 : Int32)), (0, .ref x0), (1, .ref x1)]) hx hb dX5_prepare_41 rfl hl (by decide) rfl (fun ls hl => ?_)
    obtain ⟨n, h⟩ := h
    exact l_X5_prepare_42 C hr hlk n x0 x1 (0 : Int32) u _ _ _ h (lv_sub hl [1, 2, 0] rfl) hP
  · have h := h.2 c17
    refine lv_aload_n hx hb dX5_prepare_20 rfl (lv_at hl 1 rfl) ?_
    obtain ⟨g2, h⟩ := h
    refine q_getRN C hP (k := 6) (lay_X1 C.hA) rfl (by decide) g1 g2 (fn_X5_33 C.hA) dX5_prepare_21 ?_
    refine lv_iload_n hx hb dX5_prepare_24 rfl (lv_at hl 2 rfl) ?_
    obtain ⟨g3, h⟩ := h
    obtain ⟨g4, h⟩ := h
    obtain ⟨g5, h⟩ := h
    refine q_aald C hP g3 (by decide) rfl g4 g5 dX5_prepare_25 ?_
    obtain ⟨g6, h⟩ := h
    refine q_getIN C hP (k := 4) (lay_X7 C.hA) rfl (by decide) g6 (fn_X5_37 C.hA) dX5_prepare_26 ?_
    refine lv_iconst (v := (3 : Int32)) hx hb dX5_prepare_29 (by decide) ?_
    refine lv_icmp_le (tgt := 34) hx hb dX5_prepare_30 (by decide) (fun c30 => ?_) (fun c30 => ?_)
    · have h := h.1 c30
      obtain ⟨x3_34, ex3_34⟩ : ∃ y : Int32, y = x3 + (1 : Int32) := ⟨_, rfl⟩
      have h := h x3_34 ex3_34
      refine lv_iinc (v := x3_34) (lv' := [(3, .int x3_34), (0, .ref x0), (1, .ref x1)]) hx hb dX5_prepare_34 hl (k := 2) rfl (by rw [ex3_34]; rfl) (by decide) rfl (fun ls hl => ?_)
      refine lv_goto (tgt := 12) hx hb dX5_prepare_37 (by decide) ?_
      exact hk_12 x0 x1 x3_34 u _ _ _ h (lv_sub hl [1, 2, 0] rfl) hP
    · have h := h.2 c30
      exact q_vret C hr hlk hP h (by decide) (by decide) dX5_prepare_33
theorem l_X5_prepare_12 {G : Gx} {Q : Mm → Prop} {p : Program} {l : Launch} {e : Env} {s : State} {m : MethodId} {args : Array Value} {below : List Frame} {meth : Method} {c : Code} (C : Cx G p s m c cX5_prepare RX5 4) (hr : meth.sig.returnType = none) (hlk : meth.locks = false) : ∀ (n : Nat) (x0 : Nat) (x1 : Nat) (x3 : Int32) (u : Mm) (H : Heap) (locs : List Loc) (ls : Array Slot), V_X5_prepare_12 G Q n x0 x1 x3 u → lv_has ls 4 [(0, .ref x0), (1, .ref x1), (3, .int x3)] → Hp G u s H locs → W p l e rm_X5_prepare s m args below meth c H locs 0 0 (MQ below (Ev G Q) args s 0 0 (ag G)) (F0 m 12 ls []) := by
  intro n
  induction n with
  | zero => intro x0 x1 x3 u H locs ls h; exact h.elim
  | succ n ih => intro x0 x1 x3 u H locs ls h hl hP; exact b_X5_prepare_12 C hr hlk ih h hl hP
set_option maxHeartbeats 4000000 in
set_option maxRecDepth 100000 in
theorem c_X5_prepare {l : Launch} {G : Gx} {p0 : Nat} {p1 : Nat} {p2 : Int32} {u : Mm} {Q : Mm → Prop} (h : V_X5_prepare G p0 p1 p2 u Q) : Met l yX5_prepare [.code yX5_prepare cX5_prepare 4 none] rm_X5_prepare (va_Pc [.ref p0, .ref p1, .int p2] (Wd G u)) (Ev G Q) 0 0 (ag G) := by
  refine q_met (by decide) (Nat.le_of_ble_eq_true rfl) ?_
  intro p e s m below meth c ls C hr hlk hnm hl hP
  have hl : lv_has ls 4 [(0, .ref p0), (1, .ref p1), (2, .int p2)] := hl
  generalize ([.ref p0, .ref p1, .int p2] : List Value).toArray = args
  have hx := C.1
  have hb := C.2.1
  unfold V_X5_prepare at h
  refine lv_aload_n hx hb dX5_prepare_0 rfl (lv_at hl 0 rfl) ?_
  refine lv_iload_n hx hb dX5_prepare_1 rfl (lv_at hl 2 rfl) ?_
  obtain ⟨g1, h⟩ := h
  refine q_putI C hP (k := 0) tyX5_ok nmX5 (lay_X5 C.hA) rfl (by decide) rfl rfl rfl rfl g1 (fl_X5_21 C.hA) dX5_prepare_2 (fun H locs hP => ?_)
  obtain ⟨u_2, eu_2, hP⟩ := Hp.nm hP
  have h := h u_2 eu_2
  refine lv_aload_n hx hb dX5_prepare_5 rfl (lv_at hl 0 rfl) ?_
  refine lv_iconst (v := (0 : Int32)) hx hb dX5_prepare_6 (by decide) ?_
  refine q_putI C hP (k := 2) tyX5_ok nmX5 (lay_X5 C.hA) rfl (by decide) rfl rfl rfl rfl g1 (fl_X5_25 C.hA) dX5_prepare_7 (fun H locs hP => ?_)
  obtain ⟨u_7, eu_7, hP⟩ := Hp.nm hP
  have h := h u_7 eu_7
  refine lv_iconst (v := (0 : Int32)) hx hb dX5_prepare_10 (by decide) ?_
  refine lv_istore_n (lv' := [(3, .int (0 : Int32)), (0, .ref p0), (1, .ref p1), (2, .int p2)]) hx hb dX5_prepare_11 rfl hl (by decide) rfl (fun ls hl => ?_)
  obtain ⟨n, h⟩ := h
  exact l_X5_prepare_12 C hr hlk n p0 p1 (0 : Int32) u_7 _ _ _ h (lv_sub hl [1, 2, 0] rfl) hP
-- X5_agrees
abbrev rm_X5_agrees : Room := { frames := 2, cells := 0, slots := 0, locals := 47 }
theorem hd_X5_agrees : yX5_agrees.cls ≠ "java/lang/invoke/MethodHandle" ∧ yX5_agrees.cls ≠ "java/lang/invoke/VarHandle" ∧ (parseMethodDescriptor yX5_agrees.desc).map (fun d => d.parameters.length) = some 1 := by decide +kernel
def V_X5_agrees_55 (G : Gx) (Q : Int32 → Mm → Prop) (k_4 : Nat → Nat → Int32 → Int32 → Mm → Prop) (x0 : Nat) (x1 : Nat) (x2 : Int32) (x3 : Int32) (u : Mm) : Prop :=
  ∀ x3_55 : Int32, x3_55 = x3 + (1 : Int32) → k_4 x0 x1 x2 x3_55 u
def V_X5_agrees_34 (G : Gx) (Q : Int32 → Mm → Prop) (k_4 : Nat → Nat → Int32 → Int32 → Mm → Prop) (x0 : Nat) (x1 : Nat) (x2 : Int32) (x3 : Int32) (t0 : Int32) (u : Mm) : Prop :=
  ((t0 = (-1 : Int32) → V_X5_agrees_55 G Q k_4 x0 x1 x2 x3 u) ∧ (¬ t0 = (-1 : Int32) → kd G x0 = 5 ∧ (gR u x0 4) ≠ 0 ∧ V_X11_insert G (gR u x0 4) x2 t0 u (fun (u_49 : Mm) => ∀ x2_52 : Int32, x2_52 = x2 + (1 : Int32) → V_X5_agrees_55 G Q k_4 x0 x1 x2_52 x3 u_49)))
def V_X5_agrees_4_B (G : Gx) (Q : Int32 → Mm → Prop) (k_4 : Nat → Nat → Int32 → Int32 → Mm → Prop) (x0 : Nat) (x1 : Nat) (x2 : Int32) (x3 : Int32) (u : Mm) : Prop :=
  (((3 : Int32) ≤ x3 → kd G x1 = 7 ∧ ((x2 = (gI u x1 4) → kd G x0 = 5 ∧ (gR u x0 4) ≠ 0 ∧ (gR u x1 6) ≠ 0 ∧ V_X11_sameStart G (gR u x0 4) (gR u x1 6) x2 u (fun (v_78 : Int32) (u_78 : Mm) => ((v_78 = 0 → Q (0 : Int32) u_78) ∧ (¬ v_78 = 0 → Q (1 : Int32) u_78)))) ∧ (¬ x2 = (gI u x1 4) → Q (0 : Int32) u))) ∧ (¬ (3 : Int32) ≤ x3 → kd G x0 = 5 ∧ (gR u x0 3) ≠ 0 ∧ kd G (gR u x0 3) = 13 ∧ vp_in x3 (ln G (gR u x0 3)) ∧ (((gI u (gR u x0 3) x3.toNatClampNeg) = (-1 : Int32) → V_X5_agrees_34 G Q k_4 x0 x1 x2 x3 (-1 : Int32) u) ∧ (¬ (gI u (gR u x0 3) x3.toNatClampNeg) = (-1 : Int32) → V_X5_tickOf G x0 (gI u (gR u x0 3) x3.toNatClampNeg) x1 u (fun (v_31 : Int32) (u_31 : Mm) => V_X5_agrees_34 G Q k_4 x0 x1 x2 x3 v_31 u_31)))))
def V_X5_agrees_4 (G : Gx) (Q : Int32 → Mm → Prop) : Nat → (Nat → Nat → Int32 → Int32 → Mm → Prop)
  | 0 => fun _ _ _ _ _ => False
  | n + 1 => fun x0 x1 x2 x3 u => V_X5_agrees_4_B G Q (V_X5_agrees_4 G Q n) x0 x1 x2 x3 u
def V_X5_agrees (G : Gx) (p0 : Nat) (p1 : Nat) (u : Mm) (Q : Int32 → Mm → Prop) : Prop :=
  ∃ n : Nat, V_X5_agrees_4 G Q n p0 p1 (0 : Int32) (0 : Int32) u
set_option maxHeartbeats 4000000 in
set_option maxRecDepth 100000 in
theorem b_X5_agrees_55 {G : Gx} {Q : Int32 → Mm → Prop} {p : Program} {l : Launch} {e : Env} {s : State} {m : MethodId} {args : Array Value} {below : List Frame} {meth : Method} {c : Code} (C : Cx G p s m c cX5_agrees RX5 5) (hr : meth.sig.returnType = (some .boolean)) (hlk : meth.locks = false) {k_4 : Nat → Nat → Int32 → Int32 → Mm → Prop} (hk_4 : ∀ (x0 : Nat) (x1 : Nat) (x2 : Int32) (x3 : Int32) (u : Mm) (H : Heap) (locs : List Loc) (ls : Array Slot), k_4 x0 x1 x2 x3 u → lv_has ls 5 [(0, .ref x0), (1, .ref x1), (2, .int x2), (3, .int x3)] → Hp G u s H locs → W p l e rm_X5_agrees s m args below meth c H locs 0 0 (MQ below (Ei G Q) args s 0 0 (ag G)) (F0 m 4 ls [])) {x0 : Nat} {x1 : Nat} {x2 : Int32} {x3 : Int32} {u : Mm} {H : Heap} {locs : List Loc} {ls : Array Slot} (h : V_X5_agrees_55 G Q k_4 x0 x1 x2 x3 u) (hl : lv_has ls 5 [(0, .ref x0), (1, .ref x1), (2, .int x2), (3, .int x3)]) (hP : Hp G u s H locs) : W p l e rm_X5_agrees s m args below meth c H locs 0 0 (MQ below (Ei G Q) args s 0 0 (ag G)) (F0 m 55 ls []) := by
  have hx := C.1
  have hb := C.2.1
  unfold V_X5_agrees_55 at h
  obtain ⟨x3_55, ex3_55⟩ : ∃ y : Int32, y = x3 + (1 : Int32) := ⟨_, rfl⟩
  have h := h x3_55 ex3_55
  refine lv_iinc (v := x3_55) (lv' := [(3, .int x3_55), (0, .ref x0), (1, .ref x1), (2, .int x2)]) hx hb dX5_agrees_55 hl (k := 3) rfl (by rw [ex3_55]; rfl) (by decide) rfl (fun ls hl => ?_)
  refine lv_goto (tgt := 4) hx hb dX5_agrees_58 (by decide) ?_
  exact hk_4 x0 x1 x2 x3_55 u _ _ _ h (lv_sub hl [1, 2, 3, 0] rfl) hP
set_option maxHeartbeats 4000000 in
set_option maxRecDepth 100000 in
theorem b_X5_agrees_34 {G : Gx} {Q : Int32 → Mm → Prop} {p : Program} {l : Launch} {e : Env} {s : State} {m : MethodId} {args : Array Value} {below : List Frame} {meth : Method} {c : Code} (C : Cx G p s m c cX5_agrees RX5 5) (hr : meth.sig.returnType = (some .boolean)) (hlk : meth.locks = false) {k_4 : Nat → Nat → Int32 → Int32 → Mm → Prop} (hk_4 : ∀ (x0 : Nat) (x1 : Nat) (x2 : Int32) (x3 : Int32) (u : Mm) (H : Heap) (locs : List Loc) (ls : Array Slot), k_4 x0 x1 x2 x3 u → lv_has ls 5 [(0, .ref x0), (1, .ref x1), (2, .int x2), (3, .int x3)] → Hp G u s H locs → W p l e rm_X5_agrees s m args below meth c H locs 0 0 (MQ below (Ei G Q) args s 0 0 (ag G)) (F0 m 4 ls [])) {x0 : Nat} {x1 : Nat} {x2 : Int32} {x3 : Int32} {t0 : Int32} {u : Mm} {H : Heap} {locs : List Loc} {ls : Array Slot} (h : V_X5_agrees_34 G Q k_4 x0 x1 x2 x3 t0 u) (hl : lv_has ls 5 [(0, .ref x0), (1, .ref x1), (2, .int x2), (3, .int x3)]) (hP : Hp G u s H locs) : W p l e rm_X5_agrees s m args below meth c H locs 0 0 (MQ below (Ei G Q) args s 0 0 (ag G)) (F0 m 34 ls [.int t0]) := by
  have hx := C.1
  have hb := C.2.1
  unfold V_X5_agrees_34 at h
  refine lv_istore (lv' := [(4, .int t0), (0, .ref x0), (1, .ref x1), (2, .int x2), (3, .int x3)]) hx hb dX5_agrees_34 hl (by decide) rfl (fun ls hl => ?_)
  refine lv_iload hx hb dX5_agrees_36 (lv_at hl 0 rfl) ?_
  refine lv_iconst (v := (-1 : Int32)) hx hb dX5_agrees_38 (by decide) ?_
  refine lv_icmp_eq (tgt := 55) hx hb dX5_agrees_39 (by decide) (fun c39 => ?_) (fun c39 => ?_)
  · have h := h.1 c39
    exact b_X5_agrees_55 C hr hlk hk_4 h (lv_sub hl [1, 2, 3, 4] rfl) hP
  · have h := h.2 c39
    refine lv_aload_n hx hb dX5_agrees_42 rfl (lv_at hl 1 rfl) ?_
    obtain ⟨g1, h⟩ := h
    obtain ⟨g2, h⟩ := h
    refine q_getR C hP (k := 4) (lay_X5 C.hA) rfl (by decide) g1 g2 (fl_X5_18 C.hA) dX5_agrees_43 ?_
    refine lv_iload_n hx hb dX5_agrees_46 rfl (lv_at hl 3 rfl) ?_
    refine lv_iload hx hb dX5_agrees_47 (lv_at hl 0 rfl) ?_
    refine q_calv (q_runSN C hP (c_X11_insert h) (cd_X11_insert C.hA) (ini_X11 C.hA) (mn_X5_93 C.hA) (st_X11_insert C.hA) hd_X11_insert ⟨rfl, rfl⟩ ⟨Nat.le_of_ble_eq_true rfl, Nat.le_of_ble_eq_true rfl⟩ ⟨Nat.le_of_ble_eq_true rfl, Nat.le_of_ble_eq_true rfl⟩ hl.1 rfl (Nat.le_of_ble_eq_true rfl) dX5_agrees_49) hP (fun u_49 H locs h hP => ?_)
    obtain ⟨x2_52, ex2_52⟩ : ∃ y : Int32, y = x2 + (1 : Int32) := ⟨_, rfl⟩
    have h := h x2_52 ex2_52
    refine lv_iinc (v := x2_52) (lv' := [(2, .int x2_52), (4, .int t0), (0, .ref x0), (1, .ref x1), (3, .int x3)]) hx hb dX5_agrees_52 hl (k := 3) rfl (by rw [ex2_52]; rfl) (by decide) rfl (fun ls hl => ?_)
    exact b_X5_agrees_55 C hr hlk hk_4 h (lv_sub hl [2, 3, 0, 4] rfl) hP
set_option maxHeartbeats 4000000 in
set_option maxRecDepth 100000 in
theorem b_X5_agrees_4 {G : Gx} {Q : Int32 → Mm → Prop} {p : Program} {l : Launch} {e : Env} {s : State} {m : MethodId} {args : Array Value} {below : List Frame} {meth : Method} {c : Code} (C : Cx G p s m c cX5_agrees RX5 5) (hr : meth.sig.returnType = (some .boolean)) (hlk : meth.locks = false) {k_4 : Nat → Nat → Int32 → Int32 → Mm → Prop} (hk_4 : ∀ (x0 : Nat) (x1 : Nat) (x2 : Int32) (x3 : Int32) (u : Mm) (H : Heap) (locs : List Loc) (ls : Array Slot), k_4 x0 x1 x2 x3 u → lv_has ls 5 [(0, .ref x0), (1, .ref x1), (2, .int x2), (3, .int x3)] → Hp G u s H locs → W p l e rm_X5_agrees s m args below meth c H locs 0 0 (MQ below (Ei G Q) args s 0 0 (ag G)) (F0 m 4 ls [])) {x0 : Nat} {x1 : Nat} {x2 : Int32} {x3 : Int32} {u : Mm} {H : Heap} {locs : List Loc} {ls : Array Slot} (h : V_X5_agrees_4_B G Q k_4 x0 x1 x2 x3 u) (hl : lv_has ls 5 [(0, .ref x0), (1, .ref x1), (2, .int x2), (3, .int x3)]) (hP : Hp G u s H locs) : W p l e rm_X5_agrees s m args below meth c H locs 0 0 (MQ below (Ei G Q) args s 0 0 (ag G)) (F0 m 4 ls []) := by
  have hx := C.1
  have hb := C.2.1
  unfold V_X5_agrees_4_B at h
  refine lv_iload_n hx hb dX5_agrees_4 rfl (lv_at hl 3 rfl) ?_
  refine lv_iconst (v := (3 : Int32)) hx hb dX5_agrees_5 (by decide) ?_
  refine lv_icmp_ge (tgt := 61) hx hb dX5_agrees_6 (by decide) (fun c6 => ?_) (fun c6 => ?_)
  · have h := h.1 c6
    refine lv_iload_n hx hb dX5_agrees_61 rfl (lv_at hl 2 rfl) ?_
    refine lv_aload_n hx hb dX5_agrees_62 rfl (lv_at hl 1 rfl) ?_
    obtain ⟨g1, h⟩ := h
    refine q_getIN C hP (k := 4) (lay_X7 C.hA) rfl (by decide) g1 (fn_X5_37 C.hA) dX5_agrees_63 ?_
    refine lv_icmp_ne (tgt := 88) hx hb dX5_agrees_66 (by decide) (fun c66 => ?_) (fun c66 => ?_)
    · have h := h.2 c66
      refine lv_iconst (v := (0 : Int32)) hx hb dX5_agrees_88 (by decide) ?_
      exact q_zret C hr hlk hP (by decide) h (by decide) (by decide) dX5_agrees_89
    · have h := h.1 c66
      refine lv_aload_n hx hb dX5_agrees_69 rfl (lv_at hl 0 rfl) ?_
      obtain ⟨g2, h⟩ := h
      obtain ⟨g3, h⟩ := h
      refine q_getR C hP (k := 4) (lay_X5 C.hA) rfl (by decide) g2 g3 (fl_X5_18 C.hA) dX5_agrees_70 ?_
      refine lv_aload_n hx hb dX5_agrees_73 rfl (lv_at hl 1 rfl) ?_
      obtain ⟨g4, h⟩ := h
      refine q_getRN C hP (k := 6) (lay_X7 C.hA) rfl (by decide) g1 g4 (fn_X5_97 C.hA) dX5_agrees_74 ?_
      refine lv_iload_n hx hb dX5_agrees_77 rfl (lv_at hl 2 rfl) ?_
      refine q_cali (q_runSN C hP (c_X11_sameStart h) (cd_X11_sameStart C.hA) (ini_X11 C.hA) (mn_X5_100 C.hA) (st_X11_sameStart C.hA) hd_X11_sameStart ⟨rfl, rfl⟩ ⟨Nat.le_of_ble_eq_true rfl, Nat.le_of_ble_eq_true rfl⟩ ⟨Nat.le_of_ble_eq_true rfl, Nat.le_of_ble_eq_true rfl⟩ hl.1 rfl (Nat.le_of_ble_eq_true rfl) dX5_agrees_78) hP (fun v_78 u_78 H locs h hP => ?_)
      refine lv_if_eq (tgt := 88) hx hb dX5_agrees_81 (by decide) (fun c81 => ?_) (fun c81 => ?_)
      · have h := h.1 c81
        refine lv_iconst (v := (0 : Int32)) hx hb dX5_agrees_88 (by decide) ?_
        exact q_zret C hr hlk hP (by decide) h (by decide) (by decide) dX5_agrees_89
      · have h := h.2 c81
        refine lv_iconst (v := (1 : Int32)) hx hb dX5_agrees_84 (by decide) ?_
        refine lv_goto (tgt := 89) hx hb dX5_agrees_85 (by decide) ?_
        exact q_zret C hr hlk hP (by decide) h (by decide) (by decide) dX5_agrees_89
  · have h := h.2 c6
    refine lv_aload_n hx hb dX5_agrees_9 rfl (lv_at hl 0 rfl) ?_
    obtain ⟨g5, h⟩ := h
    obtain ⟨g6, h⟩ := h
    refine q_getR C hP (k := 3) (lay_X5 C.hA) rfl (by decide) g5 g6 (fl_X5_15 C.hA) dX5_agrees_10 ?_
    refine lv_iload_n hx hb dX5_agrees_13 rfl (lv_at hl 3 rfl) ?_
    obtain ⟨g7, h⟩ := h
    obtain ⟨g8, h⟩ := h
    refine q_iald C hP g7 g8 dX5_agrees_14 ?_
    refine lv_iconst (v := (-1 : Int32)) hx hb dX5_agrees_15 (by decide) ?_
    refine lv_icmp_ne (tgt := 23) hx hb dX5_agrees_16 (by decide) (fun c16 => ?_) (fun c16 => ?_)
    · have h := h.2 c16
      refine lv_aload_n hx hb dX5_agrees_23 rfl (lv_at hl 0 rfl) ?_
      refine lv_aload_n hx hb dX5_agrees_24 rfl (lv_at hl 0 rfl) ?_
      refine q_getR C hP (k := 3) (lay_X5 C.hA) rfl (by decide) g5 g6 (fl_X5_15 C.hA) dX5_agrees_25 ?_
      refine lv_iload_n hx hb dX5_agrees_28 rfl (lv_at hl 3 rfl) ?_
      refine q_iald C hP g7 g8 dX5_agrees_29 ?_
      refine lv_aload_n hx hb dX5_agrees_30 rfl (lv_at hl 1 rfl) ?_
      refine q_cali (q_runV C hP (c_X5_tickOf h) (cd_X5_tickOf C.hA) (ini_X5 C.hA) (ml_X5_46 C.hA) (im_X5_tickOf C.hA) (sl_X5_tickOf C.hA) g5 (by decide) rfl hd_X5_tickOf ⟨rfl, rfl⟩ ⟨Nat.le_of_ble_eq_true rfl, Nat.le_of_ble_eq_true rfl⟩ ⟨Nat.le_of_ble_eq_true rfl, Nat.le_of_ble_eq_true rfl⟩ hl.1 rfl (Nat.le_of_ble_eq_true rfl) dX5_agrees_31) hP (fun v_31 u_31 H locs h hP => ?_)
      exact b_X5_agrees_34 C hr hlk hk_4 h (lv_sub hl [0, 1, 2, 3] rfl) hP
    · have h := h.1 c16
      refine lv_iconst (v := (-1 : Int32)) hx hb dX5_agrees_19 (by decide) ?_
      refine lv_goto (tgt := 34) hx hb dX5_agrees_20 (by decide) ?_
      exact b_X5_agrees_34 C hr hlk hk_4 h (lv_sub hl [0, 1, 2, 3] rfl) hP
theorem l_X5_agrees_4 {G : Gx} {Q : Int32 → Mm → Prop} {p : Program} {l : Launch} {e : Env} {s : State} {m : MethodId} {args : Array Value} {below : List Frame} {meth : Method} {c : Code} (C : Cx G p s m c cX5_agrees RX5 5) (hr : meth.sig.returnType = (some .boolean)) (hlk : meth.locks = false) : ∀ (n : Nat) (x0 : Nat) (x1 : Nat) (x2 : Int32) (x3 : Int32) (u : Mm) (H : Heap) (locs : List Loc) (ls : Array Slot), V_X5_agrees_4 G Q n x0 x1 x2 x3 u → lv_has ls 5 [(0, .ref x0), (1, .ref x1), (2, .int x2), (3, .int x3)] → Hp G u s H locs → W p l e rm_X5_agrees s m args below meth c H locs 0 0 (MQ below (Ei G Q) args s 0 0 (ag G)) (F0 m 4 ls []) := by
  intro n
  induction n with
  | zero => intro x0 x1 x2 x3 u H locs ls h; exact h.elim
  | succ n ih => intro x0 x1 x2 x3 u H locs ls h hl hP; exact b_X5_agrees_4 C hr hlk ih h hl hP
set_option maxHeartbeats 4000000 in
set_option maxRecDepth 100000 in
theorem c_X5_agrees {l : Launch} {G : Gx} {p0 : Nat} {p1 : Nat} {u : Mm} {Q : Int32 → Mm → Prop} (h : V_X5_agrees G p0 p1 u Q) : Met l yX5_agrees [.code yX5_agrees cX5_agrees 5 (some .boolean)] rm_X5_agrees (va_Pc [.ref p0, .ref p1] (Wd G u)) (Ei G Q) 0 0 (ag G) := by
  refine q_met (by decide) (Nat.le_of_ble_eq_true rfl) ?_
  intro p e s m below meth c ls C hr hlk hnm hl hP
  have hl : lv_has ls 5 [(0, .ref p0), (1, .ref p1)] := hl
  generalize ([.ref p0, .ref p1] : List Value).toArray = args
  have hx := C.1
  have hb := C.2.1
  unfold V_X5_agrees at h
  refine lv_iconst (v := (0 : Int32)) hx hb dX5_agrees_0 (by decide) ?_
  refine lv_istore_n (lv' := [(2, .int (0 : Int32)), (0, .ref p0), (1, .ref p1)]) hx hb dX5_agrees_1 rfl hl (by decide) rfl (fun ls hl => ?_)
  refine lv_iconst (v := (0 : Int32)) hx hb dX5_agrees_2 (by decide) ?_
  refine lv_istore_n (lv' := [(3, .int (0 : Int32)), (2, .int (0 : Int32)), (0, .ref p0), (1, .ref p1)]) hx hb dX5_agrees_3 rfl hl (by decide) rfl (fun ls hl => ?_)
  obtain ⟨n, h⟩ := h
  exact l_X5_agrees_4 C hr hlk n p0 p1 (0 : Int32) (0 : Int32) u _ _ _ h (lv_sub hl [2, 3, 1, 0] rfl) hP
-- X5_tryPlan
abbrev rm_X5_tryPlan : Room := { frames := 3, cells := 0, slots := 0, locals := 71 }
theorem hd_X5_tryPlan : yX5_tryPlan.cls ≠ "java/lang/invoke/MethodHandle" ∧ yX5_tryPlan.cls ≠ "java/lang/invoke/VarHandle" ∧ (parseMethodDescriptor yX5_tryPlan.desc).map (fun d => d.parameters.length) = some 4 := by decide +kernel
def V_X5_tryPlan_89 (G : Gx) (Q : Mm → Prop) (x0 : Nat) (u : Mm) : Prop :=
  kd G x0 = 5 ∧ ∀ u_96 : Mm, u_96 = sI u x0 6 ((gI u x0 6) + (1 : Int32)) → Q u_96
def V_X5_tryPlan_25_B (G : Gx) (Q : Mm → Prop) (k_25 : Nat → Nat → Int32 → Int32 → Int32 → Int32 → Mm → Prop) (x0 : Nat) (x1 : Nat) (x2 : Int32) (x3 : Int32) (x4 : Int32) (x5 : Int32) (u : Mm) : Prop :=
  kd G x1 = 1 ∧ (((gI u x1 7) ≤ x5 → kd G x0 = 5 ∧ (((gI u x0 6) = (gI u x0 5) → ∀ u_86 : Mm, u_86 = sI u x0 7 (((((6889 : Int32) * (x2 + (1 : Int32))) + ((83 : Int32) * (x3 + (1 : Int32)))) + x4) + (1 : Int32)) → V_X5_tryPlan_89 G Q x0 u_86) ∧ (¬ (gI u x0 6) = (gI u x0 5) → V_X5_tryPlan_89 G Q x0 u))) ∧ (¬ (gI u x1 7) ≤ x5 → (gR u x1 6) ≠ 0 ∧ kd G (gR u x1 6) = 21 ∧ vp_in x5 (ln G (gR u x1 6)) ∧ (gR u (gR u x1 6) x5.toNatClampNeg) ≠ 0 ∧ kd G x0 = 5 ∧ V_X5_agrees G x0 (gR u (gR u x1 6) x5.toNatClampNeg) u (fun (v_42 : Int32) (u_42 : Mm) => ((v_42 = 0 → Q u_42) ∧ (¬ v_42 = 0 → ∀ x5_49 : Int32, x5_49 = x5 + (1 : Int32) → k_25 x0 x1 x2 x3 x4 x5_49 u_42)))))
def V_X5_tryPlan_25 (G : Gx) (Q : Mm → Prop) : Nat → (Nat → Nat → Int32 → Int32 → Int32 → Int32 → Mm → Prop)
  | 0 => fun _ _ _ _ _ _ _ => False
  | n + 1 => fun x0 x1 x2 x3 x4 x5 u => V_X5_tryPlan_25_B G Q (V_X5_tryPlan_25 G Q n) x0 x1 x2 x3 x4 x5 u
def V_X5_tryPlan (G : Gx) (p0 : Nat) (p1 : Nat) (p2 : Int32) (p3 : Int32) (p4 : Int32) (u : Mm) (Q : Mm → Prop) : Prop :=
  kd G p0 = 5 ∧ (gR u p0 3) ≠ 0 ∧ kd G (gR u p0 3) = 13 ∧ vp_in (0 : Int32) (ln G (gR u p0 3)) ∧ ∀ u_6 : Mm, u_6 = sI u (gR u p0 3) (0 : Int32).toNatClampNeg p2 → (gR u_6 p0 3) ≠ 0 ∧ kd G (gR u_6 p0 3) = 13 ∧ vp_in (1 : Int32) (ln G (gR u_6 p0 3)) ∧ ∀ u_13 : Mm, u_13 = sI u_6 (gR u_6 p0 3) (1 : Int32).toNatClampNeg p3 → (gR u_13 p0 3) ≠ 0 ∧ kd G (gR u_13 p0 3) = 13 ∧ vp_in (2 : Int32) (ln G (gR u_13 p0 3)) ∧ ∀ u_21 : Mm, u_21 = sI u_13 (gR u_13 p0 3) (2 : Int32).toNatClampNeg p4 → ∃ n : Nat, V_X5_tryPlan_25 G Q n p0 p1 p2 p3 p4 (0 : Int32) u_21
set_option maxHeartbeats 4000000 in
set_option maxRecDepth 100000 in
theorem b_X5_tryPlan_89 {G : Gx} {Q : Mm → Prop} {p : Program} {l : Launch} {e : Env} {s : State} {m : MethodId} {args : Array Value} {below : List Frame} {meth : Method} {c : Code} (C : Cx G p s m c cX5_tryPlan RX5 6) (hr : meth.sig.returnType = none) (hlk : meth.locks = false) {x0 : Nat} {u : Mm} {H : Heap} {locs : List Loc} {ls : Array Slot} (h : V_X5_tryPlan_89 G Q x0 u) (hl : lv_has ls 6 [(0, .ref x0)]) (hP : Hp G u s H locs) : W p l e rm_X5_tryPlan s m args below meth c H locs 0 0 (MQ below (Ev G Q) args s 0 0 (ag G)) (F0 m 89 ls []) := by
  have hx := C.1
  have hb := C.2.1
  unfold V_X5_tryPlan_89 at h
  refine lv_aload_n hx hb dX5_tryPlan_89 rfl (lv_at hl 0 rfl) ?_
  refine lv_dup hx hb dX5_tryPlan_90 rfl ?_
  obtain ⟨g1, h⟩ := h
  refine q_getI C hP (k := 6) (lay_X5 C.hA) rfl (by decide) g1 (fl_X5_79 C.hA) dX5_tryPlan_91 ?_
  refine lv_iconst (v := (1 : Int32)) hx hb dX5_tryPlan_94 (by decide) ?_
  refine lv_iadd hx hb dX5_tryPlan_95 ?_
  refine q_putI C hP (k := 6) tyX5_ok nmX5 (lay_X5 C.hA) rfl (by decide) rfl rfl rfl rfl g1 (fl_X5_79 C.hA) dX5_tryPlan_96 (fun H locs hP => ?_)
  obtain ⟨u_96, eu_96, hP⟩ := Hp.nm hP
  have h := h u_96 eu_96
  exact q_vret C hr hlk hP h (by decide) (by decide) dX5_tryPlan_99
set_option maxHeartbeats 4000000 in
set_option maxRecDepth 100000 in
theorem b_X5_tryPlan_25 {G : Gx} {Q : Mm → Prop} {p : Program} {l : Launch} {e : Env} {s : State} {m : MethodId} {args : Array Value} {below : List Frame} {meth : Method} {c : Code} (C : Cx G p s m c cX5_tryPlan RX5 6) (hr : meth.sig.returnType = none) (hlk : meth.locks = false) {k_25 : Nat → Nat → Int32 → Int32 → Int32 → Int32 → Mm → Prop} (hk_25 : ∀ (x0 : Nat) (x1 : Nat) (x2 : Int32) (x3 : Int32) (x4 : Int32) (x5 : Int32) (u : Mm) (H : Heap) (locs : List Loc) (ls : Array Slot), k_25 x0 x1 x2 x3 x4 x5 u → lv_has ls 6 [(0, .ref x0), (1, .ref x1), (2, .int x2), (3, .int x3), (4, .int x4), (5, .int x5)] → Hp G u s H locs → W p l e rm_X5_tryPlan s m args below meth c H locs 0 0 (MQ below (Ev G Q) args s 0 0 (ag G)) (F0 m 25 ls [])) {x0 : Nat} {x1 : Nat} {x2 : Int32} {x3 : Int32} {x4 : Int32} {x5 : Int32} {u : Mm} {H : Heap} {locs : List Loc} {ls : Array Slot} (h : V_X5_tryPlan_25_B G Q k_25 x0 x1 x2 x3 x4 x5 u) (hl : lv_has ls 6 [(0, .ref x0), (1, .ref x1), (2, .int x2), (3, .int x3), (4, .int x4), (5, .int x5)]) (hP : Hp G u s H locs) : W p l e rm_X5_tryPlan s m args below meth c H locs 0 0 (MQ below (Ev G Q) args s 0 0 (ag G)) (F0 m 25 ls []) := by
  have hx := C.1
  have hb := C.2.1
  unfold V_X5_tryPlan_25_B at h
  refine lv_iload hx hb dX5_tryPlan_25 (lv_at hl 5 rfl) ?_
  refine lv_aload_n hx hb dX5_tryPlan_27 rfl (lv_at hl 1 rfl) ?_
  obtain ⟨g1, h⟩ := h
  refine q_getIN C hP (k := 7) (lay_X1 C.hA) rfl (by decide) g1 (fn_X5_28 C.hA) dX5_tryPlan_28 ?_
  refine lv_icmp_ge (tgt := 55) hx hb dX5_tryPlan_31 (by decide) (fun c31 => ?_) (fun c31 => ?_)
  · have h := h.1 c31
    refine lv_aload_n hx hb dX5_tryPlan_55 rfl (lv_at hl 0 rfl) ?_
    obtain ⟨g2, h⟩ := h
    refine q_getI C hP (k := 6) (lay_X5 C.hA) rfl (by decide) g2 (fl_X5_79 C.hA) dX5_tryPlan_56 ?_
    refine lv_aload_n hx hb dX5_tryPlan_59 rfl (lv_at hl 0 rfl) ?_
    refine q_getI C hP (k := 5) (lay_X5 C.hA) rfl (by decide) g2 (fl_X5_76 C.hA) dX5_tryPlan_60 ?_
    refine lv_icmp_ne (tgt := 89) hx hb dX5_tryPlan_63 (by decide) (fun c63 => ?_) (fun c63 => ?_)
    · have h := h.2 c63
      exact b_X5_tryPlan_89 C hr hlk h (lv_sub hl [0] rfl) hP
    · have h := h.1 c63
      refine lv_aload_n hx hb dX5_tryPlan_66 rfl (lv_at hl 0 rfl) ?_
      refine lv_sipush (v := (6889 : Int32)) hx hb dX5_tryPlan_67 (by decide) ?_
      refine lv_iload_n hx hb dX5_tryPlan_70 rfl (lv_at hl 2 rfl) ?_
      refine lv_iconst (v := (1 : Int32)) hx hb dX5_tryPlan_71 (by decide) ?_
      refine lv_iadd hx hb dX5_tryPlan_72 ?_
      refine lv_imul hx hb dX5_tryPlan_73 ?_
      refine lv_bipush (v := (83 : Int32)) hx hb dX5_tryPlan_74 (by decide) ?_
      refine lv_iload_n hx hb dX5_tryPlan_76 rfl (lv_at hl 3 rfl) ?_
      refine lv_iconst (v := (1 : Int32)) hx hb dX5_tryPlan_77 (by decide) ?_
      refine lv_iadd hx hb dX5_tryPlan_78 ?_
      refine lv_imul hx hb dX5_tryPlan_79 ?_
      refine lv_iadd hx hb dX5_tryPlan_80 ?_
      refine lv_iload hx hb dX5_tryPlan_81 (lv_at hl 4 rfl) ?_
      refine lv_iadd hx hb dX5_tryPlan_83 ?_
      refine lv_iconst (v := (1 : Int32)) hx hb dX5_tryPlan_84 (by decide) ?_
      refine lv_iadd hx hb dX5_tryPlan_85 ?_
      refine q_putI C hP (k := 7) tyX5_ok nmX5 (lay_X5 C.hA) rfl (by decide) rfl rfl rfl rfl g2 (fl_X5_82 C.hA) dX5_tryPlan_86 (fun H locs hP => ?_)
      obtain ⟨u_86, eu_86, hP⟩ := Hp.nm hP
      have h := h u_86 eu_86
      exact b_X5_tryPlan_89 C hr hlk h (lv_sub hl [0] rfl) hP
  · have h := h.2 c31
    refine lv_aload_n hx hb dX5_tryPlan_34 rfl (lv_at hl 0 rfl) ?_
    refine lv_aload_n hx hb dX5_tryPlan_35 rfl (lv_at hl 1 rfl) ?_
    obtain ⟨g3, h⟩ := h
    refine q_getRN C hP (k := 6) (lay_X1 C.hA) rfl (by decide) g1 g3 (fn_X5_33 C.hA) dX5_tryPlan_36 ?_
    refine lv_iload hx hb dX5_tryPlan_39 (lv_at hl 5 rfl) ?_
    obtain ⟨g4, h⟩ := h
    obtain ⟨g5, h⟩ := h
    obtain ⟨g6, h⟩ := h
    refine q_aald C hP g4 (by decide) rfl g5 g6 dX5_tryPlan_41 ?_
    obtain ⟨g7, h⟩ := h
    refine q_cali (q_runV C hP (c_X5_agrees h) (cd_X5_agrees C.hA) (ini_X5 C.hA) (ml_X5_89 C.hA) (im_X5_agrees C.hA) (sl_X5_agrees C.hA) g7 (by decide) rfl hd_X5_agrees ⟨rfl, rfl⟩ ⟨Nat.le_of_ble_eq_true rfl, Nat.le_of_ble_eq_true rfl⟩ ⟨Nat.le_of_ble_eq_true rfl, Nat.le_of_ble_eq_true rfl⟩ hl.1 rfl (Nat.le_of_ble_eq_true rfl) dX5_tryPlan_42) hP (fun v_42 u_42 H locs h hP => ?_)
    refine lv_if_ne (tgt := 49) hx hb dX5_tryPlan_45 (by decide) (fun c45 => ?_) (fun c45 => ?_)
    · have h := h.2 c45
      obtain ⟨x5_49, ex5_49⟩ : ∃ y : Int32, y = x5 + (1 : Int32) := ⟨_, rfl⟩
      have h := h x5_49 ex5_49
      refine lv_iinc (v := x5_49) (lv' := [(5, .int x5_49), (0, .ref x0), (1, .ref x1), (2, .int x2), (3, .int x3), (4, .int x4)]) hx hb dX5_tryPlan_49 hl (k := 5) rfl (by rw [ex5_49]; rfl) (by decide) rfl (fun ls hl => ?_)
      refine lv_goto (tgt := 25) hx hb dX5_tryPlan_52 (by decide) ?_
      exact hk_25 x0 x1 x2 x3 x4 x5_49 u_42 _ _ _ h (lv_sub hl [1, 2, 3, 4, 5, 0] rfl) hP
    · have h := h.1 c45
      exact q_vret C hr hlk hP h (by decide) (by decide) dX5_tryPlan_48
theorem l_X5_tryPlan_25 {G : Gx} {Q : Mm → Prop} {p : Program} {l : Launch} {e : Env} {s : State} {m : MethodId} {args : Array Value} {below : List Frame} {meth : Method} {c : Code} (C : Cx G p s m c cX5_tryPlan RX5 6) (hr : meth.sig.returnType = none) (hlk : meth.locks = false) : ∀ (n : Nat) (x0 : Nat) (x1 : Nat) (x2 : Int32) (x3 : Int32) (x4 : Int32) (x5 : Int32) (u : Mm) (H : Heap) (locs : List Loc) (ls : Array Slot), V_X5_tryPlan_25 G Q n x0 x1 x2 x3 x4 x5 u → lv_has ls 6 [(0, .ref x0), (1, .ref x1), (2, .int x2), (3, .int x3), (4, .int x4), (5, .int x5)] → Hp G u s H locs → W p l e rm_X5_tryPlan s m args below meth c H locs 0 0 (MQ below (Ev G Q) args s 0 0 (ag G)) (F0 m 25 ls []) := by
  intro n
  induction n with
  | zero => intro x0 x1 x2 x3 x4 x5 u H locs ls h; exact h.elim
  | succ n ih => intro x0 x1 x2 x3 x4 x5 u H locs ls h hl hP; exact b_X5_tryPlan_25 C hr hlk ih h hl hP
set_option maxHeartbeats 4000000 in
set_option maxRecDepth 100000 in
theorem c_X5_tryPlan {l : Launch} {G : Gx} {p0 : Nat} {p1 : Nat} {p2 : Int32} {p3 : Int32} {p4 : Int32} {u : Mm} {Q : Mm → Prop} (h : V_X5_tryPlan G p0 p1 p2 p3 p4 u Q) : Met l yX5_tryPlan [.code yX5_tryPlan cX5_tryPlan 6 none] rm_X5_tryPlan (va_Pc [.ref p0, .ref p1, .int p2, .int p3, .int p4] (Wd G u)) (Ev G Q) 0 0 (ag G) := by
  refine q_met (by decide) (Nat.le_of_ble_eq_true rfl) ?_
  intro p e s m below meth c ls C hr hlk hnm hl hP
  have hl : lv_has ls 6 [(0, .ref p0), (1, .ref p1), (2, .int p2), (3, .int p3), (4, .int p4)] := hl
  generalize ([.ref p0, .ref p1, .int p2, .int p3, .int p4] : List Value).toArray = args
  have hx := C.1
  have hb := C.2.1
  unfold V_X5_tryPlan at h
  refine lv_aload_n hx hb dX5_tryPlan_0 rfl (lv_at hl 0 rfl) ?_
  obtain ⟨g1, h⟩ := h
  obtain ⟨g2, h⟩ := h
  refine q_getR C hP (k := 3) (lay_X5 C.hA) rfl (by decide) g1 g2 (fl_X5_15 C.hA) dX5_tryPlan_1 ?_
  refine lv_iconst (v := (0 : Int32)) hx hb dX5_tryPlan_4 (by decide) ?_
  refine lv_iload_n hx hb dX5_tryPlan_5 rfl (lv_at hl 2 rfl) ?_
  obtain ⟨g3, h⟩ := h
  obtain ⟨g4, h⟩ := h
  refine q_iast C hP g3 g4 dX5_tryPlan_6 (fun H locs hP => ?_)
  obtain ⟨u_6, eu_6, hP⟩ := Hp.nm hP
  have h := h u_6 eu_6
  refine lv_aload_n hx hb dX5_tryPlan_7 rfl (lv_at hl 0 rfl) ?_
  obtain ⟨g5, h⟩ := h
  refine q_getR C hP (k := 3) (lay_X5 C.hA) rfl (by decide) g1 g5 (fl_X5_15 C.hA) dX5_tryPlan_8 ?_
  refine lv_iconst (v := (1 : Int32)) hx hb dX5_tryPlan_11 (by decide) ?_
  refine lv_iload_n hx hb dX5_tryPlan_12 rfl (lv_at hl 3 rfl) ?_
  obtain ⟨g6, h⟩ := h
  obtain ⟨g7, h⟩ := h
  refine q_iast C hP g6 g7 dX5_tryPlan_13 (fun H locs hP => ?_)
  obtain ⟨u_13, eu_13, hP⟩ := Hp.nm hP
  have h := h u_13 eu_13
  refine lv_aload_n hx hb dX5_tryPlan_14 rfl (lv_at hl 0 rfl) ?_
  obtain ⟨g8, h⟩ := h
  refine q_getR C hP (k := 3) (lay_X5 C.hA) rfl (by decide) g1 g8 (fl_X5_15 C.hA) dX5_tryPlan_15 ?_
  refine lv_iconst (v := (2 : Int32)) hx hb dX5_tryPlan_18 (by decide) ?_
  refine lv_iload hx hb dX5_tryPlan_19 (lv_at hl 4 rfl) ?_
  obtain ⟨g9, h⟩ := h
  obtain ⟨g10, h⟩ := h
  refine q_iast C hP g9 g10 dX5_tryPlan_21 (fun H locs hP => ?_)
  obtain ⟨u_21, eu_21, hP⟩ := Hp.nm hP
  have h := h u_21 eu_21
  refine lv_iconst (v := (0 : Int32)) hx hb dX5_tryPlan_22 (by decide) ?_
  refine lv_istore (lv' := [(5, .int (0 : Int32)), (0, .ref p0), (1, .ref p1), (2, .int p2), (3, .int p3), (4, .int p4)]) hx hb dX5_tryPlan_23 hl (by decide) rfl (fun ls hl => ?_)
  obtain ⟨n, h⟩ := h
  exact l_X5_tryPlan_25 C hr hlk n p0 p1 p2 p3 p4 (0 : Int32) u_21 _ _ _ h (lv_sub hl [1, 2, 3, 4, 5, 0] rfl) hP
-- X5_search
abbrev rm_X5_search : Room := { frames := 4, cells := 0, slots := 0, locals := 96 }
theorem hd_X5_search : yX5_search.cls ≠ "java/lang/invoke/MethodHandle" ∧ yX5_search.cls ≠ "java/lang/invoke/VarHandle" ∧ (parseMethodDescriptor yX5_search.desc).map (fun d => d.parameters.length) = some 2 := by decide +kernel
def V_X5_search_137_B (G : Gx) (Q : Int32 → Mm → Prop) (k_109 : Nat → Nat → Int32 → Mm → Prop) (k_122 : Nat → Nat → Int32 → Int32 → Mm → Prop) (k_137 : Nat → Nat → Int32 → Int32 → Int32 → Mm → Prop) (x0 : Nat) (x1 : Nat) (x3 : Int32) (x4 : Int32) (x5 : Int32) (u : Mm) : Prop :=
  kd G x0 = 5 ∧ (((gI u x0 2) ≤ x5 → ∀ x4_177 : Int32, x4_177 = x4 + (1 : Int32) → k_122 x0 x1 x3 x4_177 u) ∧ (¬ (gI u x0 2) ≤ x5 → (gR u x0 1) ≠ 0 ∧ kd G (gR u x0 1) = 13 ∧ vp_in x3 (ln G (gR u x0 1)) ∧ vp_in x4 (ln G (gR u x0 1)) ∧ vp_in x5 (ln G (gR u x0 1)) ∧ V_X5_tryPlan G x0 x1 (gI u (gR u x0 1) x3.toNatClampNeg) (gI u (gR u x0 1) x4.toNatClampNeg) (gI u (gR u x0 1) x5.toNatClampNeg) u (fun (u_168 : Mm) => ∀ x5_171 : Int32, x5_171 = x5 + (1 : Int32) → k_137 x0 x1 x3 x4 x5_171 u_168)))
def V_X5_search_137 (G : Gx) (Q : Int32 → Mm → Prop) (k_109 : Nat → Nat → Int32 → Mm → Prop) (k_122 : Nat → Nat → Int32 → Int32 → Mm → Prop) : Nat → (Nat → Nat → Int32 → Int32 → Int32 → Mm → Prop)
  | 0 => fun _ _ _ _ _ _ => False
  | n + 1 => fun x0 x1 x3 x4 x5 u => V_X5_search_137_B G Q k_109 k_122 (V_X5_search_137 G Q k_109 k_122 n) x0 x1 x3 x4 x5 u
def V_X5_search_122_B (G : Gx) (Q : Int32 → Mm → Prop) (k_109 : Nat → Nat → Int32 → Mm → Prop) (k_122 : Nat → Nat → Int32 → Int32 → Mm → Prop) (x0 : Nat) (x1 : Nat) (x3 : Int32) (x4 : Int32) (u : Mm) : Prop :=
  kd G x0 = 5 ∧ (((gI u x0 2) ≤ x4 → ∀ x3_183 : Int32, x3_183 = x3 + (1 : Int32) → k_109 x0 x1 x3_183 u) ∧ (¬ (gI u x0 2) ≤ x4 → ∀ x5_135 : Int32, x5_135 = (x4 + (1 : Int32)) → ∃ n : Nat, V_X5_search_137 G Q k_109 k_122 n x0 x1 x3 x4 x5_135 u))
def V_X5_search_122 (G : Gx) (Q : Int32 → Mm → Prop) (k_109 : Nat → Nat → Int32 → Mm → Prop) : Nat → (Nat → Nat → Int32 → Int32 → Mm → Prop)
  | 0 => fun _ _ _ _ _ => False
  | n + 1 => fun x0 x1 x3 x4 u => V_X5_search_122_B G Q k_109 (V_X5_search_122 G Q k_109 n) x0 x1 x3 x4 u
def V_X5_search_109_B (G : Gx) (Q : Int32 → Mm → Prop) (k_109 : Nat → Nat → Int32 → Mm → Prop) (x0 : Nat) (x1 : Nat) (x3 : Int32) (u : Mm) : Prop :=
  kd G x0 = 5 ∧ (((gI u x0 2) ≤ x3 → (((gI u x0 5) = (-1 : Int32) → Q (gI u x0 6) u) ∧ (¬ (gI u x0 5) = (-1 : Int32) → Q (gI u x0 7) u))) ∧ (¬ (gI u x0 2) ≤ x3 → ∀ x4_120 : Int32, x4_120 = (x3 + (1 : Int32)) → ∃ n : Nat, V_X5_search_122 G Q k_109 n x0 x1 x3 x4_120 u))
def V_X5_search_109 (G : Gx) (Q : Int32 → Mm → Prop) : Nat → (Nat → Nat → Int32 → Mm → Prop)
  | 0 => fun _ _ _ _ => False
  | n + 1 => fun x0 x1 x3 u => V_X5_search_109_B G Q (V_X5_search_109 G Q n) x0 x1 x3 u
def V_X5_search_67_B (G : Gx) (Q : Int32 → Mm → Prop) (k_54 : Nat → Nat → Int32 → Mm → Prop) (k_67 : Nat → Nat → Int32 → Int32 → Mm → Prop) (x0 : Nat) (x1 : Nat) (x3 : Int32) (x4 : Int32) (u : Mm) : Prop :=
  kd G x0 = 5 ∧ (((gI u x0 2) ≤ x4 → ∀ x3_101 : Int32, x3_101 = x3 + (1 : Int32) → k_54 x0 x1 x3_101 u) ∧ (¬ (gI u x0 2) ≤ x4 → (gR u x0 1) ≠ 0 ∧ kd G (gR u x0 1) = 13 ∧ vp_in x3 (ln G (gR u x0 1)) ∧ vp_in x4 (ln G (gR u x0 1)) ∧ V_X5_tryPlan G x0 x1 (gI u (gR u x0 1) x3.toNatClampNeg) (gI u (gR u x0 1) x4.toNatClampNeg) (-1 : Int32) u (fun (u_92 : Mm) => ∀ x4_95 : Int32, x4_95 = x4 + (1 : Int32) → k_67 x0 x1 x3 x4_95 u_92)))
def V_X5_search_67 (G : Gx) (Q : Int32 → Mm → Prop) (k_54 : Nat → Nat → Int32 → Mm → Prop) : Nat → (Nat → Nat → Int32 → Int32 → Mm → Prop)
  | 0 => fun _ _ _ _ _ => False
  | n + 1 => fun x0 x1 x3 x4 u => V_X5_search_67_B G Q k_54 (V_X5_search_67 G Q k_54 n) x0 x1 x3 x4 u
def V_X5_search_54_B (G : Gx) (Q : Int32 → Mm → Prop) (k_54 : Nat → Nat → Int32 → Mm → Prop) (x0 : Nat) (x1 : Nat) (x3 : Int32) (u : Mm) : Prop :=
  kd G x0 = 5 ∧ (((gI u x0 2) ≤ x3 → ∃ n : Nat, V_X5_search_109 G Q n x0 x1 (0 : Int32) u) ∧ (¬ (gI u x0 2) ≤ x3 → ∀ x4_65 : Int32, x4_65 = (x3 + (1 : Int32)) → ∃ n : Nat, V_X5_search_67 G Q k_54 n x0 x1 x3 x4_65 u))
def V_X5_search_54 (G : Gx) (Q : Int32 → Mm → Prop) : Nat → (Nat → Nat → Int32 → Mm → Prop)
  | 0 => fun _ _ _ _ => False
  | n + 1 => fun x0 x1 x3 u => V_X5_search_54_B G Q (V_X5_search_54 G Q n) x0 x1 x3 u
def V_X5_search_25_B (G : Gx) (Q : Int32 → Mm → Prop) (k_25 : Nat → Nat → Int32 → Mm → Prop) (x0 : Nat) (x1 : Nat) (x3 : Int32) (u : Mm) : Prop :=
  kd G x0 = 5 ∧ (((gI u x0 2) ≤ x3 → ∃ n : Nat, V_X5_search_54 G Q n x0 x1 (0 : Int32) u) ∧ (¬ (gI u x0 2) ≤ x3 → (gR u x0 1) ≠ 0 ∧ kd G (gR u x0 1) = 13 ∧ vp_in x3 (ln G (gR u x0 1)) ∧ V_X5_tryPlan G x0 x1 (gI u (gR u x0 1) x3.toNatClampNeg) (-1 : Int32) (-1 : Int32) u (fun (u_43 : Mm) => ∀ x3_46 : Int32, x3_46 = x3 + (1 : Int32) → k_25 x0 x1 x3_46 u_43)))
def V_X5_search_25 (G : Gx) (Q : Int32 → Mm → Prop) : Nat → (Nat → Nat → Int32 → Mm → Prop)
  | 0 => fun _ _ _ _ => False
  | n + 1 => fun x0 x1 x3 u => V_X5_search_25_B G Q (V_X5_search_25 G Q n) x0 x1 x3 u
def V_X5_search (G : Gx) (p0 : Nat) (p1 : Nat) (p2 : Int32) (u : Mm) (Q : Int32 → Mm → Prop) : Prop :=
  kd G p0 = 5 ∧ ∀ u_2 : Mm, u_2 = sI u p0 5 p2 → ∀ u_7 : Mm, u_7 = sI u_2 p0 6 (0 : Int32) → ∀ u_12 : Mm, u_12 = sI u_7 p0 7 (-1 : Int32) → V_X5_tryPlan G p0 p1 (-1 : Int32) (-1 : Int32) (-1 : Int32) u_12 (fun (u_20 : Mm) => ∃ n : Nat, V_X5_search_25 G Q n p0 p1 (0 : Int32) u_20)
set_option maxHeartbeats 4000000 in
set_option maxRecDepth 100000 in
theorem b_X5_search_137 {G : Gx} {Q : Int32 → Mm → Prop} {p : Program} {l : Launch} {e : Env} {s : State} {m : MethodId} {args : Array Value} {below : List Frame} {meth : Method} {c : Code} (C : Cx G p s m c cX5_search RX5 6) (hr : meth.sig.returnType = (some .int)) (hlk : meth.locks = false) {k_109 : Nat → Nat → Int32 → Mm → Prop} (hk_109 : ∀ (x0 : Nat) (x1 : Nat) (x3 : Int32) (u : Mm) (H : Heap) (locs : List Loc) (ls : Array Slot), k_109 x0 x1 x3 u → lv_has ls 6 [(0, .ref x0), (1, .ref x1), (3, .int x3)] → Hp G u s H locs → W p l e rm_X5_search s m args below meth c H locs 0 0 (MQ below (Ei G Q) args s 0 0 (ag G)) (F0 m 109 ls [])) {k_122 : Nat → Nat → Int32 → Int32 → Mm → Prop} (hk_122 : ∀ (x0 : Nat) (x1 : Nat) (x3 : Int32) (x4 : Int32) (u : Mm) (H : Heap) (locs : List Loc) (ls : Array Slot), k_122 x0 x1 x3 x4 u → lv_has ls 6 [(0, .ref x0), (1, .ref x1), (3, .int x3), (4, .int x4)] → Hp G u s H locs → W p l e rm_X5_search s m args below meth c H locs 0 0 (MQ below (Ei G Q) args s 0 0 (ag G)) (F0 m 122 ls [])) {k_137 : Nat → Nat → Int32 → Int32 → Int32 → Mm → Prop} (hk_137 : ∀ (x0 : Nat) (x1 : Nat) (x3 : Int32) (x4 : Int32) (x5 : Int32) (u : Mm) (H : Heap) (locs : List Loc) (ls : Array Slot), k_137 x0 x1 x3 x4 x5 u → lv_has ls 6 [(0, .ref x0), (1, .ref x1), (3, .int x3), (4, .int x4), (5, .int x5)] → Hp G u s H locs → W p l e rm_X5_search s m args below meth c H locs 0 0 (MQ below (Ei G Q) args s 0 0 (ag G)) (F0 m 137 ls [])) {x0 : Nat} {x1 : Nat} {x3 : Int32} {x4 : Int32} {x5 : Int32} {u : Mm} {H : Heap} {locs : List Loc} {ls : Array Slot} (h : V_X5_search_137_B G Q k_109 k_122 k_137 x0 x1 x3 x4 x5 u) (hl : lv_has ls 6 [(0, .ref x0), (1, .ref x1), (3, .int x3), (4, .int x4), (5, .int x5)]) (hP : Hp G u s H locs) : W p l e rm_X5_search s m args below meth c H locs 0 0 (MQ below (Ei G Q) args s 0 0 (ag G)) (F0 m 137 ls []) := by
  have hx := C.1
  have hb := C.2.1
  unfold V_X5_search_137_B at h
  refine lv_iload hx hb dX5_search_137 (lv_at hl 4 rfl) ?_
  refine lv_aload_n hx hb dX5_search_139 rfl (lv_at hl 0 rfl) ?_
  obtain ⟨g1, h⟩ := h
  refine q_getI C hP (k := 2) (lay_X5 C.hA) rfl (by decide) g1 (fl_X5_25 C.hA) dX5_search_140 ?_
  refine lv_icmp_ge (tgt := 177) hx hb dX5_search_143 (by decide) (fun c143 => ?_) (fun c143 => ?_)
  · have h := h.1 c143
    obtain ⟨x4_177, ex4_177⟩ : ∃ y : Int32, y = x4 + (1 : Int32) := ⟨_, rfl⟩
    have h := h x4_177 ex4_177
    refine lv_iinc (v := x4_177) (lv' := [(4, .int x4_177), (0, .ref x0), (1, .ref x1), (3, .int x3), (5, .int x5)]) hx hb dX5_search_177 hl (k := 3) rfl (by rw [ex4_177]; rfl) (by decide) rfl (fun ls hl => ?_)
    refine lv_goto (tgt := 122) hx hb dX5_search_180 (by decide) ?_
    exact hk_122 x0 x1 x3 x4_177 u _ _ _ h (lv_sub hl [1, 2, 3, 0] rfl) hP
  · have h := h.2 c143
    refine lv_aload_n hx hb dX5_search_146 rfl (lv_at hl 0 rfl) ?_
    refine lv_aload_n hx hb dX5_search_147 rfl (lv_at hl 1 rfl) ?_
    refine lv_aload_n hx hb dX5_search_148 rfl (lv_at hl 0 rfl) ?_
    obtain ⟨g2, h⟩ := h
    refine q_getR C hP (k := 1) (lay_X5 C.hA) rfl (by decide) g1 g2 (fl_X5_11 C.hA) dX5_search_149 ?_
    refine lv_iload_n hx hb dX5_search_152 rfl (lv_at hl 2 rfl) ?_
    obtain ⟨g3, h⟩ := h
    obtain ⟨g4, h⟩ := h
    refine q_iald C hP g3 g4 dX5_search_153 ?_
    refine lv_aload_n hx hb dX5_search_154 rfl (lv_at hl 0 rfl) ?_
    refine q_getR C hP (k := 1) (lay_X5 C.hA) rfl (by decide) g1 g2 (fl_X5_11 C.hA) dX5_search_155 ?_
    refine lv_iload hx hb dX5_search_158 (lv_at hl 3 rfl) ?_
    obtain ⟨g5, h⟩ := h
    refine q_iald C hP g3 g5 dX5_search_160 ?_
    refine lv_aload_n hx hb dX5_search_161 rfl (lv_at hl 0 rfl) ?_
    refine q_getR C hP (k := 1) (lay_X5 C.hA) rfl (by decide) g1 g2 (fl_X5_11 C.hA) dX5_search_162 ?_
    refine lv_iload hx hb dX5_search_165 (lv_at hl 4 rfl) ?_
    obtain ⟨g6, h⟩ := h
    refine q_iald C hP g3 g6 dX5_search_167 ?_
    refine q_calv (q_runV C hP (c_X5_tryPlan h) (cd_X5_tryPlan C.hA) (ini_X5 C.hA) (ml_X5_85 C.hA) (im_X5_tryPlan C.hA) (sl_X5_tryPlan C.hA) g1 (by decide) rfl hd_X5_tryPlan ⟨rfl, rfl⟩ ⟨Nat.le_of_ble_eq_true rfl, Nat.le_of_ble_eq_true rfl⟩ ⟨Nat.le_of_ble_eq_true rfl, Nat.le_of_ble_eq_true rfl⟩ hl.1 rfl (Nat.le_of_ble_eq_true rfl) dX5_search_168) hP (fun u_168 H locs h hP => ?_)
    obtain ⟨x5_171, ex5_171⟩ : ∃ y : Int32, y = x5 + (1 : Int32) := ⟨_, rfl⟩
    have h := h x5_171 ex5_171
    refine lv_iinc (v := x5_171) (lv' := [(5, .int x5_171), (0, .ref x0), (1, .ref x1), (3, .int x3), (4, .int x4)]) hx hb dX5_search_171 hl (k := 4) rfl (by rw [ex5_171]; rfl) (by decide) rfl (fun ls hl => ?_)
    refine lv_goto (tgt := 137) hx hb dX5_search_174 (by decide) ?_
    exact hk_137 x0 x1 x3 x4 x5_171 u_168 _ _ _ h (lv_sub hl [1, 2, 3, 4, 0] rfl) hP
theorem l_X5_search_137 {G : Gx} {Q : Int32 → Mm → Prop} {p : Program} {l : Launch} {e : Env} {s : State} {m : MethodId} {args : Array Value} {below : List Frame} {meth : Method} {c : Code} (C : Cx G p s m c cX5_search RX5 6) (hr : meth.sig.returnType = (some .int)) (hlk : meth.locks = false) {k_109 : Nat → Nat → Int32 → Mm → Prop} (hk_109 : ∀ (x0 : Nat) (x1 : Nat) (x3 : Int32) (u : Mm) (H : Heap) (locs : List Loc) (ls : Array Slot), k_109 x0 x1 x3 u → lv_has ls 6 [(0, .ref x0), (1, .ref x1), (3, .int x3)] → Hp G u s H locs → W p l e rm_X5_search s m args below meth c H locs 0 0 (MQ below (Ei G Q) args s 0 0 (ag G)) (F0 m 109 ls [])) {k_122 : Nat → Nat → Int32 → Int32 → Mm → Prop} (hk_122 : ∀ (x0 : Nat) (x1 : Nat) (x3 : Int32) (x4 : Int32) (u : Mm) (H : Heap) (locs : List Loc) (ls : Array Slot), k_122 x0 x1 x3 x4 u → lv_has ls 6 [(0, .ref x0), (1, .ref x1), (3, .int x3), (4, .int x4)] → Hp G u s H locs → W p l e rm_X5_search s m args below meth c H locs 0 0 (MQ below (Ei G Q) args s 0 0 (ag G)) (F0 m 122 ls [])) : ∀ (n : Nat) (x0 : Nat) (x1 : Nat) (x3 : Int32) (x4 : Int32) (x5 : Int32) (u : Mm) (H : Heap) (locs : List Loc) (ls : Array Slot), V_X5_search_137 G Q k_109 k_122 n x0 x1 x3 x4 x5 u → lv_has ls 6 [(0, .ref x0), (1, .ref x1), (3, .int x3), (4, .int x4), (5, .int x5)] → Hp G u s H locs → W p l e rm_X5_search s m args below meth c H locs 0 0 (MQ below (Ei G Q) args s 0 0 (ag G)) (F0 m 137 ls []) := by
  intro n
  induction n with
  | zero => intro x0 x1 x3 x4 x5 u H locs ls h; exact h.elim
  | succ n ih => intro x0 x1 x3 x4 x5 u H locs ls h hl hP; exact b_X5_search_137 C hr hlk hk_109 hk_122 ih h hl hP
set_option maxHeartbeats 4000000 in
set_option maxRecDepth 100000 in
theorem b_X5_search_122 {G : Gx} {Q : Int32 → Mm → Prop} {p : Program} {l : Launch} {e : Env} {s : State} {m : MethodId} {args : Array Value} {below : List Frame} {meth : Method} {c : Code} (C : Cx G p s m c cX5_search RX5 6) (hr : meth.sig.returnType = (some .int)) (hlk : meth.locks = false) {k_109 : Nat → Nat → Int32 → Mm → Prop} (hk_109 : ∀ (x0 : Nat) (x1 : Nat) (x3 : Int32) (u : Mm) (H : Heap) (locs : List Loc) (ls : Array Slot), k_109 x0 x1 x3 u → lv_has ls 6 [(0, .ref x0), (1, .ref x1), (3, .int x3)] → Hp G u s H locs → W p l e rm_X5_search s m args below meth c H locs 0 0 (MQ below (Ei G Q) args s 0 0 (ag G)) (F0 m 109 ls [])) {k_122 : Nat → Nat → Int32 → Int32 → Mm → Prop} (hk_122 : ∀ (x0 : Nat) (x1 : Nat) (x3 : Int32) (x4 : Int32) (u : Mm) (H : Heap) (locs : List Loc) (ls : Array Slot), k_122 x0 x1 x3 x4 u → lv_has ls 6 [(0, .ref x0), (1, .ref x1), (3, .int x3), (4, .int x4)] → Hp G u s H locs → W p l e rm_X5_search s m args below meth c H locs 0 0 (MQ below (Ei G Q) args s 0 0 (ag G)) (F0 m 122 ls [])) {x0 : Nat} {x1 : Nat} {x3 : Int32} {x4 : Int32} {u : Mm} {H : Heap} {locs : List Loc} {ls : Array Slot} (h : V_X5_search_122_B G Q k_109 k_122 x0 x1 x3 x4 u) (hl : lv_has ls 6 [(0, .ref x0), (1, .ref x1), (3, .int x3), (4, .int x4)]) (hP : Hp G u s H locs) : W p l e rm_X5_search s m args below meth c H locs 0 0 (MQ below (Ei G Q) args s 0 0 (ag G)) (F0 m 122 ls []) := by
  have hx := C.1
  have hb := C.2.1
  unfold V_X5_search_122_B at h
  refine lv_iload hx hb dX5_search_122 (lv_at hl 3 rfl) ?_
  refine lv_aload_n hx hb dX5_search_124 rfl (lv_at hl 0 rfl) ?_
  obtain ⟨g1, h⟩ := h
  refine q_getI C hP (k := 2) (lay_X5 C.hA) rfl (by decide) g1 (fl_X5_25 C.hA) dX5_search_125 ?_
  refine lv_icmp_ge (tgt := 183) hx hb dX5_search_128 (by decide) (fun c128 => ?_) (fun c128 => ?_)
  · have h := h.1 c128
    obtain ⟨x3_183, ex3_183⟩ : ∃ y : Int32, y = x3 + (1 : Int32) := ⟨_, rfl⟩
    have h := h x3_183 ex3_183
    refine lv_iinc (v := x3_183) (lv' := [(3, .int x3_183), (0, .ref x0), (1, .ref x1), (4, .int x4)]) hx hb dX5_search_183 hl (k := 2) rfl (by rw [ex3_183]; rfl) (by decide) rfl (fun ls hl => ?_)
    refine lv_goto (tgt := 109) hx hb dX5_search_186 (by decide) ?_
    exact hk_109 x0 x1 x3_183 u _ _ _ h (lv_sub hl [1, 2, 0] rfl) hP
  · have h := h.2 c128
    refine lv_iload hx hb dX5_search_131 (lv_at hl 3 rfl) ?_
    refine lv_iconst (v := (1 : Int32)) hx hb dX5_search_133 (by decide) ?_
    refine lv_iadd hx hb dX5_search_134 ?_
    refine lv_topi (fun x5_135 ex5_135 => ?_)
    have h := h x5_135 ex5_135
    refine lv_istore (lv' := [(5, .int x5_135), (0, .ref x0), (1, .ref x1), (3, .int x3), (4, .int x4)]) hx hb dX5_search_135 hl (by decide) rfl (fun ls hl => ?_)
    obtain ⟨n, h⟩ := h
    exact l_X5_search_137 C hr hlk hk_109 hk_122 n x0 x1 x3 x4 x5_135 u _ _ _ h (lv_sub hl [1, 2, 3, 4, 0] rfl) hP
theorem l_X5_search_122 {G : Gx} {Q : Int32 → Mm → Prop} {p : Program} {l : Launch} {e : Env} {s : State} {m : MethodId} {args : Array Value} {below : List Frame} {meth : Method} {c : Code} (C : Cx G p s m c cX5_search RX5 6) (hr : meth.sig.returnType = (some .int)) (hlk : meth.locks = false) {k_109 : Nat → Nat → Int32 → Mm → Prop} (hk_109 : ∀ (x0 : Nat) (x1 : Nat) (x3 : Int32) (u : Mm) (H : Heap) (locs : List Loc) (ls : Array Slot), k_109 x0 x1 x3 u → lv_has ls 6 [(0, .ref x0), (1, .ref x1), (3, .int x3)] → Hp G u s H locs → W p l e rm_X5_search s m args below meth c H locs 0 0 (MQ below (Ei G Q) args s 0 0 (ag G)) (F0 m 109 ls [])) : ∀ (n : Nat) (x0 : Nat) (x1 : Nat) (x3 : Int32) (x4 : Int32) (u : Mm) (H : Heap) (locs : List Loc) (ls : Array Slot), V_X5_search_122 G Q k_109 n x0 x1 x3 x4 u → lv_has ls 6 [(0, .ref x0), (1, .ref x1), (3, .int x3), (4, .int x4)] → Hp G u s H locs → W p l e rm_X5_search s m args below meth c H locs 0 0 (MQ below (Ei G Q) args s 0 0 (ag G)) (F0 m 122 ls []) := by
  intro n
  induction n with
  | zero => intro x0 x1 x3 x4 u H locs ls h; exact h.elim
  | succ n ih => intro x0 x1 x3 x4 u H locs ls h hl hP; exact b_X5_search_122 C hr hlk hk_109 ih h hl hP
set_option maxHeartbeats 4000000 in
set_option maxRecDepth 100000 in
theorem b_X5_search_109 {G : Gx} {Q : Int32 → Mm → Prop} {p : Program} {l : Launch} {e : Env} {s : State} {m : MethodId} {args : Array Value} {below : List Frame} {meth : Method} {c : Code} (C : Cx G p s m c cX5_search RX5 6) (hr : meth.sig.returnType = (some .int)) (hlk : meth.locks = false) {k_109 : Nat → Nat → Int32 → Mm → Prop} (hk_109 : ∀ (x0 : Nat) (x1 : Nat) (x3 : Int32) (u : Mm) (H : Heap) (locs : List Loc) (ls : Array Slot), k_109 x0 x1 x3 u → lv_has ls 6 [(0, .ref x0), (1, .ref x1), (3, .int x3)] → Hp G u s H locs → W p l e rm_X5_search s m args below meth c H locs 0 0 (MQ below (Ei G Q) args s 0 0 (ag G)) (F0 m 109 ls [])) {x0 : Nat} {x1 : Nat} {x3 : Int32} {u : Mm} {H : Heap} {locs : List Loc} {ls : Array Slot} (h : V_X5_search_109_B G Q k_109 x0 x1 x3 u) (hl : lv_has ls 6 [(0, .ref x0), (1, .ref x1), (3, .int x3)]) (hP : Hp G u s H locs) : W p l e rm_X5_search s m args below meth c H locs 0 0 (MQ below (Ei G Q) args s 0 0 (ag G)) (F0 m 109 ls []) := by
  have hx := C.1
  have hb := C.2.1
  unfold V_X5_search_109_B at h
  refine lv_iload_n hx hb dX5_search_109 rfl (lv_at hl 2 rfl) ?_
  refine lv_aload_n hx hb dX5_search_110 rfl (lv_at hl 0 rfl) ?_
  obtain ⟨g1, h⟩ := h
  refine q_getI C hP (k := 2) (lay_X5 C.hA) rfl (by decide) g1 (fl_X5_25 C.hA) dX5_search_111 ?_
  refine lv_icmp_ge (tgt := 189) hx hb dX5_search_114 (by decide) (fun c114 => ?_) (fun c114 => ?_)
  · have h := h.1 c114
    refine lv_aload_n hx hb dX5_search_189 rfl (lv_at hl 0 rfl) ?_
    refine q_getI C hP (k := 5) (lay_X5 C.hA) rfl (by decide) g1 (fl_X5_76 C.hA) dX5_search_190 ?_
    refine lv_iconst (v := (-1 : Int32)) hx hb dX5_search_193 (by decide) ?_
    refine lv_icmp_ne (tgt := 204) hx hb dX5_search_194 (by decide) (fun c194 => ?_) (fun c194 => ?_)
    · have h := h.2 c194
      refine lv_aload_n hx hb dX5_search_204 rfl (lv_at hl 0 rfl) ?_
      refine q_getI C hP (k := 7) (lay_X5 C.hA) rfl (by decide) g1 (fl_X5_82 C.hA) dX5_search_205 ?_
      exact q_iret C hr hlk hP h (by decide) (by decide) dX5_search_208
    · have h := h.1 c194
      refine lv_aload_n hx hb dX5_search_197 rfl (lv_at hl 0 rfl) ?_
      refine q_getI C hP (k := 6) (lay_X5 C.hA) rfl (by decide) g1 (fl_X5_79 C.hA) dX5_search_198 ?_
      refine lv_goto (tgt := 208) hx hb dX5_search_201 (by decide) ?_
      exact q_iret C hr hlk hP h (by decide) (by decide) dX5_search_208
  · have h := h.2 c114
    refine lv_iload_n hx hb dX5_search_117 rfl (lv_at hl 2 rfl) ?_
    refine lv_iconst (v := (1 : Int32)) hx hb dX5_search_118 (by decide) ?_
    refine lv_iadd hx hb dX5_search_119 ?_
    refine lv_topi (fun x4_120 ex4_120 => ?_)
    have h := h x4_120 ex4_120
    refine lv_istore (lv' := [(4, .int x4_120), (0, .ref x0), (1, .ref x1), (3, .int x3)]) hx hb dX5_search_120 hl (by decide) rfl (fun ls hl => ?_)
    obtain ⟨n, h⟩ := h
    exact l_X5_search_122 C hr hlk hk_109 n x0 x1 x3 x4_120 u _ _ _ h (lv_sub hl [1, 2, 3, 0] rfl) hP
theorem l_X5_search_109 {G : Gx} {Q : Int32 → Mm → Prop} {p : Program} {l : Launch} {e : Env} {s : State} {m : MethodId} {args : Array Value} {below : List Frame} {meth : Method} {c : Code} (C : Cx G p s m c cX5_search RX5 6) (hr : meth.sig.returnType = (some .int)) (hlk : meth.locks = false) : ∀ (n : Nat) (x0 : Nat) (x1 : Nat) (x3 : Int32) (u : Mm) (H : Heap) (locs : List Loc) (ls : Array Slot), V_X5_search_109 G Q n x0 x1 x3 u → lv_has ls 6 [(0, .ref x0), (1, .ref x1), (3, .int x3)] → Hp G u s H locs → W p l e rm_X5_search s m args below meth c H locs 0 0 (MQ below (Ei G Q) args s 0 0 (ag G)) (F0 m 109 ls []) := by
  intro n
  induction n with
  | zero => intro x0 x1 x3 u H locs ls h; exact h.elim
  | succ n ih => intro x0 x1 x3 u H locs ls h hl hP; exact b_X5_search_109 C hr hlk ih h hl hP
set_option maxHeartbeats 4000000 in
set_option maxRecDepth 100000 in
theorem b_X5_search_67 {G : Gx} {Q : Int32 → Mm → Prop} {p : Program} {l : Launch} {e : Env} {s : State} {m : MethodId} {args : Array Value} {below : List Frame} {meth : Method} {c : Code} (C : Cx G p s m c cX5_search RX5 6) (hr : meth.sig.returnType = (some .int)) (hlk : meth.locks = false) {k_54 : Nat → Nat → Int32 → Mm → Prop} (hk_54 : ∀ (x0 : Nat) (x1 : Nat) (x3 : Int32) (u : Mm) (H : Heap) (locs : List Loc) (ls : Array Slot), k_54 x0 x1 x3 u → lv_has ls 6 [(0, .ref x0), (1, .ref x1), (3, .int x3)] → Hp G u s H locs → W p l e rm_X5_search s m args below meth c H locs 0 0 (MQ below (Ei G Q) args s 0 0 (ag G)) (F0 m 54 ls [])) {k_67 : Nat → Nat → Int32 → Int32 → Mm → Prop} (hk_67 : ∀ (x0 : Nat) (x1 : Nat) (x3 : Int32) (x4 : Int32) (u : Mm) (H : Heap) (locs : List Loc) (ls : Array Slot), k_67 x0 x1 x3 x4 u → lv_has ls 6 [(0, .ref x0), (1, .ref x1), (3, .int x3), (4, .int x4)] → Hp G u s H locs → W p l e rm_X5_search s m args below meth c H locs 0 0 (MQ below (Ei G Q) args s 0 0 (ag G)) (F0 m 67 ls [])) {x0 : Nat} {x1 : Nat} {x3 : Int32} {x4 : Int32} {u : Mm} {H : Heap} {locs : List Loc} {ls : Array Slot} (h : V_X5_search_67_B G Q k_54 k_67 x0 x1 x3 x4 u) (hl : lv_has ls 6 [(0, .ref x0), (1, .ref x1), (3, .int x3), (4, .int x4)]) (hP : Hp G u s H locs) : W p l e rm_X5_search s m args below meth c H locs 0 0 (MQ below (Ei G Q) args s 0 0 (ag G)) (F0 m 67 ls []) := by
  have hx := C.1
  have hb := C.2.1
  unfold V_X5_search_67_B at h
  refine lv_iload hx hb dX5_search_67 (lv_at hl 3 rfl) ?_
  refine lv_aload_n hx hb dX5_search_69 rfl (lv_at hl 0 rfl) ?_
  obtain ⟨g1, h⟩ := h
  refine q_getI C hP (k := 2) (lay_X5 C.hA) rfl (by decide) g1 (fl_X5_25 C.hA) dX5_search_70 ?_
  refine lv_icmp_ge (tgt := 101) hx hb dX5_search_73 (by decide) (fun c73 => ?_) (fun c73 => ?_)
  · have h := h.1 c73
    obtain ⟨x3_101, ex3_101⟩ : ∃ y : Int32, y = x3 + (1 : Int32) := ⟨_, rfl⟩
    have h := h x3_101 ex3_101
    refine lv_iinc (v := x3_101) (lv' := [(3, .int x3_101), (0, .ref x0), (1, .ref x1), (4, .int x4)]) hx hb dX5_search_101 hl (k := 2) rfl (by rw [ex3_101]; rfl) (by decide) rfl (fun ls hl => ?_)
    refine lv_goto (tgt := 54) hx hb dX5_search_104 (by decide) ?_
    exact hk_54 x0 x1 x3_101 u _ _ _ h (lv_sub hl [1, 2, 0] rfl) hP
  · have h := h.2 c73
    refine lv_aload_n hx hb dX5_search_76 rfl (lv_at hl 0 rfl) ?_
    refine lv_aload_n hx hb dX5_search_77 rfl (lv_at hl 1 rfl) ?_
    refine lv_aload_n hx hb dX5_search_78 rfl (lv_at hl 0 rfl) ?_
    obtain ⟨g2, h⟩ := h
    refine q_getR C hP (k := 1) (lay_X5 C.hA) rfl (by decide) g1 g2 (fl_X5_11 C.hA) dX5_search_79 ?_
    refine lv_iload_n hx hb dX5_search_82 rfl (lv_at hl 2 rfl) ?_
    obtain ⟨g3, h⟩ := h
    obtain ⟨g4, h⟩ := h
    refine q_iald C hP g3 g4 dX5_search_83 ?_
    refine lv_aload_n hx hb dX5_search_84 rfl (lv_at hl 0 rfl) ?_
    refine q_getR C hP (k := 1) (lay_X5 C.hA) rfl (by decide) g1 g2 (fl_X5_11 C.hA) dX5_search_85 ?_
    refine lv_iload hx hb dX5_search_88 (lv_at hl 3 rfl) ?_
    obtain ⟨g5, h⟩ := h
    refine q_iald C hP g3 g5 dX5_search_90 ?_
    refine lv_iconst (v := (-1 : Int32)) hx hb dX5_search_91 (by decide) ?_
    refine q_calv (q_runV C hP (c_X5_tryPlan h) (cd_X5_tryPlan C.hA) (ini_X5 C.hA) (ml_X5_85 C.hA) (im_X5_tryPlan C.hA) (sl_X5_tryPlan C.hA) g1 (by decide) rfl hd_X5_tryPlan ⟨rfl, rfl⟩ ⟨Nat.le_of_ble_eq_true rfl, Nat.le_of_ble_eq_true rfl⟩ ⟨Nat.le_of_ble_eq_true rfl, Nat.le_of_ble_eq_true rfl⟩ hl.1 rfl (Nat.le_of_ble_eq_true rfl) dX5_search_92) hP (fun u_92 H locs h hP => ?_)
    obtain ⟨x4_95, ex4_95⟩ : ∃ y : Int32, y = x4 + (1 : Int32) := ⟨_, rfl⟩
    have h := h x4_95 ex4_95
    refine lv_iinc (v := x4_95) (lv' := [(4, .int x4_95), (0, .ref x0), (1, .ref x1), (3, .int x3)]) hx hb dX5_search_95 hl (k := 3) rfl (by rw [ex4_95]; rfl) (by decide) rfl (fun ls hl => ?_)
    refine lv_goto (tgt := 67) hx hb dX5_search_98 (by decide) ?_
    exact hk_67 x0 x1 x3 x4_95 u_92 _ _ _ h (lv_sub hl [1, 2, 3, 0] rfl) hP
theorem l_X5_search_67 {G : Gx} {Q : Int32 → Mm → Prop} {p : Program} {l : Launch} {e : Env} {s : State} {m : MethodId} {args : Array Value} {below : List Frame} {meth : Method} {c : Code} (C : Cx G p s m c cX5_search RX5 6) (hr : meth.sig.returnType = (some .int)) (hlk : meth.locks = false) {k_54 : Nat → Nat → Int32 → Mm → Prop} (hk_54 : ∀ (x0 : Nat) (x1 : Nat) (x3 : Int32) (u : Mm) (H : Heap) (locs : List Loc) (ls : Array Slot), k_54 x0 x1 x3 u → lv_has ls 6 [(0, .ref x0), (1, .ref x1), (3, .int x3)] → Hp G u s H locs → W p l e rm_X5_search s m args below meth c H locs 0 0 (MQ below (Ei G Q) args s 0 0 (ag G)) (F0 m 54 ls [])) : ∀ (n : Nat) (x0 : Nat) (x1 : Nat) (x3 : Int32) (x4 : Int32) (u : Mm) (H : Heap) (locs : List Loc) (ls : Array Slot), V_X5_search_67 G Q k_54 n x0 x1 x3 x4 u → lv_has ls 6 [(0, .ref x0), (1, .ref x1), (3, .int x3), (4, .int x4)] → Hp G u s H locs → W p l e rm_X5_search s m args below meth c H locs 0 0 (MQ below (Ei G Q) args s 0 0 (ag G)) (F0 m 67 ls []) := by
  intro n
  induction n with
  | zero => intro x0 x1 x3 x4 u H locs ls h; exact h.elim
  | succ n ih => intro x0 x1 x3 x4 u H locs ls h hl hP; exact b_X5_search_67 C hr hlk hk_54 ih h hl hP
set_option maxHeartbeats 4000000 in
set_option maxRecDepth 100000 in
theorem b_X5_search_54 {G : Gx} {Q : Int32 → Mm → Prop} {p : Program} {l : Launch} {e : Env} {s : State} {m : MethodId} {args : Array Value} {below : List Frame} {meth : Method} {c : Code} (C : Cx G p s m c cX5_search RX5 6) (hr : meth.sig.returnType = (some .int)) (hlk : meth.locks = false) {k_54 : Nat → Nat → Int32 → Mm → Prop} (hk_54 : ∀ (x0 : Nat) (x1 : Nat) (x3 : Int32) (u : Mm) (H : Heap) (locs : List Loc) (ls : Array Slot), k_54 x0 x1 x3 u → lv_has ls 6 [(0, .ref x0), (1, .ref x1), (3, .int x3)] → Hp G u s H locs → W p l e rm_X5_search s m args below meth c H locs 0 0 (MQ below (Ei G Q) args s 0 0 (ag G)) (F0 m 54 ls [])) {x0 : Nat} {x1 : Nat} {x3 : Int32} {u : Mm} {H : Heap} {locs : List Loc} {ls : Array Slot} (h : V_X5_search_54_B G Q k_54 x0 x1 x3 u) (hl : lv_has ls 6 [(0, .ref x0), (1, .ref x1), (3, .int x3)]) (hP : Hp G u s H locs) : W p l e rm_X5_search s m args below meth c H locs 0 0 (MQ below (Ei G Q) args s 0 0 (ag G)) (F0 m 54 ls []) := by
  have hx := C.1
  have hb := C.2.1
  unfold V_X5_search_54_B at h
  refine lv_iload_n hx hb dX5_search_54 rfl (lv_at hl 2 rfl) ?_
  refine lv_aload_n hx hb dX5_search_55 rfl (lv_at hl 0 rfl) ?_
  obtain ⟨g1, h⟩ := h
  refine q_getI C hP (k := 2) (lay_X5 C.hA) rfl (by decide) g1 (fl_X5_25 C.hA) dX5_search_56 ?_
  refine lv_icmp_ge (tgt := 107) hx hb dX5_search_59 (by decide) (fun c59 => ?_) (fun c59 => ?_)
  · have h := h.1 c59
    refine lv_iconst (v := (0 : Int32)) hx hb dX5_search_107 (by decide) ?_
    refine lv_istore_n (lv' := [(3, .int (0 : Int32)), (0, .ref x0), (1, .ref x1)]) hx hb dX5_search_108 rfl hl (by decide) rfl (fun ls hl => ?_)
    obtain ⟨n, h⟩ := h
    exact l_X5_search_109 C hr hlk n x0 x1 (0 : Int32) u _ _ _ h (lv_sub hl [1, 2, 0] rfl) hP
  · have h := h.2 c59
    refine lv_iload_n hx hb dX5_search_62 rfl (lv_at hl 2 rfl) ?_
    refine lv_iconst (v := (1 : Int32)) hx hb dX5_search_63 (by decide) ?_
    refine lv_iadd hx hb dX5_search_64 ?_
    refine lv_topi (fun x4_65 ex4_65 => ?_)
    have h := h x4_65 ex4_65
    refine lv_istore (lv' := [(4, .int x4_65), (0, .ref x0), (1, .ref x1), (3, .int x3)]) hx hb dX5_search_65 hl (by decide) rfl (fun ls hl => ?_)
    obtain ⟨n, h⟩ := h
    exact l_X5_search_67 C hr hlk hk_54 n x0 x1 x3 x4_65 u _ _ _ h (lv_sub hl [1, 2, 3, 0] rfl) hP
theorem l_X5_search_54 {G : Gx} {Q : Int32 → Mm → Prop} {p : Program} {l : Launch} {e : Env} {s : State} {m : MethodId} {args : Array Value} {below : List Frame} {meth : Method} {c : Code} (C : Cx G p s m c cX5_search RX5 6) (hr : meth.sig.returnType = (some .int)) (hlk : meth.locks = false) : ∀ (n : Nat) (x0 : Nat) (x1 : Nat) (x3 : Int32) (u : Mm) (H : Heap) (locs : List Loc) (ls : Array Slot), V_X5_search_54 G Q n x0 x1 x3 u → lv_has ls 6 [(0, .ref x0), (1, .ref x1), (3, .int x3)] → Hp G u s H locs → W p l e rm_X5_search s m args below meth c H locs 0 0 (MQ below (Ei G Q) args s 0 0 (ag G)) (F0 m 54 ls []) := by
  intro n
  induction n with
  | zero => intro x0 x1 x3 u H locs ls h; exact h.elim
  | succ n ih => intro x0 x1 x3 u H locs ls h hl hP; exact b_X5_search_54 C hr hlk ih h hl hP
set_option maxHeartbeats 4000000 in
set_option maxRecDepth 100000 in
theorem b_X5_search_25 {G : Gx} {Q : Int32 → Mm → Prop} {p : Program} {l : Launch} {e : Env} {s : State} {m : MethodId} {args : Array Value} {below : List Frame} {meth : Method} {c : Code} (C : Cx G p s m c cX5_search RX5 6) (hr : meth.sig.returnType = (some .int)) (hlk : meth.locks = false) {k_25 : Nat → Nat → Int32 → Mm → Prop} (hk_25 : ∀ (x0 : Nat) (x1 : Nat) (x3 : Int32) (u : Mm) (H : Heap) (locs : List Loc) (ls : Array Slot), k_25 x0 x1 x3 u → lv_has ls 6 [(0, .ref x0), (1, .ref x1), (3, .int x3)] → Hp G u s H locs → W p l e rm_X5_search s m args below meth c H locs 0 0 (MQ below (Ei G Q) args s 0 0 (ag G)) (F0 m 25 ls [])) {x0 : Nat} {x1 : Nat} {x3 : Int32} {u : Mm} {H : Heap} {locs : List Loc} {ls : Array Slot} (h : V_X5_search_25_B G Q k_25 x0 x1 x3 u) (hl : lv_has ls 6 [(0, .ref x0), (1, .ref x1), (3, .int x3)]) (hP : Hp G u s H locs) : W p l e rm_X5_search s m args below meth c H locs 0 0 (MQ below (Ei G Q) args s 0 0 (ag G)) (F0 m 25 ls []) := by
  have hx := C.1
  have hb := C.2.1
  unfold V_X5_search_25_B at h
  refine lv_iload_n hx hb dX5_search_25 rfl (lv_at hl 2 rfl) ?_
  refine lv_aload_n hx hb dX5_search_26 rfl (lv_at hl 0 rfl) ?_
  obtain ⟨g1, h⟩ := h
  refine q_getI C hP (k := 2) (lay_X5 C.hA) rfl (by decide) g1 (fl_X5_25 C.hA) dX5_search_27 ?_
  refine lv_icmp_ge (tgt := 52) hx hb dX5_search_30 (by decide) (fun c30 => ?_) (fun c30 => ?_)
  · have h := h.1 c30
    refine lv_iconst (v := (0 : Int32)) hx hb dX5_search_52 (by decide) ?_
    refine lv_istore_n (lv' := [(3, .int (0 : Int32)), (0, .ref x0), (1, .ref x1)]) hx hb dX5_search_53 rfl hl (by decide) rfl (fun ls hl => ?_)
    obtain ⟨n, h⟩ := h
    exact l_X5_search_54 C hr hlk n x0 x1 (0 : Int32) u _ _ _ h (lv_sub hl [1, 2, 0] rfl) hP
  · have h := h.2 c30
    refine lv_aload_n hx hb dX5_search_33 rfl (lv_at hl 0 rfl) ?_
    refine lv_aload_n hx hb dX5_search_34 rfl (lv_at hl 1 rfl) ?_
    refine lv_aload_n hx hb dX5_search_35 rfl (lv_at hl 0 rfl) ?_
    obtain ⟨g2, h⟩ := h
    refine q_getR C hP (k := 1) (lay_X5 C.hA) rfl (by decide) g1 g2 (fl_X5_11 C.hA) dX5_search_36 ?_
    refine lv_iload_n hx hb dX5_search_39 rfl (lv_at hl 2 rfl) ?_
    obtain ⟨g3, h⟩ := h
    obtain ⟨g4, h⟩ := h
    refine q_iald C hP g3 g4 dX5_search_40 ?_
    refine lv_iconst (v := (-1 : Int32)) hx hb dX5_search_41 (by decide) ?_
    refine lv_iconst (v := (-1 : Int32)) hx hb dX5_search_42 (by decide) ?_
    refine q_calv (q_runV C hP (c_X5_tryPlan h) (cd_X5_tryPlan C.hA) (ini_X5 C.hA) (ml_X5_85 C.hA) (im_X5_tryPlan C.hA) (sl_X5_tryPlan C.hA) g1 (by decide) rfl hd_X5_tryPlan ⟨rfl, rfl⟩ ⟨Nat.le_of_ble_eq_true rfl, Nat.le_of_ble_eq_true rfl⟩ ⟨Nat.le_of_ble_eq_true rfl, Nat.le_of_ble_eq_true rfl⟩ hl.1 rfl (Nat.le_of_ble_eq_true rfl) dX5_search_43) hP (fun u_43 H locs h hP => ?_)
    obtain ⟨x3_46, ex3_46⟩ : ∃ y : Int32, y = x3 + (1 : Int32) := ⟨_, rfl⟩
    have h := h x3_46 ex3_46
    refine lv_iinc (v := x3_46) (lv' := [(3, .int x3_46), (0, .ref x0), (1, .ref x1)]) hx hb dX5_search_46 hl (k := 2) rfl (by rw [ex3_46]; rfl) (by decide) rfl (fun ls hl => ?_)
    refine lv_goto (tgt := 25) hx hb dX5_search_49 (by decide) ?_
    exact hk_25 x0 x1 x3_46 u_43 _ _ _ h (lv_sub hl [1, 2, 0] rfl) hP
theorem l_X5_search_25 {G : Gx} {Q : Int32 → Mm → Prop} {p : Program} {l : Launch} {e : Env} {s : State} {m : MethodId} {args : Array Value} {below : List Frame} {meth : Method} {c : Code} (C : Cx G p s m c cX5_search RX5 6) (hr : meth.sig.returnType = (some .int)) (hlk : meth.locks = false) : ∀ (n : Nat) (x0 : Nat) (x1 : Nat) (x3 : Int32) (u : Mm) (H : Heap) (locs : List Loc) (ls : Array Slot), V_X5_search_25 G Q n x0 x1 x3 u → lv_has ls 6 [(0, .ref x0), (1, .ref x1), (3, .int x3)] → Hp G u s H locs → W p l e rm_X5_search s m args below meth c H locs 0 0 (MQ below (Ei G Q) args s 0 0 (ag G)) (F0 m 25 ls []) := by
  intro n
  induction n with
  | zero => intro x0 x1 x3 u H locs ls h; exact h.elim
  | succ n ih => intro x0 x1 x3 u H locs ls h hl hP; exact b_X5_search_25 C hr hlk ih h hl hP
set_option maxHeartbeats 4000000 in
set_option maxRecDepth 100000 in
theorem c_X5_search {l : Launch} {G : Gx} {p0 : Nat} {p1 : Nat} {p2 : Int32} {u : Mm} {Q : Int32 → Mm → Prop} (h : V_X5_search G p0 p1 p2 u Q) : Met l yX5_search [.code yX5_search cX5_search 6 (some .int)] rm_X5_search (va_Pc [.ref p0, .ref p1, .int p2] (Wd G u)) (Ei G Q) 0 0 (ag G) := by
  refine q_met (by decide) (Nat.le_of_ble_eq_true rfl) ?_
  intro p e s m below meth c ls C hr hlk hnm hl hP
  have hl : lv_has ls 6 [(0, .ref p0), (1, .ref p1), (2, .int p2)] := hl
  generalize ([.ref p0, .ref p1, .int p2] : List Value).toArray = args
  have hx := C.1
  have hb := C.2.1
  unfold V_X5_search at h
  refine lv_aload_n hx hb dX5_search_0 rfl (lv_at hl 0 rfl) ?_
  refine lv_iload_n hx hb dX5_search_1 rfl (lv_at hl 2 rfl) ?_
  obtain ⟨g1, h⟩ := h
  refine q_putI C hP (k := 5) tyX5_ok nmX5 (lay_X5 C.hA) rfl (by decide) rfl rfl rfl rfl g1 (fl_X5_76 C.hA) dX5_search_2 (fun H locs hP => ?_)
  obtain ⟨u_2, eu_2, hP⟩ := Hp.nm hP
  have h := h u_2 eu_2
  refine lv_aload_n hx hb dX5_search_5 rfl (lv_at hl 0 rfl) ?_
  refine lv_iconst (v := (0 : Int32)) hx hb dX5_search_6 (by decide) ?_
  refine q_putI C hP (k := 6) tyX5_ok nmX5 (lay_X5 C.hA) rfl (by decide) rfl rfl rfl rfl g1 (fl_X5_79 C.hA) dX5_search_7 (fun H locs hP => ?_)
  obtain ⟨u_7, eu_7, hP⟩ := Hp.nm hP
  have h := h u_7 eu_7
  refine lv_aload_n hx hb dX5_search_10 rfl (lv_at hl 0 rfl) ?_
  refine lv_iconst (v := (-1 : Int32)) hx hb dX5_search_11 (by decide) ?_
  refine q_putI C hP (k := 7) tyX5_ok nmX5 (lay_X5 C.hA) rfl (by decide) rfl rfl rfl rfl g1 (fl_X5_82 C.hA) dX5_search_12 (fun H locs hP => ?_)
  obtain ⟨u_12, eu_12, hP⟩ := Hp.nm hP
  have h := h u_12 eu_12
  refine lv_aload_n hx hb dX5_search_15 rfl (lv_at hl 0 rfl) ?_
  refine lv_aload_n hx hb dX5_search_16 rfl (lv_at hl 1 rfl) ?_
  refine lv_iconst (v := (-1 : Int32)) hx hb dX5_search_17 (by decide) ?_
  refine lv_iconst (v := (-1 : Int32)) hx hb dX5_search_18 (by decide) ?_
  refine lv_iconst (v := (-1 : Int32)) hx hb dX5_search_19 (by decide) ?_
  refine q_calv (q_runV C hP (c_X5_tryPlan h) (cd_X5_tryPlan C.hA) (ini_X5 C.hA) (ml_X5_85 C.hA) (im_X5_tryPlan C.hA) (sl_X5_tryPlan C.hA) g1 (by decide) rfl hd_X5_tryPlan ⟨rfl, rfl⟩ ⟨Nat.le_of_ble_eq_true rfl, Nat.le_of_ble_eq_true rfl⟩ ⟨Nat.le_of_ble_eq_true rfl, Nat.le_of_ble_eq_true rfl⟩ hl.1 rfl (Nat.le_of_ble_eq_true rfl) dX5_search_20) hP (fun u_20 H locs h hP => ?_)
  refine lv_iconst (v := (0 : Int32)) hx hb dX5_search_23 (by decide) ?_
  refine lv_istore_n (lv' := [(3, .int (0 : Int32)), (0, .ref p0), (1, .ref p1), (2, .int p2)]) hx hb dX5_search_24 rfl hl (by decide) rfl (fun ls hl => ?_)
  obtain ⟨n, h⟩ := h
  exact l_X5_search_25 C hr hlk n p0 p1 (0 : Int32) u_20 _ _ _ h (lv_sub hl [1, 2, 0] rfl) hP
-- X2_keepRow
abbrev rm_X2_keepRow : Room := { frames := 2, cells := 0, slots := 0, locals := 46 }
theorem hd_X2_keepRow : yX2_keepRow.cls ≠ "java/lang/invoke/MethodHandle" ∧ yX2_keepRow.cls ≠ "java/lang/invoke/VarHandle" ∧ (parseMethodDescriptor yX2_keepRow.desc).map (fun d => d.parameters.length) = some 3 := by decide +kernel
def V_X2_keepRow_17_B (G : Gx) (Q : Mm → Prop) (k_17 : Nat → Int32 → Nat → Nat → Int32 → Mm → Prop) (x0 : Nat) (x1 : Int32) (x2 : Nat) (x3 : Nat) (x4 : Int32) (u : Mm) : Prop :=
  kd G x0 = 2 ∧ (gR u x0 1) ≠ 0 ∧ kd G (gR u x0 1) = 13 ∧ vp_in x1 (ln G (gR u x0 1)) ∧ (((gI u (gR u x0 1) x1.toNatClampNeg) ≤ x4 → Q u) ∧ (¬ (gI u (gR u x0 1) x1.toNatClampNeg) ≤ x4 → (gR u x0 0) ≠ 0 ∧ kd G (gR u x0 0) = 22 ∧ vp_in x1 (ln G (gR u x0 0)) ∧ (gR u (gR u x0 0) x1.toNatClampNeg) ≠ 0 ∧ kd G x2 = 3 ∧ (gR u x2 6) ≠ 0 ∧ kd G (gR u x2 6) = 13 ∧ vp_in x4 (ln G (gR u x2 6)) ∧ kd G x3 = 4 ∧ V_X11_byAir G (gI u (gR u x2 6) x4.toNatClampNeg) (gI u x3 7) u (fun (v_47 : Int32) (u_47 : Mm) => kd G (gR u (gR u x0 0) x1.toNatClampNeg) = 13 ∧ vp_in x4 (ln G (gR u (gR u x0 0) x1.toNatClampNeg)) ∧ ∀ u_50 : Mm, u_50 = sI u_47 (gR u (gR u x0 0) x1.toNatClampNeg) x4.toNatClampNeg v_47 → ∀ x4_51 : Int32, x4_51 = x4 + (1 : Int32) → k_17 x0 x1 x2 x3 x4_51 u_50)))
def V_X2_keepRow_17 (G : Gx) (Q : Mm → Prop) : Nat → (Nat → Int32 → Nat → Nat → Int32 → Mm → Prop)
  | 0 => fun _ _ _ _ _ _ => False
  | n + 1 => fun x0 x1 x2 x3 x4 u => V_X2_keepRow_17_B G Q (V_X2_keepRow_17 G Q n) x0 x1 x2 x3 x4 u
def V_X2_keepRow (G : Gx) (p0 : Nat) (p1 : Int32) (p2 : Nat) (p3 : Nat) (u : Mm) (Q : Mm → Prop) : Prop :=
  kd G p0 = 2 ∧ (gR u p0 1) ≠ 0 ∧ kd G p3 = 4 ∧ kd G p2 = 3 ∧ V_X3_orderHeard G p2 (gI u p3 6) u (fun (v_10 : Int32) (u_10 : Mm) => kd G (gR u p0 1) = 13 ∧ vp_in p1 (ln G (gR u p0 1)) ∧ ∀ u_13 : Mm, u_13 = sI u_10 (gR u p0 1) p1.toNatClampNeg v_10 → ∃ n : Nat, V_X2_keepRow_17 G Q n p0 p1 p2 p3 (0 : Int32) u_13)
set_option maxHeartbeats 4000000 in
set_option maxRecDepth 100000 in
theorem b_X2_keepRow_17 {G : Gx} {Q : Mm → Prop} {p : Program} {l : Launch} {e : Env} {s : State} {m : MethodId} {args : Array Value} {below : List Frame} {meth : Method} {c : Code} (C : Cx G p s m c cX2_keepRow RX2 5) (hr : meth.sig.returnType = none) (hlk : meth.locks = false) {k_17 : Nat → Int32 → Nat → Nat → Int32 → Mm → Prop} (hk_17 : ∀ (x0 : Nat) (x1 : Int32) (x2 : Nat) (x3 : Nat) (x4 : Int32) (u : Mm) (H : Heap) (locs : List Loc) (ls : Array Slot), k_17 x0 x1 x2 x3 x4 u → lv_has ls 5 [(0, .ref x0), (1, .int x1), (2, .ref x2), (3, .ref x3), (4, .int x4)] → Hp G u s H locs → W p l e rm_X2_keepRow s m args below meth c H locs 0 0 (MQ below (Ev G Q) args s 0 0 (ag G)) (F0 m 17 ls [])) {x0 : Nat} {x1 : Int32} {x2 : Nat} {x3 : Nat} {x4 : Int32} {u : Mm} {H : Heap} {locs : List Loc} {ls : Array Slot} (h : V_X2_keepRow_17_B G Q k_17 x0 x1 x2 x3 x4 u) (hl : lv_has ls 5 [(0, .ref x0), (1, .int x1), (2, .ref x2), (3, .ref x3), (4, .int x4)]) (hP : Hp G u s H locs) : W p l e rm_X2_keepRow s m args below meth c H locs 0 0 (MQ below (Ev G Q) args s 0 0 (ag G)) (F0 m 17 ls []) := by
  have hx := C.1
  have hb := C.2.1
  unfold V_X2_keepRow_17_B at h
  refine lv_iload hx hb dX2_keepRow_17 (lv_at hl 4 rfl) ?_
  refine lv_aload_n hx hb dX2_keepRow_19 rfl (lv_at hl 0 rfl) ?_
  obtain ⟨g1, h⟩ := h
  obtain ⟨g2, h⟩ := h
  refine q_getR C hP (k := 1) (lay_X2 C.hA) rfl (by decide) g1 g2 (fl_X2_16 C.hA) dX2_keepRow_20 ?_
  refine lv_iload_n hx hb dX2_keepRow_23 rfl (lv_at hl 1 rfl) ?_
  obtain ⟨g3, h⟩ := h
  obtain ⟨g4, h⟩ := h
  refine q_iald C hP g3 g4 dX2_keepRow_24 ?_
  refine lv_icmp_ge (tgt := 57) hx hb dX2_keepRow_25 (by decide) (fun c25 => ?_) (fun c25 => ?_)
  · have h := h.1 c25
    exact q_vret C hr hlk hP h (by decide) (by decide) dX2_keepRow_57
  · have h := h.2 c25
    refine lv_aload_n hx hb dX2_keepRow_28 rfl (lv_at hl 0 rfl) ?_
    obtain ⟨g5, h⟩ := h
    refine q_getR C hP (k := 0) (lay_X2 C.hA) rfl (by decide) g1 g5 (fl_X2_11 C.hA) dX2_keepRow_29 ?_
    refine lv_iload_n hx hb dX2_keepRow_32 rfl (lv_at hl 1 rfl) ?_
    obtain ⟨g6, h⟩ := h
    obtain ⟨g7, h⟩ := h
    obtain ⟨g8, h⟩ := h
    refine q_aaldA C hP g6 g7 g8 dX2_keepRow_33 ?_
    refine lv_iload hx hb dX2_keepRow_34 (lv_at hl 4 rfl) ?_
    refine lv_aload_n hx hb dX2_keepRow_36 rfl (lv_at hl 2 rfl) ?_
    obtain ⟨g9, h⟩ := h
    obtain ⟨g10, h⟩ := h
    refine q_getRN C hP (k := 6) (lay_X3 C.hA) rfl (by decide) g9 g10 (fn_X2_41 C.hA) dX2_keepRow_37 ?_
    refine lv_iload hx hb dX2_keepRow_40 (lv_at hl 4 rfl) ?_
    obtain ⟨g11, h⟩ := h
    obtain ⟨g12, h⟩ := h
    refine q_iald C hP g11 g12 dX2_keepRow_42 ?_
    refine lv_aload_n hx hb dX2_keepRow_43 rfl (lv_at hl 3 rfl) ?_
    obtain ⟨g13, h⟩ := h
    refine q_getIN C hP (k := 7) (lay_X4 C.hA) rfl (by decide) g13 (fn_X2_44 C.hA) dX2_keepRow_44 ?_
    refine q_cali (q_runSN C hP (c_X11_byAir h) (cd_X11_byAir C.hA) (ini_X11 C.hA) (mn_X2_47 C.hA) (st_X11_byAir C.hA) hd_X11_byAir ⟨rfl, rfl⟩ ⟨Nat.le_of_ble_eq_true rfl, Nat.le_of_ble_eq_true rfl⟩ ⟨Nat.le_of_ble_eq_true rfl, Nat.le_of_ble_eq_true rfl⟩ hl.1 rfl (Nat.le_of_ble_eq_true rfl) dX2_keepRow_47) hP (fun v_47 u_47 H locs h hP => ?_)
    obtain ⟨g14, h⟩ := h
    obtain ⟨g15, h⟩ := h
    refine q_iast C hP g14 g15 dX2_keepRow_50 (fun H locs hP => ?_)
    obtain ⟨u_50, eu_50, hP⟩ := Hp.nm hP
    have h := h u_50 eu_50
    obtain ⟨x4_51, ex4_51⟩ : ∃ y : Int32, y = x4 + (1 : Int32) := ⟨_, rfl⟩
    have h := h x4_51 ex4_51
    refine lv_iinc (v := x4_51) (lv' := [(4, .int x4_51), (0, .ref x0), (1, .int x1), (2, .ref x2), (3, .ref x3)]) hx hb dX2_keepRow_51 hl (k := 4) rfl (by rw [ex4_51]; rfl) (by decide) rfl (fun ls hl => ?_)
    refine lv_goto (tgt := 17) hx hb dX2_keepRow_54 (by decide) ?_
    exact hk_17 x0 x1 x2 x3 x4_51 u_50 _ _ _ h (lv_sub hl [1, 2, 3, 4, 0] rfl) hP
theorem l_X2_keepRow_17 {G : Gx} {Q : Mm → Prop} {p : Program} {l : Launch} {e : Env} {s : State} {m : MethodId} {args : Array Value} {below : List Frame} {meth : Method} {c : Code} (C : Cx G p s m c cX2_keepRow RX2 5) (hr : meth.sig.returnType = none) (hlk : meth.locks = false) : ∀ (n : Nat) (x0 : Nat) (x1 : Int32) (x2 : Nat) (x3 : Nat) (x4 : Int32) (u : Mm) (H : Heap) (locs : List Loc) (ls : Array Slot), V_X2_keepRow_17 G Q n x0 x1 x2 x3 x4 u → lv_has ls 5 [(0, .ref x0), (1, .int x1), (2, .ref x2), (3, .ref x3), (4, .int x4)] → Hp G u s H locs → W p l e rm_X2_keepRow s m args below meth c H locs 0 0 (MQ below (Ev G Q) args s 0 0 (ag G)) (F0 m 17 ls []) := by
  intro n
  induction n with
  | zero => intro x0 x1 x2 x3 x4 u H locs ls h; exact h.elim
  | succ n ih => intro x0 x1 x2 x3 x4 u H locs ls h hl hP; exact b_X2_keepRow_17 C hr hlk ih h hl hP
set_option maxHeartbeats 4000000 in
set_option maxRecDepth 100000 in
theorem c_X2_keepRow {l : Launch} {G : Gx} {p0 : Nat} {p1 : Int32} {p2 : Nat} {p3 : Nat} {u : Mm} {Q : Mm → Prop} (h : V_X2_keepRow G p0 p1 p2 p3 u Q) : Met l yX2_keepRow [.code yX2_keepRow cX2_keepRow 5 none] rm_X2_keepRow (va_Pc [.ref p0, .int p1, .ref p2, .ref p3] (Wd G u)) (Ev G Q) 0 0 (ag G) := by
  refine q_met (by decide) (Nat.le_of_ble_eq_true rfl) ?_
  intro p e s m below meth c ls C hr hlk hnm hl hP
  have hl : lv_has ls 5 [(0, .ref p0), (1, .int p1), (2, .ref p2), (3, .ref p3)] := hl
  generalize ([.ref p0, .int p1, .ref p2, .ref p3] : List Value).toArray = args
  have hx := C.1
  have hb := C.2.1
  unfold V_X2_keepRow at h
  refine lv_aload_n hx hb dX2_keepRow_0 rfl (lv_at hl 0 rfl) ?_
  obtain ⟨g1, h⟩ := h
  obtain ⟨g2, h⟩ := h
  refine q_getR C hP (k := 1) (lay_X2 C.hA) rfl (by decide) g1 g2 (fl_X2_16 C.hA) dX2_keepRow_1 ?_
  refine lv_iload_n hx hb dX2_keepRow_4 rfl (lv_at hl 1 rfl) ?_
  refine lv_aload_n hx hb dX2_keepRow_5 rfl (lv_at hl 2 rfl) ?_
  refine lv_aload_n hx hb dX2_keepRow_6 rfl (lv_at hl 3 rfl) ?_
  obtain ⟨g3, h⟩ := h
  refine q_getIN C hP (k := 6) (lay_X4 C.hA) rfl (by decide) g3 (fn_X2_29 C.hA) dX2_keepRow_7 ?_
  obtain ⟨g4, h⟩ := h
  refine q_cali (q_runVN C hP (c_X3_orderHeard h) (cd_X3_orderHeard C.hA) (ini_X3 C.hA) (mn_X2_35 C.hA) (im_X3_orderHeard C.hA) (sl_X3_orderHeard C.hA) g4 (by decide) rfl hd_X3_orderHeard ⟨rfl, rfl⟩ ⟨Nat.le_of_ble_eq_true rfl, Nat.le_of_ble_eq_true rfl⟩ ⟨Nat.le_of_ble_eq_true rfl, Nat.le_of_ble_eq_true rfl⟩ hl.1 rfl (Nat.le_of_ble_eq_true rfl) dX2_keepRow_10) hP (fun v_10 u_10 H locs h hP => ?_)
  obtain ⟨g5, h⟩ := h
  obtain ⟨g6, h⟩ := h
  refine q_iast C hP g5 g6 dX2_keepRow_13 (fun H locs hP => ?_)
  obtain ⟨u_13, eu_13, hP⟩ := Hp.nm hP
  have h := h u_13 eu_13
  refine lv_iconst (v := (0 : Int32)) hx hb dX2_keepRow_14 (by decide) ?_
  refine lv_istore (lv' := [(4, .int (0 : Int32)), (0, .ref p0), (1, .int p1), (2, .ref p2), (3, .ref p3)]) hx hb dX2_keepRow_15 hl (by decide) rfl (fun ls hl => ?_)
  obtain ⟨n, h⟩ := h
  exact l_X2_keepRow_17 C hr hlk n p0 p1 p2 p3 (0 : Int32) u_13 _ _ _ h (lv_sub hl [1, 2, 3, 4, 0] rfl) hP
-- X2_compareRows
abbrev rm_X2_compareRows : Room := { frames := 1, cells := 0, slots := 0, locals := 23 }
theorem hd_X2_compareRows : yX2_compareRows.cls ≠ "java/lang/invoke/MethodHandle" ∧ yX2_compareRows.cls ≠ "java/lang/invoke/VarHandle" ∧ (parseMethodDescriptor yX2_compareRows.desc).map (fun d => d.parameters.length) = some 1 := by decide +kernel
def V_X2_compareRows_68 (G : Gx) (Q : Mm → Prop) (k_2 : Nat → Int32 → Int32 → Mm → Prop) (k_13 : Nat → Int32 → Int32 → Int32 → Int32 → Mm → Prop) (x0 : Nat) (x1 : Int32) (x2 : Int32) (x3 : Int32) (x4 : Int32) (u : Mm) : Prop :=
  ∀ x4_68 : Int32, x4_68 = x4 + (1 : Int32) → k_13 x0 x1 x2 x3 x4_68 u
def V_X2_compareRows_13_B (G : Gx) (Q : Mm → Prop) (k_2 : Nat → Int32 → Int32 → Mm → Prop) (k_13 : Nat → Int32 → Int32 → Int32 → Int32 → Mm → Prop) (x0 : Nat) (x1 : Int32) (x2 : Int32) (x3 : Int32) (x4 : Int32) (u : Mm) : Prop :=
  (((6 : Int32) ≤ x4 → kd G x0 = 2 ∧ (gR u x0 2) ≠ 0 ∧ kd G (gR u x0 2) = 13 ∧ vp_in ((x1 * (6 : Int32)) + x2) (ln G (gR u x0 2)) ∧ ∀ u_85 : Mm, u_85 = sI u (gR u x0 2) ((x1 * (6 : Int32)) + x2).toNatClampNeg x3 → ∀ x2_86 : Int32, x2_86 = x2 + (1 : Int32) → k_2 x0 x1 x2_86 u_85) ∧ (¬ (6 : Int32) ≤ x4 → kd G x0 = 2 ∧ (gR u x0 1) ≠ 0 ∧ kd G (gR u x0 1) = 13 ∧ vp_in x2 (ln G (gR u x0 1)) ∧ vp_in x4 (ln G (gR u x0 1)) ∧ (((gI u (gR u x0 1) x2.toNatClampNeg) = (gI u (gR u x0 1) x4.toNatClampNeg) → (gR u x0 0) ≠ 0 ∧ kd G (gR u x0 0) = 22 ∧ vp_in x2 (ln G (gR u x0 0)) ∧ (gR u (gR u x0 0) x2.toNatClampNeg) ≠ 0 ∧ vp_in x4 (ln G (gR u x0 0)) ∧ (gR u (gR u x0 0) x4.toNatClampNeg) ≠ 0 ∧ V_X11_sameStart G (gR u (gR u x0 0) x2.toNatClampNeg) (gR u (gR u x0 0) x4.toNatClampNeg) (gI u (gR u x0 1) x2.toNatClampNeg) u (fun (v_55 : Int32) (u_55 : Mm) => ((v_55 = 0 → V_X2_compareRows_68 G Q k_2 k_13 x0 x1 x2 x3 x4 u_55) ∧ (¬ v_55 = 0 → ∀ x3_67 : Int32, x3_67 = (x3 ||| (shl (1 : Int32) x4)) → V_X2_compareRows_68 G Q k_2 k_13 x0 x1 x2 x3_67 x4 u_55)))) ∧ (¬ (gI u (gR u x0 1) x2.toNatClampNeg) = (gI u (gR u x0 1) x4.toNatClampNeg) → V_X2_compareRows_68 G Q k_2 k_13 x0 x1 x2 x3 x4 u))))
def V_X2_compareRows_13 (G : Gx) (Q : Mm → Prop) (k_2 : Nat → Int32 → Int32 → Mm → Prop) : Nat → (Nat → Int32 → Int32 → Int32 → Int32 → Mm → Prop)
  | 0 => fun _ _ _ _ _ _ => False
  | n + 1 => fun x0 x1 x2 x3 x4 u => V_X2_compareRows_13_B G Q k_2 (V_X2_compareRows_13 G Q k_2 n) x0 x1 x2 x3 x4 u
def V_X2_compareRows_2_B (G : Gx) (Q : Mm → Prop) (k_2 : Nat → Int32 → Int32 → Mm → Prop) (x0 : Nat) (x1 : Int32) (x2 : Int32) (u : Mm) : Prop :=
  (((6 : Int32) ≤ x2 → Q u) ∧ (¬ (6 : Int32) ≤ x2 → ∃ n : Nat, V_X2_compareRows_13 G Q k_2 n x0 x1 x2 (0 : Int32) (0 : Int32) u))
def V_X2_compareRows_2 (G : Gx) (Q : Mm → Prop) : Nat → (Nat → Int32 → Int32 → Mm → Prop)
  | 0 => fun _ _ _ _ => False
  | n + 1 => fun x0 x1 x2 u => V_X2_compareRows_2_B G Q (V_X2_compareRows_2 G Q n) x0 x1 x2 u
def V_X2_compareRows (G : Gx) (p0 : Nat) (p1 : Int32) (u : Mm) (Q : Mm → Prop) : Prop :=
  ∃ n : Nat, V_X2_compareRows_2 G Q n p0 p1 (0 : Int32) u
set_option maxHeartbeats 4000000 in
set_option maxRecDepth 100000 in
theorem b_X2_compareRows_68 {G : Gx} {Q : Mm → Prop} {p : Program} {l : Launch} {e : Env} {s : State} {m : MethodId} {args : Array Value} {below : List Frame} {meth : Method} {c : Code} (C : Cx G p s m c cX2_compareRows RX2 5) (hr : meth.sig.returnType = none) (hlk : meth.locks = false) {k_2 : Nat → Int32 → Int32 → Mm → Prop} (hk_2 : ∀ (x0 : Nat) (x1 : Int32) (x2 : Int32) (u : Mm) (H : Heap) (locs : List Loc) (ls : Array Slot), k_2 x0 x1 x2 u → lv_has ls 5 [(0, .ref x0), (1, .int x1), (2, .int x2)] → Hp G u s H locs → W p l e rm_X2_compareRows s m args below meth c H locs 0 0 (MQ below (Ev G Q) args s 0 0 (ag G)) (F0 m 2 ls [])) {k_13 : Nat → Int32 → Int32 → Int32 → Int32 → Mm → Prop} (hk_13 : ∀ (x0 : Nat) (x1 : Int32) (x2 : Int32) (x3 : Int32) (x4 : Int32) (u : Mm) (H : Heap) (locs : List Loc) (ls : Array Slot), k_13 x0 x1 x2 x3 x4 u → lv_has ls 5 [(0, .ref x0), (1, .int x1), (2, .int x2), (3, .int x3), (4, .int x4)] → Hp G u s H locs → W p l e rm_X2_compareRows s m args below meth c H locs 0 0 (MQ below (Ev G Q) args s 0 0 (ag G)) (F0 m 13 ls [])) {x0 : Nat} {x1 : Int32} {x2 : Int32} {x3 : Int32} {x4 : Int32} {u : Mm} {H : Heap} {locs : List Loc} {ls : Array Slot} (h : V_X2_compareRows_68 G Q k_2 k_13 x0 x1 x2 x3 x4 u) (hl : lv_has ls 5 [(0, .ref x0), (1, .int x1), (2, .int x2), (3, .int x3), (4, .int x4)]) (hP : Hp G u s H locs) : W p l e rm_X2_compareRows s m args below meth c H locs 0 0 (MQ below (Ev G Q) args s 0 0 (ag G)) (F0 m 68 ls []) := by
  have hx := C.1
  have hb := C.2.1
  unfold V_X2_compareRows_68 at h
  obtain ⟨x4_68, ex4_68⟩ : ∃ y : Int32, y = x4 + (1 : Int32) := ⟨_, rfl⟩
  have h := h x4_68 ex4_68
  refine lv_iinc (v := x4_68) (lv' := [(4, .int x4_68), (0, .ref x0), (1, .int x1), (2, .int x2), (3, .int x3)]) hx hb dX2_compareRows_68 hl (k := 4) rfl (by rw [ex4_68]; rfl) (by decide) rfl (fun ls hl => ?_)
  refine lv_goto (tgt := 13) hx hb dX2_compareRows_71 (by decide) ?_
  exact hk_13 x0 x1 x2 x3 x4_68 u _ _ _ h (lv_sub hl [1, 2, 3, 4, 0] rfl) hP
set_option maxHeartbeats 4000000 in
set_option maxRecDepth 100000 in
theorem b_X2_compareRows_13 {G : Gx} {Q : Mm → Prop} {p : Program} {l : Launch} {e : Env} {s : State} {m : MethodId} {args : Array Value} {below : List Frame} {meth : Method} {c : Code} (C : Cx G p s m c cX2_compareRows RX2 5) (hr : meth.sig.returnType = none) (hlk : meth.locks = false) {k_2 : Nat → Int32 → Int32 → Mm → Prop} (hk_2 : ∀ (x0 : Nat) (x1 : Int32) (x2 : Int32) (u : Mm) (H : Heap) (locs : List Loc) (ls : Array Slot), k_2 x0 x1 x2 u → lv_has ls 5 [(0, .ref x0), (1, .int x1), (2, .int x2)] → Hp G u s H locs → W p l e rm_X2_compareRows s m args below meth c H locs 0 0 (MQ below (Ev G Q) args s 0 0 (ag G)) (F0 m 2 ls [])) {k_13 : Nat → Int32 → Int32 → Int32 → Int32 → Mm → Prop} (hk_13 : ∀ (x0 : Nat) (x1 : Int32) (x2 : Int32) (x3 : Int32) (x4 : Int32) (u : Mm) (H : Heap) (locs : List Loc) (ls : Array Slot), k_13 x0 x1 x2 x3 x4 u → lv_has ls 5 [(0, .ref x0), (1, .int x1), (2, .int x2), (3, .int x3), (4, .int x4)] → Hp G u s H locs → W p l e rm_X2_compareRows s m args below meth c H locs 0 0 (MQ below (Ev G Q) args s 0 0 (ag G)) (F0 m 13 ls [])) {x0 : Nat} {x1 : Int32} {x2 : Int32} {x3 : Int32} {x4 : Int32} {u : Mm} {H : Heap} {locs : List Loc} {ls : Array Slot} (h : V_X2_compareRows_13_B G Q k_2 k_13 x0 x1 x2 x3 x4 u) (hl : lv_has ls 5 [(0, .ref x0), (1, .int x1), (2, .int x2), (3, .int x3), (4, .int x4)]) (hP : Hp G u s H locs) : W p l e rm_X2_compareRows s m args below meth c H locs 0 0 (MQ below (Ev G Q) args s 0 0 (ag G)) (F0 m 13 ls []) := by
  have hx := C.1
  have hb := C.2.1
  unfold V_X2_compareRows_13_B at h
  refine lv_iload hx hb dX2_compareRows_13 (lv_at hl 4 rfl) ?_
  refine lv_bipush (v := (6 : Int32)) hx hb dX2_compareRows_15 (by decide) ?_
  refine lv_icmp_ge (tgt := 74) hx hb dX2_compareRows_17 (by decide) (fun c17 => ?_) (fun c17 => ?_)
  · have h := h.1 c17
    refine lv_aload_n hx hb dX2_compareRows_74 rfl (lv_at hl 0 rfl) ?_
    obtain ⟨g1, h⟩ := h
    obtain ⟨g2, h⟩ := h
    refine q_getR C hP (k := 2) (lay_X2 C.hA) rfl (by decide) g1 g2 (fl_X2_20 C.hA) dX2_compareRows_75 ?_
    refine lv_iload_n hx hb dX2_compareRows_78 rfl (lv_at hl 1 rfl) ?_
    refine lv_bipush (v := (6 : Int32)) hx hb dX2_compareRows_79 (by decide) ?_
    refine lv_imul hx hb dX2_compareRows_81 ?_
    refine lv_iload_n hx hb dX2_compareRows_82 rfl (lv_at hl 2 rfl) ?_
    refine lv_iadd hx hb dX2_compareRows_83 ?_
    refine lv_iload_n hx hb dX2_compareRows_84 rfl (lv_at hl 3 rfl) ?_
    obtain ⟨g3, h⟩ := h
    obtain ⟨g4, h⟩ := h
    refine q_iast C hP g3 g4 dX2_compareRows_85 (fun H locs hP => ?_)
    obtain ⟨u_85, eu_85, hP⟩ := Hp.nm hP
    have h := h u_85 eu_85
    obtain ⟨x2_86, ex2_86⟩ : ∃ y : Int32, y = x2 + (1 : Int32) := ⟨_, rfl⟩
    have h := h x2_86 ex2_86
    refine lv_iinc (v := x2_86) (lv' := [(2, .int x2_86), (0, .ref x0), (1, .int x1), (3, .int x3), (4, .int x4)]) hx hb dX2_compareRows_86 hl (k := 2) rfl (by rw [ex2_86]; rfl) (by decide) rfl (fun ls hl => ?_)
    refine lv_goto (tgt := 2) hx hb dX2_compareRows_89 (by decide) ?_
    exact hk_2 x0 x1 x2_86 u_85 _ _ _ h (lv_sub hl [1, 2, 0] rfl) hP
  · have h := h.2 c17
    refine lv_aload_n hx hb dX2_compareRows_20 rfl (lv_at hl 0 rfl) ?_
    obtain ⟨g5, h⟩ := h
    obtain ⟨g6, h⟩ := h
    refine q_getR C hP (k := 1) (lay_X2 C.hA) rfl (by decide) g5 g6 (fl_X2_16 C.hA) dX2_compareRows_21 ?_
    refine lv_iload_n hx hb dX2_compareRows_24 rfl (lv_at hl 2 rfl) ?_
    obtain ⟨g7, h⟩ := h
    obtain ⟨g8, h⟩ := h
    refine q_iald C hP g7 g8 dX2_compareRows_25 ?_
    refine lv_aload_n hx hb dX2_compareRows_26 rfl (lv_at hl 0 rfl) ?_
    refine q_getR C hP (k := 1) (lay_X2 C.hA) rfl (by decide) g5 g6 (fl_X2_16 C.hA) dX2_compareRows_27 ?_
    refine lv_iload hx hb dX2_compareRows_30 (lv_at hl 4 rfl) ?_
    obtain ⟨g9, h⟩ := h
    refine q_iald C hP g7 g9 dX2_compareRows_32 ?_
    refine lv_icmp_ne (tgt := 68) hx hb dX2_compareRows_33 (by decide) (fun c33 => ?_) (fun c33 => ?_)
    · have h := h.2 c33
      exact b_X2_compareRows_68 C hr hlk hk_2 hk_13 h (lv_sub hl [0, 1, 2, 3, 4] rfl) hP
    · have h := h.1 c33
      refine lv_aload_n hx hb dX2_compareRows_36 rfl (lv_at hl 0 rfl) ?_
      obtain ⟨g10, h⟩ := h
      refine q_getR C hP (k := 0) (lay_X2 C.hA) rfl (by decide) g5 g10 (fl_X2_11 C.hA) dX2_compareRows_37 ?_
      refine lv_iload_n hx hb dX2_compareRows_40 rfl (lv_at hl 2 rfl) ?_
      obtain ⟨g11, h⟩ := h
      obtain ⟨g12, h⟩ := h
      obtain ⟨g13, h⟩ := h
      refine q_aaldA C hP g11 g12 g13 dX2_compareRows_41 ?_
      refine lv_aload_n hx hb dX2_compareRows_42 rfl (lv_at hl 0 rfl) ?_
      refine q_getR C hP (k := 0) (lay_X2 C.hA) rfl (by decide) g5 g10 (fl_X2_11 C.hA) dX2_compareRows_43 ?_
      refine lv_iload hx hb dX2_compareRows_46 (lv_at hl 4 rfl) ?_
      obtain ⟨g14, h⟩ := h
      obtain ⟨g15, h⟩ := h
      refine q_aaldA C hP g11 g14 g15 dX2_compareRows_48 ?_
      refine lv_aload_n hx hb dX2_compareRows_49 rfl (lv_at hl 0 rfl) ?_
      refine q_getR C hP (k := 1) (lay_X2 C.hA) rfl (by decide) g5 g6 (fl_X2_16 C.hA) dX2_compareRows_50 ?_
      refine lv_iload_n hx hb dX2_compareRows_53 rfl (lv_at hl 2 rfl) ?_
      refine q_iald C hP g7 g8 dX2_compareRows_54 ?_
      refine q_cali (q_runSN C hP (c_X11_sameStart h) (cd_X11_sameStart C.hA) (ini_X11 C.hA) (mn_X2_51 C.hA) (st_X11_sameStart C.hA) hd_X11_sameStart ⟨rfl, rfl⟩ ⟨Nat.le_of_ble_eq_true rfl, Nat.le_of_ble_eq_true rfl⟩ ⟨Nat.le_of_ble_eq_true rfl, Nat.le_of_ble_eq_true rfl⟩ hl.1 rfl (Nat.le_of_ble_eq_true rfl) dX2_compareRows_55) hP (fun v_55 u_55 H locs h hP => ?_)
      refine lv_if_eq (tgt := 68) hx hb dX2_compareRows_58 (by decide) (fun c58 => ?_) (fun c58 => ?_)
      · have h := h.1 c58
        exact b_X2_compareRows_68 C hr hlk hk_2 hk_13 h (lv_sub hl [0, 1, 2, 3, 4] rfl) hP
      · have h := h.2 c58
        refine lv_iload_n hx hb dX2_compareRows_61 rfl (lv_at hl 3 rfl) ?_
        refine lv_iconst (v := (1 : Int32)) hx hb dX2_compareRows_62 (by decide) ?_
        refine lv_iload hx hb dX2_compareRows_63 (lv_at hl 4 rfl) ?_
        refine lv_ishl hx hb dX2_compareRows_65 ?_
        refine lv_ior hx hb dX2_compareRows_66 ?_
        refine lv_topi (fun x3_67 ex3_67 => ?_)
        have h := h x3_67 ex3_67
        refine lv_istore_n (lv' := [(3, .int x3_67), (0, .ref x0), (1, .int x1), (2, .int x2), (4, .int x4)]) hx hb dX2_compareRows_67 rfl hl (by decide) rfl (fun ls hl => ?_)
        exact b_X2_compareRows_68 C hr hlk hk_2 hk_13 h (lv_sub hl [1, 2, 3, 0, 4] rfl) hP
theorem l_X2_compareRows_13 {G : Gx} {Q : Mm → Prop} {p : Program} {l : Launch} {e : Env} {s : State} {m : MethodId} {args : Array Value} {below : List Frame} {meth : Method} {c : Code} (C : Cx G p s m c cX2_compareRows RX2 5) (hr : meth.sig.returnType = none) (hlk : meth.locks = false) {k_2 : Nat → Int32 → Int32 → Mm → Prop} (hk_2 : ∀ (x0 : Nat) (x1 : Int32) (x2 : Int32) (u : Mm) (H : Heap) (locs : List Loc) (ls : Array Slot), k_2 x0 x1 x2 u → lv_has ls 5 [(0, .ref x0), (1, .int x1), (2, .int x2)] → Hp G u s H locs → W p l e rm_X2_compareRows s m args below meth c H locs 0 0 (MQ below (Ev G Q) args s 0 0 (ag G)) (F0 m 2 ls [])) : ∀ (n : Nat) (x0 : Nat) (x1 : Int32) (x2 : Int32) (x3 : Int32) (x4 : Int32) (u : Mm) (H : Heap) (locs : List Loc) (ls : Array Slot), V_X2_compareRows_13 G Q k_2 n x0 x1 x2 x3 x4 u → lv_has ls 5 [(0, .ref x0), (1, .int x1), (2, .int x2), (3, .int x3), (4, .int x4)] → Hp G u s H locs → W p l e rm_X2_compareRows s m args below meth c H locs 0 0 (MQ below (Ev G Q) args s 0 0 (ag G)) (F0 m 13 ls []) := by
  intro n
  induction n with
  | zero => intro x0 x1 x2 x3 x4 u H locs ls h; exact h.elim
  | succ n ih => intro x0 x1 x2 x3 x4 u H locs ls h hl hP; exact b_X2_compareRows_13 C hr hlk hk_2 ih h hl hP
set_option maxHeartbeats 4000000 in
set_option maxRecDepth 100000 in
theorem b_X2_compareRows_2 {G : Gx} {Q : Mm → Prop} {p : Program} {l : Launch} {e : Env} {s : State} {m : MethodId} {args : Array Value} {below : List Frame} {meth : Method} {c : Code} (C : Cx G p s m c cX2_compareRows RX2 5) (hr : meth.sig.returnType = none) (hlk : meth.locks = false) {k_2 : Nat → Int32 → Int32 → Mm → Prop} (hk_2 : ∀ (x0 : Nat) (x1 : Int32) (x2 : Int32) (u : Mm) (H : Heap) (locs : List Loc) (ls : Array Slot), k_2 x0 x1 x2 u → lv_has ls 5 [(0, .ref x0), (1, .int x1), (2, .int x2)] → Hp G u s H locs → W p l e rm_X2_compareRows s m args below meth c H locs 0 0 (MQ below (Ev G Q) args s 0 0 (ag G)) (F0 m 2 ls [])) {x0 : Nat} {x1 : Int32} {x2 : Int32} {u : Mm} {H : Heap} {locs : List Loc} {ls : Array Slot} (h : V_X2_compareRows_2_B G Q k_2 x0 x1 x2 u) (hl : lv_has ls 5 [(0, .ref x0), (1, .int x1), (2, .int x2)]) (hP : Hp G u s H locs) : W p l e rm_X2_compareRows s m args below meth c H locs 0 0 (MQ below (Ev G Q) args s 0 0 (ag G)) (F0 m 2 ls []) := by
  have hx := C.1
  have hb := C.2.1
  unfold V_X2_compareRows_2_B at h
  refine lv_iload_n hx hb dX2_compareRows_2 rfl (lv_at hl 2 rfl) ?_
  refine lv_bipush (v := (6 : Int32)) hx hb dX2_compareRows_3 (by decide) ?_
  refine lv_icmp_ge (tgt := 92) hx hb dX2_compareRows_5 (by decide) (fun c5 => ?_) (fun c5 => ?_)
  · have h := h.1 c5
    exact q_vret C hr hlk hP h (by decide) (by decide) dX2_compareRows_92
  · have h := h.2 c5
    refine lv_iconst (v := (0 : Int32)) hx hb dX2_compareRows_8 (by decide) ?_
    refine lv_istore_n (lv' := [(3, .int (0 : Int32)), (0, .ref x0), (1, .int x1), (2, .int x2)]) hx hb dX2_compareRows_9 rfl hl (by decide) rfl (fun ls hl => ?_)
    refine lv_iconst (v := (0 : Int32)) hx hb dX2_compareRows_10 (by decide) ?_
    refine lv_istore (lv' := [(4, .int (0 : Int32)), (3, .int (0 : Int32)), (0, .ref x0), (1, .int x1), (2, .int x2)]) hx hb dX2_compareRows_11 hl (by decide) rfl (fun ls hl => ?_)
    obtain ⟨n, h⟩ := h
    exact l_X2_compareRows_13 C hr hlk hk_2 n x0 x1 x2 (0 : Int32) (0 : Int32) u _ _ _ h (lv_sub hl [2, 3, 4, 1, 0] rfl) hP
theorem l_X2_compareRows_2 {G : Gx} {Q : Mm → Prop} {p : Program} {l : Launch} {e : Env} {s : State} {m : MethodId} {args : Array Value} {below : List Frame} {meth : Method} {c : Code} (C : Cx G p s m c cX2_compareRows RX2 5) (hr : meth.sig.returnType = none) (hlk : meth.locks = false) : ∀ (n : Nat) (x0 : Nat) (x1 : Int32) (x2 : Int32) (u : Mm) (H : Heap) (locs : List Loc) (ls : Array Slot), V_X2_compareRows_2 G Q n x0 x1 x2 u → lv_has ls 5 [(0, .ref x0), (1, .int x1), (2, .int x2)] → Hp G u s H locs → W p l e rm_X2_compareRows s m args below meth c H locs 0 0 (MQ below (Ev G Q) args s 0 0 (ag G)) (F0 m 2 ls []) := by
  intro n
  induction n with
  | zero => intro x0 x1 x2 u H locs ls h; exact h.elim
  | succ n ih => intro x0 x1 x2 u H locs ls h hl hP; exact b_X2_compareRows_2 C hr hlk ih h hl hP
set_option maxHeartbeats 4000000 in
set_option maxRecDepth 100000 in
theorem c_X2_compareRows {l : Launch} {G : Gx} {p0 : Nat} {p1 : Int32} {u : Mm} {Q : Mm → Prop} (h : V_X2_compareRows G p0 p1 u Q) : Met l yX2_compareRows [.code yX2_compareRows cX2_compareRows 5 none] rm_X2_compareRows (va_Pc [.ref p0, .int p1] (Wd G u)) (Ev G Q) 0 0 (ag G) := by
  refine q_met (by decide) (Nat.le_of_ble_eq_true rfl) ?_
  intro p e s m below meth c ls C hr hlk hnm hl hP
  have hl : lv_has ls 5 [(0, .ref p0), (1, .int p1)] := hl
  generalize ([.ref p0, .int p1] : List Value).toArray = args
  have hx := C.1
  have hb := C.2.1
  unfold V_X2_compareRows at h
  refine lv_iconst (v := (0 : Int32)) hx hb dX2_compareRows_0 (by decide) ?_
  refine lv_istore_n (lv' := [(2, .int (0 : Int32)), (0, .ref p0), (1, .int p1)]) hx hb dX2_compareRows_1 rfl hl (by decide) rfl (fun ls hl => ?_)
  obtain ⟨n, h⟩ := h
  exact l_X2_compareRows_2 C hr hlk n p0 p1 (0 : Int32) u _ _ _ h (lv_sub hl [1, 2, 0] rfl) hP
-- X2_clapsFrom
abbrev rm_X2_clapsFrom : Room := { frames := 1, cells := 0, slots := 0, locals := 13 }
theorem hd_X2_clapsFrom : yX2_clapsFrom.cls ≠ "java/lang/invoke/MethodHandle" ∧ yX2_clapsFrom.cls ≠ "java/lang/invoke/VarHandle" ∧ (parseMethodDescriptor yX2_clapsFrom.desc).map (fun d => d.parameters.length) = some 2 := by decide +kernel
def V_X2_clapsFrom_68 (G : Gx) (Q : Int32 → Mm → Prop) (k_5 : Nat → Int32 → Int32 → Int32 → Int32 → Mm → Prop) (x0 : Nat) (x1 : Int32) (x2 : Int32) (x3 : Int32) (x4 : Int32) (u : Mm) : Prop :=
  ∀ x4_68 : Int32, x4_68 = x4 + (1 : Int32) → k_5 x0 x1 x2 x3 x4_68 u
def V_X2_clapsFrom_5_B (G : Gx) (Q : Int32 → Mm → Prop) (k_5 : Nat → Int32 → Int32 → Int32 → Int32 → Mm → Prop) (x0 : Nat) (x1 : Int32) (x2 : Int32) (x3 : Int32) (x4 : Int32) (u : Mm) : Prop :=
  (((6 : Int32) ≤ x4 → Q (x3 + (1 : Int32)) u) ∧ (¬ (6 : Int32) ≤ x4 → ((((ush x2 x4) &&& (1 : Int32)) = 0 → V_X2_clapsFrom_68 G Q k_5 x0 x1 x2 x3 x4 u) ∧ (¬ ((ush x2 x4) &&& (1 : Int32)) = 0 → kd G x0 = 2 ∧ (gR u x0 2) ≠ 0 ∧ kd G (gR u x0 2) = 13 ∧ vp_in ((x1 * (6 : Int32)) + x4) (ln G (gR u x0 2)) ∧ ∀ x5_35 : Int32, x5_35 = (x2 &&& (gI u (gR u x0 2) ((x1 * (6 : Int32)) + x4).toNatClampNeg)) → ((x5_35 = x2 → Q (-1 : Int32) u) ∧ (¬ x5_35 = x2 → (gR u x0 3) ≠ 0 ∧ kd G (gR u x0 3) = 13 ∧ vp_in x5_35 (ln G (gR u x0 3)) ∧ (((gI u (gR u x0 3) x5_35.toNatClampNeg) = (-1 : Int32) → Q (-1 : Int32) u) ∧ (¬ (gI u (gR u x0 3) x5_35.toNatClampNeg) = (-1 : Int32) → ∀ x3_67 : Int32, x3_67 = (mx x3 (gI u (gR u x0 3) x5_35.toNatClampNeg)) → V_X2_clapsFrom_68 G Q k_5 x0 x1 x2 x3_67 x4 u))))))))
def V_X2_clapsFrom_5 (G : Gx) (Q : Int32 → Mm → Prop) : Nat → (Nat → Int32 → Int32 → Int32 → Int32 → Mm → Prop)
  | 0 => fun _ _ _ _ _ _ => False
  | n + 1 => fun x0 x1 x2 x3 x4 u => V_X2_clapsFrom_5_B G Q (V_X2_clapsFrom_5 G Q n) x0 x1 x2 x3 x4 u
def V_X2_clapsFrom (G : Gx) (p0 : Nat) (p1 : Int32) (p2 : Int32) (u : Mm) (Q : Int32 → Mm → Prop) : Prop :=
  ∃ n : Nat, V_X2_clapsFrom_5 G Q n p0 p1 p2 (0 : Int32) (0 : Int32) u
set_option maxHeartbeats 4000000 in
set_option maxRecDepth 100000 in
theorem b_X2_clapsFrom_68 {G : Gx} {Q : Int32 → Mm → Prop} {p : Program} {l : Launch} {e : Env} {s : State} {m : MethodId} {args : Array Value} {below : List Frame} {meth : Method} {c : Code} (C : Cx G p s m c cX2_clapsFrom RX2 6) (hr : meth.sig.returnType = (some .int)) (hlk : meth.locks = false) {k_5 : Nat → Int32 → Int32 → Int32 → Int32 → Mm → Prop} (hk_5 : ∀ (x0 : Nat) (x1 : Int32) (x2 : Int32) (x3 : Int32) (x4 : Int32) (u : Mm) (H : Heap) (locs : List Loc) (ls : Array Slot), k_5 x0 x1 x2 x3 x4 u → lv_has ls 6 [(0, .ref x0), (1, .int x1), (2, .int x2), (3, .int x3), (4, .int x4)] → Hp G u s H locs → W p l e rm_X2_clapsFrom s m args below meth c H locs 0 0 (MQ below (Ei G Q) args s 0 0 (ag G)) (F0 m 5 ls [])) {x0 : Nat} {x1 : Int32} {x2 : Int32} {x3 : Int32} {x4 : Int32} {u : Mm} {H : Heap} {locs : List Loc} {ls : Array Slot} (h : V_X2_clapsFrom_68 G Q k_5 x0 x1 x2 x3 x4 u) (hl : lv_has ls 6 [(0, .ref x0), (1, .int x1), (2, .int x2), (3, .int x3), (4, .int x4)]) (hP : Hp G u s H locs) : W p l e rm_X2_clapsFrom s m args below meth c H locs 0 0 (MQ below (Ei G Q) args s 0 0 (ag G)) (F0 m 68 ls []) := by
  have hx := C.1
  have hb := C.2.1
  unfold V_X2_clapsFrom_68 at h
  obtain ⟨x4_68, ex4_68⟩ : ∃ y : Int32, y = x4 + (1 : Int32) := ⟨_, rfl⟩
  have h := h x4_68 ex4_68
  refine lv_iinc (v := x4_68) (lv' := [(4, .int x4_68), (0, .ref x0), (1, .int x1), (2, .int x2), (3, .int x3)]) hx hb dX2_clapsFrom_68 hl (k := 4) rfl (by rw [ex4_68]; rfl) (by decide) rfl (fun ls hl => ?_)
  refine lv_goto (tgt := 5) hx hb dX2_clapsFrom_71 (by decide) ?_
  exact hk_5 x0 x1 x2 x3 x4_68 u _ _ _ h (lv_sub hl [1, 2, 3, 4, 0] rfl) hP
set_option maxHeartbeats 4000000 in
set_option maxRecDepth 100000 in
theorem b_X2_clapsFrom_5 {G : Gx} {Q : Int32 → Mm → Prop} {p : Program} {l : Launch} {e : Env} {s : State} {m : MethodId} {args : Array Value} {below : List Frame} {meth : Method} {c : Code} (C : Cx G p s m c cX2_clapsFrom RX2 6) (hr : meth.sig.returnType = (some .int)) (hlk : meth.locks = false) {k_5 : Nat → Int32 → Int32 → Int32 → Int32 → Mm → Prop} (hk_5 : ∀ (x0 : Nat) (x1 : Int32) (x2 : Int32) (x3 : Int32) (x4 : Int32) (u : Mm) (H : Heap) (locs : List Loc) (ls : Array Slot), k_5 x0 x1 x2 x3 x4 u → lv_has ls 6 [(0, .ref x0), (1, .int x1), (2, .int x2), (3, .int x3), (4, .int x4)] → Hp G u s H locs → W p l e rm_X2_clapsFrom s m args below meth c H locs 0 0 (MQ below (Ei G Q) args s 0 0 (ag G)) (F0 m 5 ls [])) {x0 : Nat} {x1 : Int32} {x2 : Int32} {x3 : Int32} {x4 : Int32} {u : Mm} {H : Heap} {locs : List Loc} {ls : Array Slot} (h : V_X2_clapsFrom_5_B G Q k_5 x0 x1 x2 x3 x4 u) (hl : lv_has ls 6 [(0, .ref x0), (1, .int x1), (2, .int x2), (3, .int x3), (4, .int x4)]) (hP : Hp G u s H locs) : W p l e rm_X2_clapsFrom s m args below meth c H locs 0 0 (MQ below (Ei G Q) args s 0 0 (ag G)) (F0 m 5 ls []) := by
  have hx := C.1
  have hb := C.2.1
  unfold V_X2_clapsFrom_5_B at h
  refine lv_iload hx hb dX2_clapsFrom_5 (lv_at hl 4 rfl) ?_
  refine lv_bipush (v := (6 : Int32)) hx hb dX2_clapsFrom_7 (by decide) ?_
  refine lv_icmp_ge (tgt := 74) hx hb dX2_clapsFrom_9 (by decide) (fun c9 => ?_) (fun c9 => ?_)
  · have h := h.1 c9
    refine lv_iload_n hx hb dX2_clapsFrom_74 rfl (lv_at hl 3 rfl) ?_
    refine lv_iconst (v := (1 : Int32)) hx hb dX2_clapsFrom_75 (by decide) ?_
    refine lv_iadd hx hb dX2_clapsFrom_76 ?_
    exact q_iret C hr hlk hP h (by decide) (by decide) dX2_clapsFrom_77
  · have h := h.2 c9
    refine lv_iload_n hx hb dX2_clapsFrom_12 rfl (lv_at hl 2 rfl) ?_
    refine lv_iload hx hb dX2_clapsFrom_13 (lv_at hl 4 rfl) ?_
    refine lv_iushr (v := ush x2 x4) hx hb dX2_clapsFrom_15 rfl ?_
    refine lv_iconst (v := (1 : Int32)) hx hb dX2_clapsFrom_16 (by decide) ?_
    refine lv_iand hx hb dX2_clapsFrom_17 ?_
    refine lv_if_eq (tgt := 68) hx hb dX2_clapsFrom_18 (by decide) (fun c18 => ?_) (fun c18 => ?_)
    · have h := h.1 c18
      exact b_X2_clapsFrom_68 C hr hlk hk_5 h (lv_sub hl [0, 1, 2, 3, 4] rfl) hP
    · have h := h.2 c18
      refine lv_iload_n hx hb dX2_clapsFrom_21 rfl (lv_at hl 2 rfl) ?_
      refine lv_aload_n hx hb dX2_clapsFrom_22 rfl (lv_at hl 0 rfl) ?_
      obtain ⟨g1, h⟩ := h
      obtain ⟨g2, h⟩ := h
      refine q_getR C hP (k := 2) (lay_X2 C.hA) rfl (by decide) g1 g2 (fl_X2_20 C.hA) dX2_clapsFrom_23 ?_
      refine lv_iload_n hx hb dX2_clapsFrom_26 rfl (lv_at hl 1 rfl) ?_
      refine lv_bipush (v := (6 : Int32)) hx hb dX2_clapsFrom_27 (by decide) ?_
      refine lv_imul hx hb dX2_clapsFrom_29 ?_
      refine lv_iload hx hb dX2_clapsFrom_30 (lv_at hl 4 rfl) ?_
      refine lv_iadd hx hb dX2_clapsFrom_32 ?_
      obtain ⟨g3, h⟩ := h
      obtain ⟨g4, h⟩ := h
      refine q_iald C hP g3 g4 dX2_clapsFrom_33 ?_
      refine lv_iand hx hb dX2_clapsFrom_34 ?_
      refine lv_topi (fun x5_35 ex5_35 => ?_)
      have h := h x5_35 ex5_35
      refine lv_istore (lv' := [(5, .int x5_35), (0, .ref x0), (1, .int x1), (2, .int x2), (3, .int x3), (4, .int x4)]) hx hb dX2_clapsFrom_35 hl (by decide) rfl (fun ls hl => ?_)
      refine lv_iload hx hb dX2_clapsFrom_37 (lv_at hl 0 rfl) ?_
      refine lv_iload_n hx hb dX2_clapsFrom_39 rfl (lv_at hl 3 rfl) ?_
      refine lv_icmp_eq (tgt := 54) hx hb dX2_clapsFrom_40 (by decide) (fun c40 => ?_) (fun c40 => ?_)
      · have h := h.1 c40
        refine lv_iconst (v := (-1 : Int32)) hx hb dX2_clapsFrom_54 (by decide) ?_
        exact q_iret C hr hlk hP h (by decide) (by decide) dX2_clapsFrom_55
      · have h := h.2 c40
        refine lv_aload_n hx hb dX2_clapsFrom_43 rfl (lv_at hl 1 rfl) ?_
        obtain ⟨g5, h⟩ := h
        refine q_getR C hP (k := 3) (lay_X2 C.hA) rfl (by decide) g1 g5 (fl_X2_23 C.hA) dX2_clapsFrom_44 ?_
        refine lv_iload hx hb dX2_clapsFrom_47 (lv_at hl 0 rfl) ?_
        obtain ⟨g6, h⟩ := h
        obtain ⟨g7, h⟩ := h
        refine q_iald C hP g6 g7 dX2_clapsFrom_49 ?_
        refine lv_iconst (v := (-1 : Int32)) hx hb dX2_clapsFrom_50 (by decide) ?_
        refine lv_icmp_ne (tgt := 56) hx hb dX2_clapsFrom_51 (by decide) (fun c51 => ?_) (fun c51 => ?_)
        · have h := h.2 c51
          refine lv_iload_n hx hb dX2_clapsFrom_56 rfl (lv_at hl 4 rfl) ?_
          refine lv_aload_n hx hb dX2_clapsFrom_57 rfl (lv_at hl 1 rfl) ?_
          refine q_getR C hP (k := 3) (lay_X2 C.hA) rfl (by decide) g1 g5 (fl_X2_23 C.hA) dX2_clapsFrom_58 ?_
          refine lv_iload hx hb dX2_clapsFrom_61 (lv_at hl 0 rfl) ?_
          refine q_iald C hP g6 g7 dX2_clapsFrom_63 ?_
          refine va_mmax hx hb (C.2.2.2.1.trans hl.1.symm) C.2.2.1 (ml_X2_63 C.hA) (st_J9_max_7cf53 C.hA) (ini_J9 C.hA) (cd_J9_max_7cf53 C.hA) (Nat.le_of_ble_eq_true rfl) (Nat.le_of_ble_eq_true rfl) (Nat.le_of_ble_eq_true rfl) (Nat.le_of_ble_eq_true rfl) dX2_clapsFrom_64 ?_
          refine lv_topi (fun x3_67 ex3_67 => ?_)
          have h := h x3_67 ex3_67
          refine lv_istore_n (lv' := [(3, .int x3_67), (5, .int x5_35), (0, .ref x0), (1, .int x1), (2, .int x2), (4, .int x4)]) hx hb dX2_clapsFrom_67 rfl hl (by decide) rfl (fun ls hl => ?_)
          exact b_X2_clapsFrom_68 C hr hlk hk_5 h (lv_sub hl [2, 3, 4, 0, 5] rfl) hP
        · have h := h.1 c51
          refine lv_iconst (v := (-1 : Int32)) hx hb dX2_clapsFrom_54 (by decide) ?_
          exact q_iret C hr hlk hP h (by decide) (by decide) dX2_clapsFrom_55
theorem l_X2_clapsFrom_5 {G : Gx} {Q : Int32 → Mm → Prop} {p : Program} {l : Launch} {e : Env} {s : State} {m : MethodId} {args : Array Value} {below : List Frame} {meth : Method} {c : Code} (C : Cx G p s m c cX2_clapsFrom RX2 6) (hr : meth.sig.returnType = (some .int)) (hlk : meth.locks = false) : ∀ (n : Nat) (x0 : Nat) (x1 : Int32) (x2 : Int32) (x3 : Int32) (x4 : Int32) (u : Mm) (H : Heap) (locs : List Loc) (ls : Array Slot), V_X2_clapsFrom_5 G Q n x0 x1 x2 x3 x4 u → lv_has ls 6 [(0, .ref x0), (1, .int x1), (2, .int x2), (3, .int x3), (4, .int x4)] → Hp G u s H locs → W p l e rm_X2_clapsFrom s m args below meth c H locs 0 0 (MQ below (Ei G Q) args s 0 0 (ag G)) (F0 m 5 ls []) := by
  intro n
  induction n with
  | zero => intro x0 x1 x2 x3 x4 u H locs ls h; exact h.elim
  | succ n ih => intro x0 x1 x2 x3 x4 u H locs ls h hl hP; exact b_X2_clapsFrom_5 C hr hlk ih h hl hP
set_option maxHeartbeats 4000000 in
set_option maxRecDepth 100000 in
theorem c_X2_clapsFrom {l : Launch} {G : Gx} {p0 : Nat} {p1 : Int32} {p2 : Int32} {u : Mm} {Q : Int32 → Mm → Prop} (h : V_X2_clapsFrom G p0 p1 p2 u Q) : Met l yX2_clapsFrom [.code yX2_clapsFrom cX2_clapsFrom 6 (some .int)] rm_X2_clapsFrom (va_Pc [.ref p0, .int p1, .int p2] (Wd G u)) (Ei G Q) 0 0 (ag G) := by
  refine q_met (by decide) (Nat.le_of_ble_eq_true rfl) ?_
  intro p e s m below meth c ls C hr hlk hnm hl hP
  have hl : lv_has ls 6 [(0, .ref p0), (1, .int p1), (2, .int p2)] := hl
  generalize ([.ref p0, .int p1, .int p2] : List Value).toArray = args
  have hx := C.1
  have hb := C.2.1
  unfold V_X2_clapsFrom at h
  refine lv_iconst (v := (0 : Int32)) hx hb dX2_clapsFrom_0 (by decide) ?_
  refine lv_istore_n (lv' := [(3, .int (0 : Int32)), (0, .ref p0), (1, .int p1), (2, .int p2)]) hx hb dX2_clapsFrom_1 rfl hl (by decide) rfl (fun ls hl => ?_)
  refine lv_iconst (v := (0 : Int32)) hx hb dX2_clapsFrom_2 (by decide) ?_
  refine lv_istore (lv' := [(4, .int (0 : Int32)), (3, .int (0 : Int32)), (0, .ref p0), (1, .int p1), (2, .int p2)]) hx hb dX2_clapsFrom_3 hl (by decide) rfl (fun ls hl => ?_)
  obtain ⟨n, h⟩ := h
  exact l_X2_clapsFrom_5 C hr hlk n p0 p1 p2 (0 : Int32) (0 : Int32) u _ _ _ h (lv_sub hl [2, 3, 4, 1, 0] rfl) hP
-- X2_choose
abbrev rm_X2_choose : Room := { frames := 2, cells := 0, slots := 0, locals := 38 }
theorem hd_X2_choose : yX2_choose.cls ≠ "java/lang/invoke/MethodHandle" ∧ yX2_choose.cls ≠ "java/lang/invoke/VarHandle" ∧ (parseMethodDescriptor yX2_choose.desc).map (fun d => d.parameters.length) = some 2 := by decide +kernel
def V_X2_choose_115 (G : Gx) (Q : Mm → Prop) (k_2 : Nat → Int32 → Int32 → Int32 → Mm → Prop) (x0 : Nat) (x1 : Int32) (x2 : Int32) (x3 : Int32) (u : Mm) : Prop :=
  ∀ x3_115 : Int32, x3_115 = x3 + (1 : Int32) → k_2 x0 x1 x2 x3_115 u
def V_X2_choose_109 (G : Gx) (Q : Mm → Prop) (k_2 : Nat → Int32 → Int32 → Int32 → Mm → Prop) (k_42 : Nat → Int32 → Int32 → Int32 → Int32 → Mm → Prop) (x0 : Nat) (x1 : Int32) (x2 : Int32) (x3 : Int32) (x4 : Int32) (u : Mm) : Prop :=
  ∀ x4_109 : Int32, x4_109 = x4 + (1 : Int32) → k_42 x0 x1 x2 x3 x4_109 u
def V_X2_choose_93 (G : Gx) (Q : Mm → Prop) (k_2 : Nat → Int32 → Int32 → Int32 → Mm → Prop) (k_42 : Nat → Int32 → Int32 → Int32 → Int32 → Mm → Prop) (x0 : Nat) (x1 : Int32) (x2 : Int32) (x3 : Int32) (x4 : Int32) (x5 : Int32) (u : Mm) : Prop :=
  kd G x0 = 2 ∧ (gR u x0 3) ≠ 0 ∧ kd G (gR u x0 3) = 13 ∧ vp_in x3 (ln G (gR u x0 3)) ∧ ∀ u_100 : Mm, u_100 = sI u (gR u x0 3) x3.toNatClampNeg x5 → (gR u_100 x0 4) ≠ 0 ∧ kd G (gR u_100 x0 4) = 13 ∧ vp_in x3 (ln G (gR u_100 x0 4)) ∧ ∀ u_108 : Mm, u_108 = sI u_100 (gR u_100 x0 4) x3.toNatClampNeg x4 → V_X2_choose_109 G Q k_2 k_42 x0 x1 x2 x3 x4 u_108
def V_X2_choose_42_B (G : Gx) (Q : Mm → Prop) (k_2 : Nat → Int32 → Int32 → Int32 → Mm → Prop) (k_42 : Nat → Int32 → Int32 → Int32 → Int32 → Mm → Prop) (x0 : Nat) (x1 : Int32) (x2 : Int32) (x3 : Int32) (x4 : Int32) (u : Mm) : Prop :=
  ((x1 ≤ x4 → V_X2_choose_115 G Q k_2 x0 x1 x2 x3 u) ∧ (¬ x1 ≤ x4 → kd G x0 = 2 ∧ (gR u x0 3) ≠ 0 ∧ kd G (gR u x0 3) = 13 ∧ vp_in x3 (ln G (gR u x0 3)) ∧ (((gI u (gR u x0 3) x3.toNatClampNeg) = 0 → V_X2_choose_115 G Q k_2 x0 x1 x2 x3 u) ∧ (¬ (gI u (gR u x0 3) x3.toNatClampNeg) = 0 → V_X2_clapsFrom G x0 x4 x3 u (fun (v_61 : Int32) (u_61 : Mm) => ((v_61 = (-1 : Int32) → V_X2_choose_109 G Q k_2 k_42 x0 x1 x2 x3 x4 u_61) ∧ (¬ v_61 = (-1 : Int32) → (gR u_61 x0 3) ≠ 0 ∧ kd G (gR u_61 x0 3) = 13 ∧ vp_in x3 (ln G (gR u_61 x0 3)) ∧ (((gI u_61 (gR u_61 x0 3) x3.toNatClampNeg) = (-1 : Int32) → V_X2_choose_93 G Q k_2 k_42 x0 x1 x2 x3 x4 v_61 u_61) ∧ (¬ (gI u_61 (gR u_61 x0 3) x3.toNatClampNeg) = (-1 : Int32) → (((gI u_61 (gR u_61 x0 3) x3.toNatClampNeg) ≤ v_61 → V_X2_choose_109 G Q k_2 k_42 x0 x1 x2 x3 x4 u_61) ∧ (¬ (gI u_61 (gR u_61 x0 3) x3.toNatClampNeg) ≤ v_61 → V_X2_choose_93 G Q k_2 k_42 x0 x1 x2 x3 x4 v_61 u_61)))))))))))
def V_X2_choose_42 (G : Gx) (Q : Mm → Prop) (k_2 : Nat → Int32 → Int32 → Int32 → Mm → Prop) : Nat → (Nat → Int32 → Int32 → Int32 → Int32 → Mm → Prop)
  | 0 => fun _ _ _ _ _ _ => False
  | n + 1 => fun x0 x1 x2 x3 x4 u => V_X2_choose_42_B G Q k_2 (V_X2_choose_42 G Q k_2 n) x0 x1 x2 x3 x4 u
def V_X2_choose_31 (G : Gx) (Q : Mm → Prop) (k_2 : Nat → Int32 → Int32 → Int32 → Mm → Prop) (x0 : Nat) (x1 : Int32) (x2 : Int32) (x3 : Int32) (t0 : Nat) (t1 : Int32) (t2 : Int32) (u : Mm) : Prop :=
  kd G t0 = 13 ∧ vp_in t1 (ln G t0) ∧ ∀ u_31 : Mm, u_31 = sI u t0 t1.toNatClampNeg t2 → kd G x0 = 2 ∧ (gR u_31 x0 4) ≠ 0 ∧ kd G (gR u_31 x0 4) = 13 ∧ vp_in x3 (ln G (gR u_31 x0 4)) ∧ ∀ u_38 : Mm, u_38 = sI u_31 (gR u_31 x0 4) x3.toNatClampNeg (-1 : Int32) → ∃ n : Nat, V_X2_choose_42 G Q k_2 n x0 x1 x2 x3 (0 : Int32) u_38
def V_X2_choose_2_B (G : Gx) (Q : Mm → Prop) (k_2 : Nat → Int32 → Int32 → Int32 → Mm → Prop) (x0 : Nat) (x1 : Int32) (x2 : Int32) (x3 : Int32) (u : Mm) : Prop :=
  ((x2 < x3 → Q u) ∧ (¬ x2 < x3 → (((64 : Int32) ≤ x3 → Q u) ∧ (¬ (64 : Int32) ≤ x3 → kd G x0 = 2 ∧ (gR u x0 3) ≠ 0 ∧ V_J6_bitCount_0f7a4 G x3 u (fun (v_19 : Int32) (u_19 : Mm) => (((2 : Int32) ≤ v_19 → V_X2_choose_31 G Q k_2 x0 x1 x2 x3 (gR u x0 3) x3 (-1 : Int32) u_19) ∧ (¬ (2 : Int32) ≤ v_19 → V_X2_choose_31 G Q k_2 x0 x1 x2 x3 (gR u x0 3) x3 (0 : Int32) u_19)))))))
def V_X2_choose_2 (G : Gx) (Q : Mm → Prop) : Nat → (Nat → Int32 → Int32 → Int32 → Mm → Prop)
  | 0 => fun _ _ _ _ _ => False
  | n + 1 => fun x0 x1 x2 x3 u => V_X2_choose_2_B G Q (V_X2_choose_2 G Q n) x0 x1 x2 x3 u
def V_X2_choose (G : Gx) (p0 : Nat) (p1 : Int32) (p2 : Int32) (u : Mm) (Q : Mm → Prop) : Prop :=
  ∃ n : Nat, V_X2_choose_2 G Q n p0 p1 p2 (0 : Int32) u
set_option maxHeartbeats 4000000 in
set_option maxRecDepth 100000 in
theorem b_X2_choose_115 {G : Gx} {Q : Mm → Prop} {p : Program} {l : Launch} {e : Env} {s : State} {m : MethodId} {args : Array Value} {below : List Frame} {meth : Method} {c : Code} (C : Cx G p s m c cX2_choose RX2 6) (hr : meth.sig.returnType = none) (hlk : meth.locks = false) {k_2 : Nat → Int32 → Int32 → Int32 → Mm → Prop} (hk_2 : ∀ (x0 : Nat) (x1 : Int32) (x2 : Int32) (x3 : Int32) (u : Mm) (H : Heap) (locs : List Loc) (ls : Array Slot), k_2 x0 x1 x2 x3 u → lv_has ls 6 [(0, .ref x0), (1, .int x1), (2, .int x2), (3, .int x3)] → Hp G u s H locs → W p l e rm_X2_choose s m args below meth c H locs 0 0 (MQ below (Ev G Q) args s 0 0 (ag G)) (F0 m 2 ls [])) {x0 : Nat} {x1 : Int32} {x2 : Int32} {x3 : Int32} {u : Mm} {H : Heap} {locs : List Loc} {ls : Array Slot} (h : V_X2_choose_115 G Q k_2 x0 x1 x2 x3 u) (hl : lv_has ls 6 [(0, .ref x0), (1, .int x1), (2, .int x2), (3, .int x3)]) (hP : Hp G u s H locs) : W p l e rm_X2_choose s m args below meth c H locs 0 0 (MQ below (Ev G Q) args s 0 0 (ag G)) (F0 m 115 ls []) := by
  have hx := C.1
  have hb := C.2.1
  unfold V_X2_choose_115 at h
  obtain ⟨x3_115, ex3_115⟩ : ∃ y : Int32, y = x3 + (1 : Int32) := ⟨_, rfl⟩
  have h := h x3_115 ex3_115
  refine lv_iinc (v := x3_115) (lv' := [(3, .int x3_115), (0, .ref x0), (1, .int x1), (2, .int x2)]) hx hb dX2_choose_115 hl (k := 3) rfl (by rw [ex3_115]; rfl) (by decide) rfl (fun ls hl => ?_)
  refine lv_goto (tgt := 2) hx hb dX2_choose_118 (by decide) ?_
  exact hk_2 x0 x1 x2 x3_115 u _ _ _ h (lv_sub hl [1, 2, 3, 0] rfl) hP
set_option maxHeartbeats 4000000 in
set_option maxRecDepth 100000 in
theorem b_X2_choose_109 {G : Gx} {Q : Mm → Prop} {p : Program} {l : Launch} {e : Env} {s : State} {m : MethodId} {args : Array Value} {below : List Frame} {meth : Method} {c : Code} (C : Cx G p s m c cX2_choose RX2 6) (hr : meth.sig.returnType = none) (hlk : meth.locks = false) {k_2 : Nat → Int32 → Int32 → Int32 → Mm → Prop} (hk_2 : ∀ (x0 : Nat) (x1 : Int32) (x2 : Int32) (x3 : Int32) (u : Mm) (H : Heap) (locs : List Loc) (ls : Array Slot), k_2 x0 x1 x2 x3 u → lv_has ls 6 [(0, .ref x0), (1, .int x1), (2, .int x2), (3, .int x3)] → Hp G u s H locs → W p l e rm_X2_choose s m args below meth c H locs 0 0 (MQ below (Ev G Q) args s 0 0 (ag G)) (F0 m 2 ls [])) {k_42 : Nat → Int32 → Int32 → Int32 → Int32 → Mm → Prop} (hk_42 : ∀ (x0 : Nat) (x1 : Int32) (x2 : Int32) (x3 : Int32) (x4 : Int32) (u : Mm) (H : Heap) (locs : List Loc) (ls : Array Slot), k_42 x0 x1 x2 x3 x4 u → lv_has ls 6 [(0, .ref x0), (1, .int x1), (2, .int x2), (3, .int x3), (4, .int x4)] → Hp G u s H locs → W p l e rm_X2_choose s m args below meth c H locs 0 0 (MQ below (Ev G Q) args s 0 0 (ag G)) (F0 m 42 ls [])) {x0 : Nat} {x1 : Int32} {x2 : Int32} {x3 : Int32} {x4 : Int32} {u : Mm} {H : Heap} {locs : List Loc} {ls : Array Slot} (h : V_X2_choose_109 G Q k_2 k_42 x0 x1 x2 x3 x4 u) (hl : lv_has ls 6 [(0, .ref x0), (1, .int x1), (2, .int x2), (3, .int x3), (4, .int x4)]) (hP : Hp G u s H locs) : W p l e rm_X2_choose s m args below meth c H locs 0 0 (MQ below (Ev G Q) args s 0 0 (ag G)) (F0 m 109 ls []) := by
  have hx := C.1
  have hb := C.2.1
  unfold V_X2_choose_109 at h
  obtain ⟨x4_109, ex4_109⟩ : ∃ y : Int32, y = x4 + (1 : Int32) := ⟨_, rfl⟩
  have h := h x4_109 ex4_109
  refine lv_iinc (v := x4_109) (lv' := [(4, .int x4_109), (0, .ref x0), (1, .int x1), (2, .int x2), (3, .int x3)]) hx hb dX2_choose_109 hl (k := 4) rfl (by rw [ex4_109]; rfl) (by decide) rfl (fun ls hl => ?_)
  refine lv_goto (tgt := 42) hx hb dX2_choose_112 (by decide) ?_
  exact hk_42 x0 x1 x2 x3 x4_109 u _ _ _ h (lv_sub hl [1, 2, 3, 4, 0] rfl) hP
set_option maxHeartbeats 4000000 in
set_option maxRecDepth 100000 in
theorem b_X2_choose_93 {G : Gx} {Q : Mm → Prop} {p : Program} {l : Launch} {e : Env} {s : State} {m : MethodId} {args : Array Value} {below : List Frame} {meth : Method} {c : Code} (C : Cx G p s m c cX2_choose RX2 6) (hr : meth.sig.returnType = none) (hlk : meth.locks = false) {k_2 : Nat → Int32 → Int32 → Int32 → Mm → Prop} (hk_2 : ∀ (x0 : Nat) (x1 : Int32) (x2 : Int32) (x3 : Int32) (u : Mm) (H : Heap) (locs : List Loc) (ls : Array Slot), k_2 x0 x1 x2 x3 u → lv_has ls 6 [(0, .ref x0), (1, .int x1), (2, .int x2), (3, .int x3)] → Hp G u s H locs → W p l e rm_X2_choose s m args below meth c H locs 0 0 (MQ below (Ev G Q) args s 0 0 (ag G)) (F0 m 2 ls [])) {k_42 : Nat → Int32 → Int32 → Int32 → Int32 → Mm → Prop} (hk_42 : ∀ (x0 : Nat) (x1 : Int32) (x2 : Int32) (x3 : Int32) (x4 : Int32) (u : Mm) (H : Heap) (locs : List Loc) (ls : Array Slot), k_42 x0 x1 x2 x3 x4 u → lv_has ls 6 [(0, .ref x0), (1, .int x1), (2, .int x2), (3, .int x3), (4, .int x4)] → Hp G u s H locs → W p l e rm_X2_choose s m args below meth c H locs 0 0 (MQ below (Ev G Q) args s 0 0 (ag G)) (F0 m 42 ls [])) {x0 : Nat} {x1 : Int32} {x2 : Int32} {x3 : Int32} {x4 : Int32} {x5 : Int32} {u : Mm} {H : Heap} {locs : List Loc} {ls : Array Slot} (h : V_X2_choose_93 G Q k_2 k_42 x0 x1 x2 x3 x4 x5 u) (hl : lv_has ls 6 [(0, .ref x0), (1, .int x1), (2, .int x2), (3, .int x3), (4, .int x4), (5, .int x5)]) (hP : Hp G u s H locs) : W p l e rm_X2_choose s m args below meth c H locs 0 0 (MQ below (Ev G Q) args s 0 0 (ag G)) (F0 m 93 ls []) := by
  have hx := C.1
  have hb := C.2.1
  unfold V_X2_choose_93 at h
  refine lv_aload_n hx hb dX2_choose_93 rfl (lv_at hl 0 rfl) ?_
  obtain ⟨g1, h⟩ := h
  obtain ⟨g2, h⟩ := h
  refine q_getR C hP (k := 3) (lay_X2 C.hA) rfl (by decide) g1 g2 (fl_X2_23 C.hA) dX2_choose_94 ?_
  refine lv_iload_n hx hb dX2_choose_97 rfl (lv_at hl 3 rfl) ?_
  refine lv_iload hx hb dX2_choose_98 (lv_at hl 5 rfl) ?_
  obtain ⟨g3, h⟩ := h
  obtain ⟨g4, h⟩ := h
  refine q_iast C hP g3 g4 dX2_choose_100 (fun H locs hP => ?_)
  obtain ⟨u_100, eu_100, hP⟩ := Hp.nm hP
  have h := h u_100 eu_100
  refine lv_aload_n hx hb dX2_choose_101 rfl (lv_at hl 0 rfl) ?_
  obtain ⟨g5, h⟩ := h
  refine q_getR C hP (k := 4) (lay_X2 C.hA) rfl (by decide) g1 g5 (fl_X2_26 C.hA) dX2_choose_102 ?_
  refine lv_iload_n hx hb dX2_choose_105 rfl (lv_at hl 3 rfl) ?_
  refine lv_iload hx hb dX2_choose_106 (lv_at hl 4 rfl) ?_
  obtain ⟨g6, h⟩ := h
  obtain ⟨g7, h⟩ := h
  refine q_iast C hP g6 g7 dX2_choose_108 (fun H locs hP => ?_)
  obtain ⟨u_108, eu_108, hP⟩ := Hp.nm hP
  have h := h u_108 eu_108
  exact b_X2_choose_109 C hr hlk hk_2 hk_42 h (lv_sub hl [0, 1, 2, 3, 4] rfl) hP
set_option maxHeartbeats 4000000 in
set_option maxRecDepth 100000 in
theorem b_X2_choose_42 {G : Gx} {Q : Mm → Prop} {p : Program} {l : Launch} {e : Env} {s : State} {m : MethodId} {args : Array Value} {below : List Frame} {meth : Method} {c : Code} (C : Cx G p s m c cX2_choose RX2 6) (hr : meth.sig.returnType = none) (hlk : meth.locks = false) {k_2 : Nat → Int32 → Int32 → Int32 → Mm → Prop} (hk_2 : ∀ (x0 : Nat) (x1 : Int32) (x2 : Int32) (x3 : Int32) (u : Mm) (H : Heap) (locs : List Loc) (ls : Array Slot), k_2 x0 x1 x2 x3 u → lv_has ls 6 [(0, .ref x0), (1, .int x1), (2, .int x2), (3, .int x3)] → Hp G u s H locs → W p l e rm_X2_choose s m args below meth c H locs 0 0 (MQ below (Ev G Q) args s 0 0 (ag G)) (F0 m 2 ls [])) {k_42 : Nat → Int32 → Int32 → Int32 → Int32 → Mm → Prop} (hk_42 : ∀ (x0 : Nat) (x1 : Int32) (x2 : Int32) (x3 : Int32) (x4 : Int32) (u : Mm) (H : Heap) (locs : List Loc) (ls : Array Slot), k_42 x0 x1 x2 x3 x4 u → lv_has ls 6 [(0, .ref x0), (1, .int x1), (2, .int x2), (3, .int x3), (4, .int x4)] → Hp G u s H locs → W p l e rm_X2_choose s m args below meth c H locs 0 0 (MQ below (Ev G Q) args s 0 0 (ag G)) (F0 m 42 ls [])) {x0 : Nat} {x1 : Int32} {x2 : Int32} {x3 : Int32} {x4 : Int32} {u : Mm} {H : Heap} {locs : List Loc} {ls : Array Slot} (h : V_X2_choose_42_B G Q k_2 k_42 x0 x1 x2 x3 x4 u) (hl : lv_has ls 6 [(0, .ref x0), (1, .int x1), (2, .int x2), (3, .int x3), (4, .int x4)]) (hP : Hp G u s H locs) : W p l e rm_X2_choose s m args below meth c H locs 0 0 (MQ below (Ev G Q) args s 0 0 (ag G)) (F0 m 42 ls []) := by
  have hx := C.1
  have hb := C.2.1
  unfold V_X2_choose_42_B at h
  refine lv_iload hx hb dX2_choose_42 (lv_at hl 4 rfl) ?_
  refine lv_iload_n hx hb dX2_choose_44 rfl (lv_at hl 1 rfl) ?_
  refine lv_icmp_ge (tgt := 115) hx hb dX2_choose_45 (by decide) (fun c45 => ?_) (fun c45 => ?_)
  · have h := h.1 c45
    exact b_X2_choose_115 C hr hlk hk_2 h (lv_sub hl [0, 1, 2, 3] rfl) hP
  · have h := h.2 c45
    refine lv_aload_n hx hb dX2_choose_48 rfl (lv_at hl 0 rfl) ?_
    obtain ⟨g1, h⟩ := h
    obtain ⟨g2, h⟩ := h
    refine q_getR C hP (k := 3) (lay_X2 C.hA) rfl (by decide) g1 g2 (fl_X2_23 C.hA) dX2_choose_49 ?_
    refine lv_iload_n hx hb dX2_choose_52 rfl (lv_at hl 3 rfl) ?_
    obtain ⟨g3, h⟩ := h
    obtain ⟨g4, h⟩ := h
    refine q_iald C hP g3 g4 dX2_choose_53 ?_
    refine lv_if_eq (tgt := 115) hx hb dX2_choose_54 (by decide) (fun c54 => ?_) (fun c54 => ?_)
    · have h := h.1 c54
      exact b_X2_choose_115 C hr hlk hk_2 h (lv_sub hl [0, 1, 2, 3] rfl) hP
    · have h := h.2 c54
      refine lv_aload_n hx hb dX2_choose_57 rfl (lv_at hl 0 rfl) ?_
      refine lv_iload hx hb dX2_choose_58 (lv_at hl 4 rfl) ?_
      refine lv_iload_n hx hb dX2_choose_60 rfl (lv_at hl 3 rfl) ?_
      refine q_cali (q_runV C hP (c_X2_clapsFrom h) (cd_X2_clapsFrom C.hA) (ini_X2 C.hA) (ml_X2_60 C.hA) (im_X2_clapsFrom C.hA) (sl_X2_clapsFrom C.hA) g1 (by decide) rfl hd_X2_clapsFrom ⟨rfl, rfl⟩ ⟨Nat.le_of_ble_eq_true rfl, Nat.le_of_ble_eq_true rfl⟩ ⟨Nat.le_of_ble_eq_true rfl, Nat.le_of_ble_eq_true rfl⟩ hl.1 rfl (Nat.le_of_ble_eq_true rfl) dX2_choose_61) hP (fun v_61 u_61 H locs h hP => ?_)
      refine lv_istore (lv' := [(5, .int v_61), (0, .ref x0), (1, .int x1), (2, .int x2), (3, .int x3), (4, .int x4)]) hx hb dX2_choose_64 hl (by decide) rfl (fun ls hl => ?_)
      refine lv_iload hx hb dX2_choose_66 (lv_at hl 0 rfl) ?_
      refine lv_iconst (v := (-1 : Int32)) hx hb dX2_choose_68 (by decide) ?_
      refine lv_icmp_eq (tgt := 109) hx hb dX2_choose_69 (by decide) (fun c69 => ?_) (fun c69 => ?_)
      · have h := h.1 c69
        exact b_X2_choose_109 C hr hlk hk_2 hk_42 h (lv_sub hl [1, 2, 3, 4, 5] rfl) hP
      · have h := h.2 c69
        refine lv_aload_n hx hb dX2_choose_72 rfl (lv_at hl 1 rfl) ?_
        obtain ⟨g5, h⟩ := h
        refine q_getR C hP (k := 3) (lay_X2 C.hA) rfl (by decide) g1 g5 (fl_X2_23 C.hA) dX2_choose_73 ?_
        refine lv_iload_n hx hb dX2_choose_76 rfl (lv_at hl 4 rfl) ?_
        obtain ⟨g6, h⟩ := h
        obtain ⟨g7, h⟩ := h
        refine q_iald C hP g6 g7 dX2_choose_77 ?_
        refine lv_iconst (v := (-1 : Int32)) hx hb dX2_choose_78 (by decide) ?_
        refine lv_icmp_eq (tgt := 93) hx hb dX2_choose_79 (by decide) (fun c79 => ?_) (fun c79 => ?_)
        · have h := h.1 c79
          exact b_X2_choose_93 C hr hlk hk_2 hk_42 h (lv_sub hl [1, 2, 3, 4, 5, 0] rfl) hP
        · have h := h.2 c79
          refine lv_iload hx hb dX2_choose_82 (lv_at hl 0 rfl) ?_
          refine lv_aload_n hx hb dX2_choose_84 rfl (lv_at hl 1 rfl) ?_
          refine q_getR C hP (k := 3) (lay_X2 C.hA) rfl (by decide) g1 g5 (fl_X2_23 C.hA) dX2_choose_85 ?_
          refine lv_iload_n hx hb dX2_choose_88 rfl (lv_at hl 4 rfl) ?_
          refine q_iald C hP g6 g7 dX2_choose_89 ?_
          refine lv_icmp_ge (tgt := 109) hx hb dX2_choose_90 (by decide) (fun c90 => ?_) (fun c90 => ?_)
          · have h := h.1 c90
            exact b_X2_choose_109 C hr hlk hk_2 hk_42 h (lv_sub hl [1, 2, 3, 4, 5] rfl) hP
          · have h := h.2 c90
            exact b_X2_choose_93 C hr hlk hk_2 hk_42 h (lv_sub hl [1, 2, 3, 4, 5, 0] rfl) hP
theorem l_X2_choose_42 {G : Gx} {Q : Mm → Prop} {p : Program} {l : Launch} {e : Env} {s : State} {m : MethodId} {args : Array Value} {below : List Frame} {meth : Method} {c : Code} (C : Cx G p s m c cX2_choose RX2 6) (hr : meth.sig.returnType = none) (hlk : meth.locks = false) {k_2 : Nat → Int32 → Int32 → Int32 → Mm → Prop} (hk_2 : ∀ (x0 : Nat) (x1 : Int32) (x2 : Int32) (x3 : Int32) (u : Mm) (H : Heap) (locs : List Loc) (ls : Array Slot), k_2 x0 x1 x2 x3 u → lv_has ls 6 [(0, .ref x0), (1, .int x1), (2, .int x2), (3, .int x3)] → Hp G u s H locs → W p l e rm_X2_choose s m args below meth c H locs 0 0 (MQ below (Ev G Q) args s 0 0 (ag G)) (F0 m 2 ls [])) : ∀ (n : Nat) (x0 : Nat) (x1 : Int32) (x2 : Int32) (x3 : Int32) (x4 : Int32) (u : Mm) (H : Heap) (locs : List Loc) (ls : Array Slot), V_X2_choose_42 G Q k_2 n x0 x1 x2 x3 x4 u → lv_has ls 6 [(0, .ref x0), (1, .int x1), (2, .int x2), (3, .int x3), (4, .int x4)] → Hp G u s H locs → W p l e rm_X2_choose s m args below meth c H locs 0 0 (MQ below (Ev G Q) args s 0 0 (ag G)) (F0 m 42 ls []) := by
  intro n
  induction n with
  | zero => intro x0 x1 x2 x3 x4 u H locs ls h; exact h.elim
  | succ n ih => intro x0 x1 x2 x3 x4 u H locs ls h hl hP; exact b_X2_choose_42 C hr hlk hk_2 ih h hl hP
set_option maxHeartbeats 4000000 in
set_option maxRecDepth 100000 in
theorem b_X2_choose_31 {G : Gx} {Q : Mm → Prop} {p : Program} {l : Launch} {e : Env} {s : State} {m : MethodId} {args : Array Value} {below : List Frame} {meth : Method} {c : Code} (C : Cx G p s m c cX2_choose RX2 6) (hr : meth.sig.returnType = none) (hlk : meth.locks = false) {k_2 : Nat → Int32 → Int32 → Int32 → Mm → Prop} (hk_2 : ∀ (x0 : Nat) (x1 : Int32) (x2 : Int32) (x3 : Int32) (u : Mm) (H : Heap) (locs : List Loc) (ls : Array Slot), k_2 x0 x1 x2 x3 u → lv_has ls 6 [(0, .ref x0), (1, .int x1), (2, .int x2), (3, .int x3)] → Hp G u s H locs → W p l e rm_X2_choose s m args below meth c H locs 0 0 (MQ below (Ev G Q) args s 0 0 (ag G)) (F0 m 2 ls [])) {x0 : Nat} {x1 : Int32} {x2 : Int32} {x3 : Int32} {t0 : Nat} {t1 : Int32} {t2 : Int32} {u : Mm} {H : Heap} {locs : List Loc} {ls : Array Slot} (h : V_X2_choose_31 G Q k_2 x0 x1 x2 x3 t0 t1 t2 u) (hl : lv_has ls 6 [(0, .ref x0), (1, .int x1), (2, .int x2), (3, .int x3)]) (hP : Hp G u s H locs) : W p l e rm_X2_choose s m args below meth c H locs 0 0 (MQ below (Ev G Q) args s 0 0 (ag G)) (F0 m 31 ls [.int t2, .int t1, .ref t0]) := by
  have hx := C.1
  have hb := C.2.1
  unfold V_X2_choose_31 at h
  obtain ⟨g1, h⟩ := h
  obtain ⟨g2, h⟩ := h
  refine q_iast C hP g1 g2 dX2_choose_31 (fun H locs hP => ?_)
  obtain ⟨u_31, eu_31, hP⟩ := Hp.nm hP
  have h := h u_31 eu_31
  refine lv_aload_n hx hb dX2_choose_32 rfl (lv_at hl 0 rfl) ?_
  obtain ⟨g3, h⟩ := h
  obtain ⟨g4, h⟩ := h
  refine q_getR C hP (k := 4) (lay_X2 C.hA) rfl (by decide) g3 g4 (fl_X2_26 C.hA) dX2_choose_33 ?_
  refine lv_iload_n hx hb dX2_choose_36 rfl (lv_at hl 3 rfl) ?_
  refine lv_iconst (v := (-1 : Int32)) hx hb dX2_choose_37 (by decide) ?_
  obtain ⟨g5, h⟩ := h
  obtain ⟨g6, h⟩ := h
  refine q_iast C hP g5 g6 dX2_choose_38 (fun H locs hP => ?_)
  obtain ⟨u_38, eu_38, hP⟩ := Hp.nm hP
  have h := h u_38 eu_38
  refine lv_iconst (v := (0 : Int32)) hx hb dX2_choose_39 (by decide) ?_
  refine lv_istore (lv' := [(4, .int (0 : Int32)), (0, .ref x0), (1, .int x1), (2, .int x2), (3, .int x3)]) hx hb dX2_choose_40 hl (by decide) rfl (fun ls hl => ?_)
  obtain ⟨n, h⟩ := h
  exact l_X2_choose_42 C hr hlk hk_2 n x0 x1 x2 x3 (0 : Int32) u_38 _ _ _ h (lv_sub hl [1, 2, 3, 4, 0] rfl) hP
set_option maxHeartbeats 4000000 in
set_option maxRecDepth 100000 in
theorem b_X2_choose_2 {G : Gx} {Q : Mm → Prop} {p : Program} {l : Launch} {e : Env} {s : State} {m : MethodId} {args : Array Value} {below : List Frame} {meth : Method} {c : Code} (C : Cx G p s m c cX2_choose RX2 6) (hr : meth.sig.returnType = none) (hlk : meth.locks = false) {k_2 : Nat → Int32 → Int32 → Int32 → Mm → Prop} (hk_2 : ∀ (x0 : Nat) (x1 : Int32) (x2 : Int32) (x3 : Int32) (u : Mm) (H : Heap) (locs : List Loc) (ls : Array Slot), k_2 x0 x1 x2 x3 u → lv_has ls 6 [(0, .ref x0), (1, .int x1), (2, .int x2), (3, .int x3)] → Hp G u s H locs → W p l e rm_X2_choose s m args below meth c H locs 0 0 (MQ below (Ev G Q) args s 0 0 (ag G)) (F0 m 2 ls [])) {x0 : Nat} {x1 : Int32} {x2 : Int32} {x3 : Int32} {u : Mm} {H : Heap} {locs : List Loc} {ls : Array Slot} (h : V_X2_choose_2_B G Q k_2 x0 x1 x2 x3 u) (hl : lv_has ls 6 [(0, .ref x0), (1, .int x1), (2, .int x2), (3, .int x3)]) (hP : Hp G u s H locs) : W p l e rm_X2_choose s m args below meth c H locs 0 0 (MQ below (Ev G Q) args s 0 0 (ag G)) (F0 m 2 ls []) := by
  have hx := C.1
  have hb := C.2.1
  unfold V_X2_choose_2_B at h
  refine lv_iload_n hx hb dX2_choose_2 rfl (lv_at hl 3 rfl) ?_
  refine lv_iload_n hx hb dX2_choose_3 rfl (lv_at hl 2 rfl) ?_
  refine lv_icmp_gt (tgt := 121) hx hb dX2_choose_4 (by decide) (fun c4 => ?_) (fun c4 => ?_)
  · have h := h.1 c4
    exact q_vret C hr hlk hP h (by decide) (by decide) dX2_choose_121
  · have h := h.2 c4
    refine lv_iload_n hx hb dX2_choose_7 rfl (lv_at hl 3 rfl) ?_
    refine lv_bipush (v := (64 : Int32)) hx hb dX2_choose_8 (by decide) ?_
    refine lv_icmp_ge (tgt := 121) hx hb dX2_choose_10 (by decide) (fun c10 => ?_) (fun c10 => ?_)
    · have h := h.1 c10
      exact q_vret C hr hlk hP h (by decide) (by decide) dX2_choose_121
    · have h := h.2 c10
      refine lv_aload_n hx hb dX2_choose_13 rfl (lv_at hl 0 rfl) ?_
      obtain ⟨g1, h⟩ := h
      obtain ⟨g2, h⟩ := h
      refine q_getR C hP (k := 3) (lay_X2 C.hA) rfl (by decide) g1 g2 (fl_X2_23 C.hA) dX2_choose_14 ?_
      refine lv_iload_n hx hb dX2_choose_17 rfl (lv_at hl 3 rfl) ?_
      refine lv_iload_n hx hb dX2_choose_18 rfl (lv_at hl 3 rfl) ?_
      refine q_cali (q_runS C hP (c_J6_bitCount_0f7a4 h) (cd_J6_bitCount_0f7a4 C.hA) (ini_J6 C.hA) (ml_X2_55 C.hA) (st_J6_bitCount_0f7a4 C.hA) hd_J6_bitCount_0f7a4 ⟨rfl, rfl⟩ ⟨Nat.le_of_ble_eq_true rfl, Nat.le_of_ble_eq_true rfl⟩ ⟨Nat.le_of_ble_eq_true rfl, Nat.le_of_ble_eq_true rfl⟩ hl.1 rfl (Nat.le_of_ble_eq_true rfl) dX2_choose_19) hP (fun v_19 u_19 H locs h hP => ?_)
      refine lv_iconst (v := (2 : Int32)) hx hb dX2_choose_22 (by decide) ?_
      refine lv_icmp_ge (tgt := 30) hx hb dX2_choose_23 (by decide) (fun c23 => ?_) (fun c23 => ?_)
      · have h := h.1 c23
        refine lv_iconst (v := (-1 : Int32)) hx hb dX2_choose_30 (by decide) ?_
        exact b_X2_choose_31 C hr hlk hk_2 h (lv_sub hl [0, 1, 2, 3] rfl) hP
      · have h := h.2 c23
        refine lv_iconst (v := (0 : Int32)) hx hb dX2_choose_26 (by decide) ?_
        refine lv_goto (tgt := 31) hx hb dX2_choose_27 (by decide) ?_
        exact b_X2_choose_31 C hr hlk hk_2 h (lv_sub hl [0, 1, 2, 3] rfl) hP
theorem l_X2_choose_2 {G : Gx} {Q : Mm → Prop} {p : Program} {l : Launch} {e : Env} {s : State} {m : MethodId} {args : Array Value} {below : List Frame} {meth : Method} {c : Code} (C : Cx G p s m c cX2_choose RX2 6) (hr : meth.sig.returnType = none) (hlk : meth.locks = false) : ∀ (n : Nat) (x0 : Nat) (x1 : Int32) (x2 : Int32) (x3 : Int32) (u : Mm) (H : Heap) (locs : List Loc) (ls : Array Slot), V_X2_choose_2 G Q n x0 x1 x2 x3 u → lv_has ls 6 [(0, .ref x0), (1, .int x1), (2, .int x2), (3, .int x3)] → Hp G u s H locs → W p l e rm_X2_choose s m args below meth c H locs 0 0 (MQ below (Ev G Q) args s 0 0 (ag G)) (F0 m 2 ls []) := by
  intro n
  induction n with
  | zero => intro x0 x1 x2 x3 u H locs ls h; exact h.elim
  | succ n ih => intro x0 x1 x2 x3 u H locs ls h hl hP; exact b_X2_choose_2 C hr hlk ih h hl hP
set_option maxHeartbeats 4000000 in
set_option maxRecDepth 100000 in
theorem c_X2_choose {l : Launch} {G : Gx} {p0 : Nat} {p1 : Int32} {p2 : Int32} {u : Mm} {Q : Mm → Prop} (h : V_X2_choose G p0 p1 p2 u Q) : Met l yX2_choose [.code yX2_choose cX2_choose 6 none] rm_X2_choose (va_Pc [.ref p0, .int p1, .int p2] (Wd G u)) (Ev G Q) 0 0 (ag G) := by
  refine q_met (by decide) (Nat.le_of_ble_eq_true rfl) ?_
  intro p e s m below meth c ls C hr hlk hnm hl hP
  have hl : lv_has ls 6 [(0, .ref p0), (1, .int p1), (2, .int p2)] := hl
  generalize ([.ref p0, .int p1, .int p2] : List Value).toArray = args
  have hx := C.1
  have hb := C.2.1
  unfold V_X2_choose at h
  refine lv_iconst (v := (0 : Int32)) hx hb dX2_choose_0 (by decide) ?_
  refine lv_istore_n (lv' := [(3, .int (0 : Int32)), (0, .ref p0), (1, .int p1), (2, .int p2)]) hx hb dX2_choose_1 rfl hl (by decide) rfl (fun ls hl => ?_)
  obtain ⟨n, h⟩ := h
  exact l_X2_choose_2 C hr hlk n p0 p1 p2 (0 : Int32) u _ _ _ h (lv_sub hl [1, 2, 3, 0] rfl) hP
