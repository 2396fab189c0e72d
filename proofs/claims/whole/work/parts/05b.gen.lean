-- X11_isPlace
abbrev rm_X11_isPlace : Room := { frames := 0, cells := 0, slots := 0, locals := 0 }
theorem hd_X11_isPlace : yX11_isPlace.cls ≠ "java/lang/invoke/MethodHandle" ∧ yX11_isPlace.cls ≠ "java/lang/invoke/VarHandle" ∧ (parseMethodDescriptor yX11_isPlace.desc).map (fun d => d.parameters.length) = some 2 := by decide +kernel
def V_X11_isPlace (G : Gx) (p0 : Int32) (p1 : Int32) (u : Mm) (Q : Int32 → Mm → Prop) : Prop :=
  ((p0 < 0 → Q (0 : Int32) u) ∧ (¬ p0 < 0 → (((41 : Int32) ≤ p0 → Q (0 : Int32) u) ∧ (¬ (41 : Int32) ≤ p0 → ((p1 < 0 → Q (0 : Int32) u) ∧ (¬ p1 < 0 → (((41 : Int32) ≤ p1 → Q (0 : Int32) u) ∧ (¬ (41 : Int32) ≤ p1 → Q (1 : Int32) u))))))))
set_option maxHeartbeats 4000000 in
set_option maxRecDepth 100000 in
theorem c_X11_isPlace {l : Launch} {G : Gx} {p0 : Int32} {p1 : Int32} {u : Mm} {Q : Int32 → Mm → Prop} (h : V_X11_isPlace G p0 p1 u Q) : Met l yX11_isPlace [.code yX11_isPlace cX11_isPlace 2 (some .boolean)] rm_X11_isPlace (va_Pc [.int p0, .int p1] (Wd G u)) (Ei G Q) 0 0 (ag G) := by
  refine q_met (by decide) (Nat.le_of_ble_eq_true rfl) ?_
  intro p e s m below meth c ls C hr hlk hnm hl hP
  have hl : lv_has ls 2 [(0, .int p0), (1, .int p1)] := hl
  generalize ([.int p0, .int p1] : List Value).toArray = args
  have hx := C.1
  have hb := C.2.1
  unfold V_X11_isPlace at h
  refine lv_iload_n hx hb dX11_isPlace_0 rfl (lv_at hl 0 rfl) ?_
  refine lv_if_lt (tgt := 24) hx hb dX11_isPlace_1 (by decide) (fun c1 => ?_) (fun c1 => ?_)
  · have h := h.1 c1
    refine lv_iconst (v := (0 : Int32)) hx hb dX11_isPlace_24 (by decide) ?_
    exact q_zret C hr hlk hP (by decide) h (by decide) (by decide) dX11_isPlace_25
  · have h := h.2 c1
    refine lv_iload_n hx hb dX11_isPlace_4 rfl (lv_at hl 0 rfl) ?_
    refine lv_bipush (v := (41 : Int32)) hx hb dX11_isPlace_5 (by decide) ?_
    refine lv_icmp_ge (tgt := 24) hx hb dX11_isPlace_7 (by decide) (fun c7 => ?_) (fun c7 => ?_)
    · have h := h.1 c7
      refine lv_iconst (v := (0 : Int32)) hx hb dX11_isPlace_24 (by decide) ?_
      exact q_zret C hr hlk hP (by decide) h (by decide) (by decide) dX11_isPlace_25
    · have h := h.2 c7
      refine lv_iload_n hx hb dX11_isPlace_10 rfl (lv_at hl 1 rfl) ?_
      refine lv_if_lt (tgt := 24) hx hb dX11_isPlace_11 (by decide) (fun c11 => ?_) (fun c11 => ?_)
      · have h := h.1 c11
        refine lv_iconst (v := (0 : Int32)) hx hb dX11_isPlace_24 (by decide) ?_
        exact q_zret C hr hlk hP (by decide) h (by decide) (by decide) dX11_isPlace_25
      · have h := h.2 c11
        refine lv_iload_n hx hb dX11_isPlace_14 rfl (lv_at hl 1 rfl) ?_
        refine lv_bipush (v := (41 : Int32)) hx hb dX11_isPlace_15 (by decide) ?_
        refine lv_icmp_ge (tgt := 24) hx hb dX11_isPlace_17 (by decide) (fun c17 => ?_) (fun c17 => ?_)
        · have h := h.1 c17
          refine lv_iconst (v := (0 : Int32)) hx hb dX11_isPlace_24 (by decide) ?_
          exact q_zret C hr hlk hP (by decide) h (by decide) (by decide) dX11_isPlace_25
        · have h := h.2 c17
          refine lv_iconst (v := (1 : Int32)) hx hb dX11_isPlace_20 (by decide) ?_
          refine lv_goto (tgt := 25) hx hb dX11_isPlace_21 (by decide) ?_
          exact q_zret C hr hlk hP (by decide) h (by decide) (by decide) dX11_isPlace_25
-- X11_isYear
abbrev rm_X11_isYear : Room := { frames := 0, cells := 0, slots := 0, locals := 0 }
theorem hd_X11_isYear : yX11_isYear.cls ≠ "java/lang/invoke/MethodHandle" ∧ yX11_isYear.cls ≠ "java/lang/invoke/VarHandle" ∧ (parseMethodDescriptor yX11_isYear.desc).map (fun d => d.parameters.length) = some 1 := by decide +kernel
def V_X11_isYear (G : Gx) (p0 : Int32) (u : Mm) (Q : Int32 → Mm → Prop) : Prop :=
  ((p0 < 0 → Q (0 : Int32) u) ∧ (¬ p0 < 0 → (((100 : Int32) ≤ p0 → Q (0 : Int32) u) ∧ (¬ (100 : Int32) ≤ p0 → Q (1 : Int32) u))))
set_option maxHeartbeats 4000000 in
set_option maxRecDepth 100000 in
theorem c_X11_isYear {l : Launch} {G : Gx} {p0 : Int32} {u : Mm} {Q : Int32 → Mm → Prop} (h : V_X11_isYear G p0 u Q) : Met l yX11_isYear [.code yX11_isYear cX11_isYear 1 (some .boolean)] rm_X11_isYear (va_Pc [.int p0] (Wd G u)) (Ei G Q) 0 0 (ag G) := by
  refine q_met (by decide) (Nat.le_of_ble_eq_true rfl) ?_
  intro p e s m below meth c ls C hr hlk hnm hl hP
  have hl : lv_has ls 1 [(0, .int p0)] := hl
  generalize ([.int p0] : List Value).toArray = args
  have hx := C.1
  have hb := C.2.1
  unfold V_X11_isYear at h
  refine lv_iload_n hx hb dX11_isYear_0 rfl (lv_at hl 0 rfl) ?_
  refine lv_if_lt (tgt := 14) hx hb dX11_isYear_1 (by decide) (fun c1 => ?_) (fun c1 => ?_)
  · have h := h.1 c1
    refine lv_iconst (v := (0 : Int32)) hx hb dX11_isYear_14 (by decide) ?_
    exact q_zret C hr hlk hP (by decide) h (by decide) (by decide) dX11_isYear_15
  · have h := h.2 c1
    refine lv_iload_n hx hb dX11_isYear_4 rfl (lv_at hl 0 rfl) ?_
    refine lv_bipush (v := (100 : Int32)) hx hb dX11_isYear_5 (by decide) ?_
    refine lv_icmp_ge (tgt := 14) hx hb dX11_isYear_7 (by decide) (fun c7 => ?_) (fun c7 => ?_)
    · have h := h.1 c7
      refine lv_iconst (v := (0 : Int32)) hx hb dX11_isYear_14 (by decide) ?_
      exact q_zret C hr hlk hP (by decide) h (by decide) (by decide) dX11_isYear_15
    · have h := h.2 c7
      refine lv_iconst (v := (1 : Int32)) hx hb dX11_isYear_10 (by decide) ?_
      refine lv_goto (tgt := 15) hx hb dX11_isYear_11 (by decide) ?_
      exact q_zret C hr hlk hP (by decide) h (by decide) (by decide) dX11_isYear_15
-- X11_isTone
abbrev rm_X11_isTone : Room := { frames := 0, cells := 0, slots := 0, locals := 0 }
theorem hd_X11_isTone : yX11_isTone.cls ≠ "java/lang/invoke/MethodHandle" ∧ yX11_isTone.cls ≠ "java/lang/invoke/VarHandle" ∧ (parseMethodDescriptor yX11_isTone.desc).map (fun d => d.parameters.length) = some 1 := by decide +kernel
def V_X11_isTone (G : Gx) (p0 : Int32) (u : Mm) (Q : Int32 → Mm → Prop) : Prop :=
  ((p0 < 0 → Q (0 : Int32) u) ∧ (¬ p0 < 0 → (((3 : Int32) ≤ p0 → Q (0 : Int32) u) ∧ (¬ (3 : Int32) ≤ p0 → Q (1 : Int32) u))))
set_option maxHeartbeats 4000000 in
set_option maxRecDepth 100000 in
theorem c_X11_isTone {l : Launch} {G : Gx} {p0 : Int32} {u : Mm} {Q : Int32 → Mm → Prop} (h : V_X11_isTone G p0 u Q) : Met l yX11_isTone [.code yX11_isTone cX11_isTone 1 (some .boolean)] rm_X11_isTone (va_Pc [.int p0] (Wd G u)) (Ei G Q) 0 0 (ag G) := by
  refine q_met (by decide) (Nat.le_of_ble_eq_true rfl) ?_
  intro p e s m below meth c ls C hr hlk hnm hl hP
  have hl : lv_has ls 1 [(0, .int p0)] := hl
  generalize ([.int p0] : List Value).toArray = args
  have hx := C.1
  have hb := C.2.1
  unfold V_X11_isTone at h
  refine lv_iload_n hx hb dX11_isTone_0 rfl (lv_at hl 0 rfl) ?_
  refine lv_if_lt (tgt := 13) hx hb dX11_isTone_1 (by decide) (fun c1 => ?_) (fun c1 => ?_)
  · have h := h.1 c1
    refine lv_iconst (v := (0 : Int32)) hx hb dX11_isTone_13 (by decide) ?_
    exact q_zret C hr hlk hP (by decide) h (by decide) (by decide) dX11_isTone_14
  · have h := h.2 c1
    refine lv_iload_n hx hb dX11_isTone_4 rfl (lv_at hl 0 rfl) ?_
    refine lv_iconst (v := (3 : Int32)) hx hb dX11_isTone_5 (by decide) ?_
    refine lv_icmp_ge (tgt := 13) hx hb dX11_isTone_6 (by decide) (fun c6 => ?_) (fun c6 => ?_)
    · have h := h.1 c6
      refine lv_iconst (v := (0 : Int32)) hx hb dX11_isTone_13 (by decide) ?_
      exact q_zret C hr hlk hP (by decide) h (by decide) (by decide) dX11_isTone_14
    · have h := h.2 c6
      refine lv_iconst (v := (1 : Int32)) hx hb dX11_isTone_9 (by decide) ?_
      refine lv_goto (tgt := 14) hx hb dX11_isTone_10 (by decide) ?_
      exact q_zret C hr hlk hP (by decide) h (by decide) (by decide) dX11_isTone_14
-- X11_distanceSquare
abbrev rm_X11_distanceSquare : Room := { frames := 0, cells := 0, slots := 0, locals := 0 }
theorem hd_X11_distanceSquare : yX11_distanceSquare.cls ≠ "java/lang/invoke/MethodHandle" ∧ yX11_distanceSquare.cls ≠ "java/lang/invoke/VarHandle" ∧ (parseMethodDescriptor yX11_distanceSquare.desc).map (fun d => d.parameters.length) = some 4 := by decide +kernel
def V_X11_distanceSquare (G : Gx) (p0 : Int32) (p1 : Int32) (p2 : Int32) (p3 : Int32) (u : Mm) (Q : Int32 → Mm → Prop) : Prop :=
  Q (((p2 - p0) * (p2 - p0)) + ((p3 - p1) * (p3 - p1))) u
set_option maxHeartbeats 4000000 in
set_option maxRecDepth 100000 in
theorem c_X11_distanceSquare {l : Launch} {G : Gx} {p0 : Int32} {p1 : Int32} {p2 : Int32} {p3 : Int32} {u : Mm} {Q : Int32 → Mm → Prop} (h : V_X11_distanceSquare G p0 p1 p2 p3 u Q) : Met l yX11_distanceSquare [.code yX11_distanceSquare cX11_distanceSquare 4 (some .int)] rm_X11_distanceSquare (va_Pc [.int p0, .int p1, .int p2, .int p3] (Wd G u)) (Ei G Q) 0 0 (ag G) := by
  refine q_met (by decide) (Nat.le_of_ble_eq_true rfl) ?_
  intro p e s m below meth c ls C hr hlk hnm hl hP
  have hl : lv_has ls 4 [(0, .int p0), (1, .int p1), (2, .int p2), (3, .int p3)] := hl
  generalize ([.int p0, .int p1, .int p2, .int p3] : List Value).toArray = args
  have hx := C.1
  have hb := C.2.1
  unfold V_X11_distanceSquare at h
  refine lv_iload_n hx hb dX11_distanceSquare_0 rfl (lv_at hl 2 rfl) ?_
  refine lv_iload_n hx hb dX11_distanceSquare_1 rfl (lv_at hl 0 rfl) ?_
  refine lv_isub hx hb dX11_distanceSquare_2 ?_
  refine lv_iload_n hx hb dX11_distanceSquare_3 rfl (lv_at hl 2 rfl) ?_
  refine lv_iload_n hx hb dX11_distanceSquare_4 rfl (lv_at hl 0 rfl) ?_
  refine lv_isub hx hb dX11_distanceSquare_5 ?_
  refine lv_imul hx hb dX11_distanceSquare_6 ?_
  refine lv_iload_n hx hb dX11_distanceSquare_7 rfl (lv_at hl 3 rfl) ?_
  refine lv_iload_n hx hb dX11_distanceSquare_8 rfl (lv_at hl 1 rfl) ?_
  refine lv_isub hx hb dX11_distanceSquare_9 ?_
  refine lv_iload_n hx hb dX11_distanceSquare_10 rfl (lv_at hl 3 rfl) ?_
  refine lv_iload_n hx hb dX11_distanceSquare_11 rfl (lv_at hl 1 rfl) ?_
  refine lv_isub hx hb dX11_distanceSquare_12 ?_
  refine lv_imul hx hb dX11_distanceSquare_13 ?_
  refine lv_iadd hx hb dX11_distanceSquare_14 ?_
  exact q_iret C hr hlk hP h (by decide) (by decide) dX11_distanceSquare_15
-- X11_wayRoot
abbrev rm_X11_wayRoot : Room := { frames := 0, cells := 0, slots := 0, locals := 0 }
theorem hd_X11_wayRoot : yX11_wayRoot.cls ≠ "java/lang/invoke/MethodHandle" ∧ yX11_wayRoot.cls ≠ "java/lang/invoke/VarHandle" ∧ (parseMethodDescriptor yX11_wayRoot.desc).map (fun d => d.parameters.length) = some 1 := by decide +kernel
def V_X11_wayRoot_33 (G : Gx) (Q : Int32 → Mm → Prop) (k_12 : Int32 → Int32 → Int32 → Mm → Prop) (x1 : Int32) (x2 : Int32) (x3 : Int32) (u : Mm) : Prop :=
  ∀ x3_36 : Int32, x3_36 = (shr x3 (1 : Int32)) → k_12 x1 x2 x3_36 u
def V_X11_wayRoot_12_B (G : Gx) (Q : Int32 → Mm → Prop) (k_12 : Int32 → Int32 → Int32 → Mm → Prop) (x1 : Int32) (x2 : Int32) (x3 : Int32) (u : Mm) : Prop :=
  ((x3 ≤ 0 → Q x2 u) ∧ (¬ x3 ≤ 0 → ∀ x4_19 : Int32, x4_19 = (x2 ||| x3) → ((x1 < (x4_19 * x4_19) → V_X11_wayRoot_33 G Q k_12 x1 x2 x3 u) ∧ (¬ x1 < (x4_19 * x4_19) → V_X11_wayRoot_33 G Q k_12 x1 x4_19 x3 u))))
def V_X11_wayRoot_12 (G : Gx) (Q : Int32 → Mm → Prop) : Nat → (Int32 → Int32 → Int32 → Mm → Prop)
  | 0 => fun _ _ _ _ => False
  | n + 1 => fun x1 x2 x3 u => V_X11_wayRoot_12_B G Q (V_X11_wayRoot_12 G Q n) x1 x2 x3 u
def V_X11_wayRoot (G : Gx) (p0 : Int32) (u : Mm) (Q : Int32 → Mm → Prop) : Prop :=
  ∀ x1_5 : Int32, x1_5 = ((10000 : Int32) * p0) → ∃ n : Nat, V_X11_wayRoot_12 G Q n x1_5 (0 : Int32) (8192 : Int32) u
set_option maxHeartbeats 4000000 in
set_option maxRecDepth 100000 in
theorem b_X11_wayRoot_33 {G : Gx} {Q : Int32 → Mm → Prop} {p : Program} {l : Launch} {e : Env} {s : State} {m : MethodId} {args : Array Value} {below : List Frame} {meth : Method} {c : Code} (C : Cx G p s m c cX11_wayRoot RX11 5) (hr : meth.sig.returnType = (some .int)) (hlk : meth.locks = false) {k_12 : Int32 → Int32 → Int32 → Mm → Prop} (hk_12 : ∀ (x1 : Int32) (x2 : Int32) (x3 : Int32) (u : Mm) (H : Heap) (locs : List Loc) (ls : Array Slot), k_12 x1 x2 x3 u → lv_has ls 5 [(1, .int x1), (2, .int x2), (3, .int x3)] → Hp G u s H locs → W p l e rm_X11_wayRoot s m args below meth c H locs 0 0 (MQ below (Ei G Q) args s 0 0 (ag G)) (F0 m 12 ls [])) {x1 : Int32} {x2 : Int32} {x3 : Int32} {u : Mm} {H : Heap} {locs : List Loc} {ls : Array Slot} (h : V_X11_wayRoot_33 G Q k_12 x1 x2 x3 u) (hl : lv_has ls 5 [(1, .int x1), (2, .int x2), (3, .int x3)]) (hP : Hp G u s H locs) : W p l e rm_X11_wayRoot s m args below meth c H locs 0 0 (MQ below (Ei G Q) args s 0 0 (ag G)) (F0 m 33 ls []) := by
  have hx := C.1
  have hb := C.2.1
  unfold V_X11_wayRoot_33 at h
  refine lv_iload_n hx hb dX11_wayRoot_33 rfl (lv_at hl 2 rfl) ?_
  refine lv_iconst (v := (1 : Int32)) hx hb dX11_wayRoot_34 (by decide) ?_
  refine lv_ishr hx hb dX11_wayRoot_35 ?_
  refine lv_topi (fun x3_36 ex3_36 => ?_)
  have h := h x3_36 ex3_36
  refine lv_istore_n (lv' := [(3, .int x3_36), (1, .int x1), (2, .int x2)]) hx hb dX11_wayRoot_36 rfl hl (by decide) rfl (fun ls hl => ?_)
  refine lv_goto (tgt := 12) hx hb dX11_wayRoot_37 (by decide) ?_
  exact hk_12 x1 x2 x3_36 u _ _ _ h (lv_sub hl [1, 2, 0] rfl) hP
set_option maxHeartbeats 4000000 in
set_option maxRecDepth 100000 in
theorem b_X11_wayRoot_12 {G : Gx} {Q : Int32 → Mm → Prop} {p : Program} {l : Launch} {e : Env} {s : State} {m : MethodId} {args : Array Value} {below : List Frame} {meth : Method} {c : Code} (C : Cx G p s m c cX11_wayRoot RX11 5) (hr : meth.sig.returnType = (some .int)) (hlk : meth.locks = false) {k_12 : Int32 → Int32 → Int32 → Mm → Prop} (hk_12 : ∀ (x1 : Int32) (x2 : Int32) (x3 : Int32) (u : Mm) (H : Heap) (locs : List Loc) (ls : Array Slot), k_12 x1 x2 x3 u → lv_has ls 5 [(1, .int x1), (2, .int x2), (3, .int x3)] → Hp G u s H locs → W p l e rm_X11_wayRoot s m args below meth c H locs 0 0 (MQ below (Ei G Q) args s 0 0 (ag G)) (F0 m 12 ls [])) {x1 : Int32} {x2 : Int32} {x3 : Int32} {u : Mm} {H : Heap} {locs : List Loc} {ls : Array Slot} (h : V_X11_wayRoot_12_B G Q k_12 x1 x2 x3 u) (hl : lv_has ls 5 [(1, .int x1), (2, .int x2), (3, .int x3)]) (hP : Hp G u s H locs) : W p l e rm_X11_wayRoot s m args below meth c H locs 0 0 (MQ below (Ei G Q) args s 0 0 (ag G)) (F0 m 12 ls []) := by
  have hx := C.1
  have hb := C.2.1
  unfold V_X11_wayRoot_12_B at h
  refine lv_iload_n hx hb dX11_wayRoot_12 rfl (lv_at hl 2 rfl) ?_
  refine lv_if_le (tgt := 40) hx hb dX11_wayRoot_13 (by decide) (fun c13 => ?_) (fun c13 => ?_)
  · have h := h.1 c13
    refine lv_iload_n hx hb dX11_wayRoot_40 rfl (lv_at hl 1 rfl) ?_
    exact q_iret C hr hlk hP h (by decide) (by decide) dX11_wayRoot_41
  · have h := h.2 c13
    refine lv_iload_n hx hb dX11_wayRoot_16 rfl (lv_at hl 1 rfl) ?_
    refine lv_iload_n hx hb dX11_wayRoot_17 rfl (lv_at hl 2 rfl) ?_
    refine lv_ior hx hb dX11_wayRoot_18 ?_
    refine lv_topi (fun x4_19 ex4_19 => ?_)
    have h := h x4_19 ex4_19
    refine lv_istore (lv' := [(4, .int x4_19), (1, .int x1), (2, .int x2), (3, .int x3)]) hx hb dX11_wayRoot_19 hl (by decide) rfl (fun ls hl => ?_)
    refine lv_iload hx hb dX11_wayRoot_21 (lv_at hl 0 rfl) ?_
    refine lv_iload hx hb dX11_wayRoot_23 (lv_at hl 0 rfl) ?_
    refine lv_imul hx hb dX11_wayRoot_25 ?_
    refine lv_iload_n hx hb dX11_wayRoot_26 rfl (lv_at hl 1 rfl) ?_
    refine lv_icmp_gt (tgt := 33) hx hb dX11_wayRoot_27 (by decide) (fun c27 => ?_) (fun c27 => ?_)
    · have h := h.1 c27
      exact b_X11_wayRoot_33 C hr hlk hk_12 h (lv_sub hl [1, 2, 3] rfl) hP
    · have h := h.2 c27
      refine lv_iload hx hb dX11_wayRoot_30 (lv_at hl 0 rfl) ?_
      refine lv_istore_n (lv' := [(2, .int x4_19), (4, .int x4_19), (1, .int x1), (3, .int x3)]) hx hb dX11_wayRoot_32 rfl hl (by decide) rfl (fun ls hl => ?_)
      exact b_X11_wayRoot_33 C hr hlk hk_12 h (lv_sub hl [2, 0, 3] rfl) hP
theorem l_X11_wayRoot_12 {G : Gx} {Q : Int32 → Mm → Prop} {p : Program} {l : Launch} {e : Env} {s : State} {m : MethodId} {args : Array Value} {below : List Frame} {meth : Method} {c : Code} (C : Cx G p s m c cX11_wayRoot RX11 5) (hr : meth.sig.returnType = (some .int)) (hlk : meth.locks = false) : ∀ (n : Nat) (x1 : Int32) (x2 : Int32) (x3 : Int32) (u : Mm) (H : Heap) (locs : List Loc) (ls : Array Slot), V_X11_wayRoot_12 G Q n x1 x2 x3 u → lv_has ls 5 [(1, .int x1), (2, .int x2), (3, .int x3)] → Hp G u s H locs → W p l e rm_X11_wayRoot s m args below meth c H locs 0 0 (MQ below (Ei G Q) args s 0 0 (ag G)) (F0 m 12 ls []) := by
  intro n
  induction n with
  | zero => intro x1 x2 x3 u H locs ls h; exact h.elim
  | succ n ih => intro x1 x2 x3 u H locs ls h hl hP; exact b_X11_wayRoot_12 C hr hlk ih h hl hP
set_option maxHeartbeats 4000000 in
set_option maxRecDepth 100000 in
theorem c_X11_wayRoot {l : Launch} {G : Gx} {p0 : Int32} {u : Mm} {Q : Int32 → Mm → Prop} (h : V_X11_wayRoot G p0 u Q) : Met l yX11_wayRoot [.code yX11_wayRoot cX11_wayRoot 5 (some .int)] rm_X11_wayRoot (va_Pc [.int p0] (Wd G u)) (Ei G Q) 0 0 (ag G) := by
  refine q_met (by decide) (Nat.le_of_ble_eq_true rfl) ?_
  intro p e s m below meth c ls C hr hlk hnm hl hP
  have hl : lv_has ls 5 [(0, .int p0)] := hl
  generalize ([.int p0] : List Value).toArray = args
  have hx := C.1
  have hb := C.2.1
  unfold V_X11_wayRoot at h
  refine lv_sipush (v := (10000 : Int32)) hx hb dX11_wayRoot_0 (by decide) ?_
  refine lv_iload_n hx hb dX11_wayRoot_3 rfl (lv_at hl 0 rfl) ?_
  refine lv_imul hx hb dX11_wayRoot_4 ?_
  refine lv_topi (fun x1_5 ex1_5 => ?_)
  have h := h x1_5 ex1_5
  refine lv_istore_n (lv' := [(1, .int x1_5), (0, .int p0)]) hx hb dX11_wayRoot_5 rfl hl (by decide) rfl (fun ls hl => ?_)
  refine lv_iconst (v := (0 : Int32)) hx hb dX11_wayRoot_6 (by decide) ?_
  refine lv_istore_n (lv' := [(2, .int (0 : Int32)), (1, .int x1_5), (0, .int p0)]) hx hb dX11_wayRoot_7 rfl hl (by decide) rfl (fun ls hl => ?_)
  refine lv_sipush (v := (8192 : Int32)) hx hb dX11_wayRoot_8 (by decide) ?_
  refine lv_istore_n (lv' := [(3, .int (8192 : Int32)), (2, .int (0 : Int32)), (1, .int x1_5), (0, .int p0)]) hx hb dX11_wayRoot_11 rfl hl (by decide) rfl (fun ls hl => ?_)
  obtain ⟨n, h⟩ := h
  exact l_X11_wayRoot_12 C hr hlk n x1_5 (0 : Int32) (8192 : Int32) u _ _ _ h (lv_sub hl [2, 1, 0] rfl) hP
-- X11_insert
abbrev rm_X11_insert : Room := { frames := 0, cells := 0, slots := 0, locals := 0 }
theorem hd_X11_insert : yX11_insert.cls ≠ "java/lang/invoke/MethodHandle" ∧ yX11_insert.cls ≠ "java/lang/invoke/VarHandle" ∧ (parseMethodDescriptor yX11_insert.desc).map (fun d => d.parameters.length) = some 3 := by decide +kernel
def V_X11_insert_29 (G : Gx) (Q : Mm → Prop) (x0 : Nat) (x2 : Int32) (x3 : Int32) (u : Mm) : Prop :=
  kd G x0 = 13 ∧ vp_in x3 (ln G x0) ∧ ∀ u_32 : Mm, u_32 = sI u x0 x3.toNatClampNeg x2 → Q u_32
def V_X11_insert_2_B (G : Gx) (Q : Mm → Prop) (k_2 : Nat → Int32 → Int32 → Mm → Prop) (x0 : Nat) (x2 : Int32) (x3 : Int32) (u : Mm) : Prop :=
  ((x3 ≤ 0 → V_X11_insert_29 G Q x0 x2 x3 u) ∧ (¬ x3 ≤ 0 → kd G x0 = 13 ∧ vp_in (x3 - (1 : Int32)) (ln G x0) ∧ (((gI u x0 (x3 - (1 : Int32)).toNatClampNeg) ≤ x2 → V_X11_insert_29 G Q x0 x2 x3 u) ∧ (¬ (gI u x0 (x3 - (1 : Int32)).toNatClampNeg) ≤ x2 → vp_in x3 (ln G x0) ∧ ∀ u_22 : Mm, u_22 = sI u x0 x3.toNatClampNeg (gI u x0 (x3 - (1 : Int32)).toNatClampNeg) → ∀ x3_23 : Int32, x3_23 = x3 + (-1 : Int32) → k_2 x0 x2 x3_23 u_22))))
def V_X11_insert_2 (G : Gx) (Q : Mm → Prop) : Nat → (Nat → Int32 → Int32 → Mm → Prop)
  | 0 => fun _ _ _ _ => False
  | n + 1 => fun x0 x2 x3 u => V_X11_insert_2_B G Q (V_X11_insert_2 G Q n) x0 x2 x3 u
def V_X11_insert (G : Gx) (p0 : Nat) (p1 : Int32) (p2 : Int32) (u : Mm) (Q : Mm → Prop) : Prop :=
  ∃ n : Nat, V_X11_insert_2 G Q n p0 p2 p1 u
set_option maxHeartbeats 4000000 in
set_option maxRecDepth 100000 in
theorem b_X11_insert_29 {G : Gx} {Q : Mm → Prop} {p : Program} {l : Launch} {e : Env} {s : State} {m : MethodId} {args : Array Value} {below : List Frame} {meth : Method} {c : Code} (C : Cx G p s m c cX11_insert RX11 4) (hr : meth.sig.returnType = none) (hlk : meth.locks = false) {x0 : Nat} {x2 : Int32} {x3 : Int32} {u : Mm} {H : Heap} {locs : List Loc} {ls : Array Slot} (h : V_X11_insert_29 G Q x0 x2 x3 u) (hl : lv_has ls 4 [(0, .ref x0), (2, .int x2), (3, .int x3)]) (hP : Hp G u s H locs) : W p l e rm_X11_insert s m args below meth c H locs 0 0 (MQ below (Ev G Q) args s 0 0 (ag G)) (F0 m 29 ls []) := by
  have hx := C.1
  have hb := C.2.1
  unfold V_X11_insert_29 at h
  refine lv_aload_n hx hb dX11_insert_29 rfl (lv_at hl 0 rfl) ?_
  refine lv_iload_n hx hb dX11_insert_30 rfl (lv_at hl 2 rfl) ?_
  refine lv_iload_n hx hb dX11_insert_31 rfl (lv_at hl 1 rfl) ?_
  obtain ⟨g1, h⟩ := h
  obtain ⟨g2, h⟩ := h
  refine q_iast C hP g1 g2 dX11_insert_32 (fun H locs hP => ?_)
  obtain ⟨u_32, eu_32, hP⟩ := Hp.nm hP
  have h := h u_32 eu_32
  exact q_vret C hr hlk hP h (by decide) (by decide) dX11_insert_33
set_option maxHeartbeats 4000000 in
set_option maxRecDepth 100000 in
theorem b_X11_insert_2 {G : Gx} {Q : Mm → Prop} {p : Program} {l : Launch} {e : Env} {s : State} {m : MethodId} {args : Array Value} {below : List Frame} {meth : Method} {c : Code} (C : Cx G p s m c cX11_insert RX11 4) (hr : meth.sig.returnType = none) (hlk : meth.locks = false) {k_2 : Nat → Int32 → Int32 → Mm → Prop} (hk_2 : ∀ (x0 : Nat) (x2 : Int32) (x3 : Int32) (u : Mm) (H : Heap) (locs : List Loc) (ls : Array Slot), k_2 x0 x2 x3 u → lv_has ls 4 [(0, .ref x0), (2, .int x2), (3, .int x3)] → Hp G u s H locs → W p l e rm_X11_insert s m args below meth c H locs 0 0 (MQ below (Ev G Q) args s 0 0 (ag G)) (F0 m 2 ls [])) {x0 : Nat} {x2 : Int32} {x3 : Int32} {u : Mm} {H : Heap} {locs : List Loc} {ls : Array Slot} (h : V_X11_insert_2_B G Q k_2 x0 x2 x3 u) (hl : lv_has ls 4 [(0, .ref x0), (2, .int x2), (3, .int x3)]) (hP : Hp G u s H locs) : W p l e rm_X11_insert s m args below meth c H locs 0 0 (MQ below (Ev G Q) args s 0 0 (ag G)) (F0 m 2 ls []) := by
  have hx := C.1
  have hb := C.2.1
  unfold V_X11_insert_2_B at h
  refine lv_iload_n hx hb dX11_insert_2 rfl (lv_at hl 2 rfl) ?_
  refine lv_if_le (tgt := 29) hx hb dX11_insert_3 (by decide) (fun c3 => ?_) (fun c3 => ?_)
  · have h := h.1 c3
    exact b_X11_insert_29 C hr hlk h (lv_sub hl [0, 1, 2] rfl) hP
  · have h := h.2 c3
    refine lv_aload_n hx hb dX11_insert_6 rfl (lv_at hl 0 rfl) ?_
    refine lv_iload_n hx hb dX11_insert_7 rfl (lv_at hl 2 rfl) ?_
    refine lv_iconst (v := (1 : Int32)) hx hb dX11_insert_8 (by decide) ?_
    refine lv_isub hx hb dX11_insert_9 ?_
    obtain ⟨g1, h⟩ := h
    obtain ⟨g2, h⟩ := h
    refine q_iald C hP g1 g2 dX11_insert_10 ?_
    refine lv_iload_n hx hb dX11_insert_11 rfl (lv_at hl 1 rfl) ?_
    refine lv_icmp_le (tgt := 29) hx hb dX11_insert_12 (by decide) (fun c12 => ?_) (fun c12 => ?_)
    · have h := h.1 c12
      exact b_X11_insert_29 C hr hlk h (lv_sub hl [0, 1, 2] rfl) hP
    · have h := h.2 c12
      refine lv_aload_n hx hb dX11_insert_15 rfl (lv_at hl 0 rfl) ?_
      refine lv_iload_n hx hb dX11_insert_16 rfl (lv_at hl 2 rfl) ?_
      refine lv_aload_n hx hb dX11_insert_17 rfl (lv_at hl 0 rfl) ?_
      refine lv_iload_n hx hb dX11_insert_18 rfl (lv_at hl 2 rfl) ?_
      refine lv_iconst (v := (1 : Int32)) hx hb dX11_insert_19 (by decide) ?_
      refine lv_isub hx hb dX11_insert_20 ?_
      refine q_iald C hP g1 g2 dX11_insert_21 ?_
      obtain ⟨g3, h⟩ := h
      refine q_iast C hP g1 g3 dX11_insert_22 (fun H locs hP => ?_)
      obtain ⟨u_22, eu_22, hP⟩ := Hp.nm hP
      have h := h u_22 eu_22
      obtain ⟨x3_23, ex3_23⟩ : ∃ y : Int32, y = x3 + (-1 : Int32) := ⟨_, rfl⟩
      have h := h x3_23 ex3_23
      refine lv_iinc (v := x3_23) (lv' := [(3, .int x3_23), (0, .ref x0), (2, .int x2)]) hx hb dX11_insert_23 hl (k := 2) rfl (by rw [ex3_23]; rfl) (by decide) rfl (fun ls hl => ?_)
      refine lv_goto (tgt := 2) hx hb dX11_insert_26 (by decide) ?_
      exact hk_2 x0 x2 x3_23 u_22 _ _ _ h (lv_sub hl [1, 2, 0] rfl) hP
theorem l_X11_insert_2 {G : Gx} {Q : Mm → Prop} {p : Program} {l : Launch} {e : Env} {s : State} {m : MethodId} {args : Array Value} {below : List Frame} {meth : Method} {c : Code} (C : Cx G p s m c cX11_insert RX11 4) (hr : meth.sig.returnType = none) (hlk : meth.locks = false) : ∀ (n : Nat) (x0 : Nat) (x2 : Int32) (x3 : Int32) (u : Mm) (H : Heap) (locs : List Loc) (ls : Array Slot), V_X11_insert_2 G Q n x0 x2 x3 u → lv_has ls 4 [(0, .ref x0), (2, .int x2), (3, .int x3)] → Hp G u s H locs → W p l e rm_X11_insert s m args below meth c H locs 0 0 (MQ below (Ev G Q) args s 0 0 (ag G)) (F0 m 2 ls []) := by
  intro n
  induction n with
  | zero => intro x0 x2 x3 u H locs ls h; exact h.elim
  | succ n ih => intro x0 x2 x3 u H locs ls h hl hP; exact b_X11_insert_2 C hr hlk ih h hl hP
set_option maxHeartbeats 4000000 in
set_option maxRecDepth 100000 in
theorem c_X11_insert {l : Launch} {G : Gx} {p0 : Nat} {p1 : Int32} {p2 : Int32} {u : Mm} {Q : Mm → Prop} (h : V_X11_insert G p0 p1 p2 u Q) : Met l yX11_insert [.code yX11_insert cX11_insert 4 none] rm_X11_insert (va_Pc [.ref p0, .int p1, .int p2] (Wd G u)) (Ev G Q) 0 0 (ag G) := by
  refine q_met (by decide) (Nat.le_of_ble_eq_true rfl) ?_
  intro p e s m below meth c ls C hr hlk hnm hl hP
  have hl : lv_has ls 4 [(0, .ref p0), (1, .int p1), (2, .int p2)] := hl
  generalize ([.ref p0, .int p1, .int p2] : List Value).toArray = args
  have hx := C.1
  have hb := C.2.1
  unfold V_X11_insert at h
  refine lv_iload_n hx hb dX11_insert_0 rfl (lv_at hl 1 rfl) ?_
  refine lv_istore_n (lv' := [(3, .int p1), (0, .ref p0), (1, .int p1), (2, .int p2)]) hx hb dX11_insert_1 rfl hl (by decide) rfl (fun ls hl => ?_)
  obtain ⟨n, h⟩ := h
  exact l_X11_insert_2 C hr hlk n p0 p2 p1 u _ _ _ h (lv_sub hl [1, 3, 0] rfl) hP
-- X11_byAir
abbrev rm_X11_byAir : Room := { frames := 0, cells := 0, slots := 0, locals := 0 }
theorem hd_X11_byAir : yX11_byAir.cls ≠ "java/lang/invoke/MethodHandle" ∧ yX11_byAir.cls ≠ "java/lang/invoke/VarHandle" ∧ (parseMethodDescriptor yX11_byAir.desc).map (fun d => d.parameters.length) = some 2 := by decide +kernel
def V_X11_byAir (G : Gx) (p0 : Int32) (p1 : Int32) (u : Mm) (Q : Int32 → Mm → Prop) : Prop :=
  ((p1 ≤ 0 → Q (0 : Int32) u) ∧ (¬ p1 ≤ 0 → ¬ p1 = 0 ∧ Q (p0 / p1) u))
set_option maxHeartbeats 4000000 in
set_option maxRecDepth 100000 in
theorem c_X11_byAir {l : Launch} {G : Gx} {p0 : Int32} {p1 : Int32} {u : Mm} {Q : Int32 → Mm → Prop} (h : V_X11_byAir G p0 p1 u Q) : Met l yX11_byAir [.code yX11_byAir cX11_byAir 2 (some .int)] rm_X11_byAir (va_Pc [.int p0, .int p1] (Wd G u)) (Ei G Q) 0 0 (ag G) := by
  refine q_met (by decide) (Nat.le_of_ble_eq_true rfl) ?_
  intro p e s m below meth c ls C hr hlk hnm hl hP
  have hl : lv_has ls 2 [(0, .int p0), (1, .int p1)] := hl
  generalize ([.int p0, .int p1] : List Value).toArray = args
  have hx := C.1
  have hb := C.2.1
  unfold V_X11_byAir at h
  refine lv_iload_n hx hb dX11_byAir_0 rfl (lv_at hl 1 rfl) ?_
  refine lv_if_le (tgt := 10) hx hb dX11_byAir_1 (by decide) (fun c1 => ?_) (fun c1 => ?_)
  · have h := h.1 c1
    refine lv_iconst (v := (0 : Int32)) hx hb dX11_byAir_10 (by decide) ?_
    exact q_iret C hr hlk hP h (by decide) (by decide) dX11_byAir_11
  · have h := h.2 c1
    refine lv_iload_n hx hb dX11_byAir_4 rfl (lv_at hl 0 rfl) ?_
    refine lv_iload_n hx hb dX11_byAir_5 rfl (lv_at hl 1 rfl) ?_
    obtain ⟨g1, h⟩ := h
    refine lv_idiv hx hb dX11_byAir_6 g1 ?_
    refine lv_goto (tgt := 11) hx hb dX11_byAir_7 (by decide) ?_
    exact q_iret C hr hlk hP h (by decide) (by decide) dX11_byAir_11
-- X11_thingBits
abbrev rm_X11_thingBits : Room := { frames := 0, cells := 0, slots := 0, locals := 0 }
theorem hd_X11_thingBits : yX11_thingBits.cls ≠ "java/lang/invoke/MethodHandle" ∧ yX11_thingBits.cls ≠ "java/lang/invoke/VarHandle" ∧ (parseMethodDescriptor yX11_thingBits.desc).map (fun d => d.parameters.length) = some 2 := by decide +kernel
def V_X11_thingBits (G : Gx) (p0 : Int32) (p1 : Int32) (u : Mm) (Q : Int32 → Mm → Prop) : Prop :=
  Q ((p0 &&& ((shl (1 : Int32) p1) - (1 : Int32))) ||| (shl (ush p0 p1) (8 : Int32))) u
set_option maxHeartbeats 4000000 in
set_option maxRecDepth 100000 in
theorem c_X11_thingBits {l : Launch} {G : Gx} {p0 : Int32} {p1 : Int32} {u : Mm} {Q : Int32 → Mm → Prop} (h : V_X11_thingBits G p0 p1 u Q) : Met l yX11_thingBits [.code yX11_thingBits cX11_thingBits 2 (some .int)] rm_X11_thingBits (va_Pc [.int p0, .int p1] (Wd G u)) (Ei G Q) 0 0 (ag G) := by
  refine q_met (by decide) (Nat.le_of_ble_eq_true rfl) ?_
  intro p e s m below meth c ls C hr hlk hnm hl hP
  have hl : lv_has ls 2 [(0, .int p0), (1, .int p1)] := hl
  generalize ([.int p0, .int p1] : List Value).toArray = args
  have hx := C.1
  have hb := C.2.1
  unfold V_X11_thingBits at h
  refine lv_iload_n hx hb dX11_thingBits_0 rfl (lv_at hl 0 rfl) ?_
  refine lv_iconst (v := (1 : Int32)) hx hb dX11_thingBits_1 (by decide) ?_
  refine lv_iload_n hx hb dX11_thingBits_2 rfl (lv_at hl 1 rfl) ?_
  refine lv_ishl hx hb dX11_thingBits_3 ?_
  refine lv_iconst (v := (1 : Int32)) hx hb dX11_thingBits_4 (by decide) ?_
  refine lv_isub hx hb dX11_thingBits_5 ?_
  refine lv_iand hx hb dX11_thingBits_6 ?_
  refine lv_iload_n hx hb dX11_thingBits_7 rfl (lv_at hl 0 rfl) ?_
  refine lv_iload_n hx hb dX11_thingBits_8 rfl (lv_at hl 1 rfl) ?_
  refine lv_iushr (v := ush p0 p1) hx hb dX11_thingBits_9 rfl ?_
  refine lv_bipush (v := (8 : Int32)) hx hb dX11_thingBits_10 (by decide) ?_
  refine lv_ishl hx hb dX11_thingBits_12 ?_
  refine lv_ior hx hb dX11_thingBits_13 ?_
  exact q_iret C hr hlk hP h (by decide) (by decide) dX11_thingBits_14
-- X11_sameStart
abbrev rm_X11_sameStart : Room := { frames := 0, cells := 0, slots := 0, locals := 0 }
theorem hd_X11_sameStart : yX11_sameStart.cls ≠ "java/lang/invoke/MethodHandle" ∧ yX11_sameStart.cls ≠ "java/lang/invoke/VarHandle" ∧ (parseMethodDescriptor yX11_sameStart.desc).map (fun d => d.parameters.length) = some 3 := by decide +kernel
def V_X11_sameStart_2_B (G : Gx) (Q : Int32 → Mm → Prop) (k_2 : Nat → Nat → Int32 → Int32 → Mm → Prop) (x0 : Nat) (x1 : Nat) (x2 : Int32) (x3 : Int32) (u : Mm) : Prop :=
  ((x2 ≤ x3 → Q (1 : Int32) u) ∧ (¬ x2 ≤ x3 → kd G x0 = 13 ∧ vp_in x3 (ln G x0) ∧ kd G x1 = 13 ∧ vp_in x3 (ln G x1) ∧ (((gI u x0 x3.toNatClampNeg) = (gI u x1 x3.toNatClampNeg) → ∀ x3_18 : Int32, x3_18 = x3 + (1 : Int32) → k_2 x0 x1 x2 x3_18 u) ∧ (¬ (gI u x0 x3.toNatClampNeg) = (gI u x1 x3.toNatClampNeg) → Q (0 : Int32) u))))
def V_X11_sameStart_2 (G : Gx) (Q : Int32 → Mm → Prop) : Nat → (Nat → Nat → Int32 → Int32 → Mm → Prop)
  | 0 => fun _ _ _ _ _ => False
  | n + 1 => fun x0 x1 x2 x3 u => V_X11_sameStart_2_B G Q (V_X11_sameStart_2 G Q n) x0 x1 x2 x3 u
def V_X11_sameStart (G : Gx) (p0 : Nat) (p1 : Nat) (p2 : Int32) (u : Mm) (Q : Int32 → Mm → Prop) : Prop :=
  ∃ n : Nat, V_X11_sameStart_2 G Q n p0 p1 p2 (0 : Int32) u
set_option maxHeartbeats 4000000 in
set_option maxRecDepth 100000 in
theorem b_X11_sameStart_2 {G : Gx} {Q : Int32 → Mm → Prop} {p : Program} {l : Launch} {e : Env} {s : State} {m : MethodId} {args : Array Value} {below : List Frame} {meth : Method} {c : Code} (C : Cx G p s m c cX11_sameStart RX11 4) (hr : meth.sig.returnType = (some .boolean)) (hlk : meth.locks = false) {k_2 : Nat → Nat → Int32 → Int32 → Mm → Prop} (hk_2 : ∀ (x0 : Nat) (x1 : Nat) (x2 : Int32) (x3 : Int32) (u : Mm) (H : Heap) (locs : List Loc) (ls : Array Slot), k_2 x0 x1 x2 x3 u → lv_has ls 4 [(0, .ref x0), (1, .ref x1), (2, .int x2), (3, .int x3)] → Hp G u s H locs → W p l e rm_X11_sameStart s m args below meth c H locs 0 0 (MQ below (Ei G Q) args s 0 0 (ag G)) (F0 m 2 ls [])) {x0 : Nat} {x1 : Nat} {x2 : Int32} {x3 : Int32} {u : Mm} {H : Heap} {locs : List Loc} {ls : Array Slot} (h : V_X11_sameStart_2_B G Q k_2 x0 x1 x2 x3 u) (hl : lv_has ls 4 [(0, .ref x0), (1, .ref x1), (2, .int x2), (3, .int x3)]) (hP : Hp G u s H locs) : W p l e rm_X11_sameStart s m args below meth c H locs 0 0 (MQ below (Ei G Q) args s 0 0 (ag G)) (F0 m 2 ls []) := by
  have hx := C.1
  have hb := C.2.1
  unfold V_X11_sameStart_2_B at h
  refine lv_iload_n hx hb dX11_sameStart_2 rfl (lv_at hl 3 rfl) ?_
  refine lv_iload_n hx hb dX11_sameStart_3 rfl (lv_at hl 2 rfl) ?_
  refine lv_icmp_ge (tgt := 24) hx hb dX11_sameStart_4 (by decide) (fun c4 => ?_) (fun c4 => ?_)
  · have h := h.1 c4
    refine lv_iconst (v := (1 : Int32)) hx hb dX11_sameStart_24 (by decide) ?_
    exact q_zret C hr hlk hP (by decide) h (by decide) (by decide) dX11_sameStart_25
  · have h := h.2 c4
    refine lv_aload_n hx hb dX11_sameStart_7 rfl (lv_at hl 0 rfl) ?_
    refine lv_iload_n hx hb dX11_sameStart_8 rfl (lv_at hl 3 rfl) ?_
    obtain ⟨g1, h⟩ := h
    obtain ⟨g2, h⟩ := h
    refine q_iald C hP g1 g2 dX11_sameStart_9 ?_
    refine lv_aload_n hx hb dX11_sameStart_10 rfl (lv_at hl 1 rfl) ?_
    refine lv_iload_n hx hb dX11_sameStart_11 rfl (lv_at hl 3 rfl) ?_
    obtain ⟨g3, h⟩ := h
    obtain ⟨g4, h⟩ := h
    refine q_iald C hP g3 g4 dX11_sameStart_12 ?_
    refine lv_icmp_eq (tgt := 18) hx hb dX11_sameStart_13 (by decide) (fun c13 => ?_) (fun c13 => ?_)
    · have h := h.1 c13
      obtain ⟨x3_18, ex3_18⟩ : ∃ y : Int32, y = x3 + (1 : Int32) := ⟨_, rfl⟩
      have h := h x3_18 ex3_18
      refine lv_iinc (v := x3_18) (lv' := [(3, .int x3_18), (0, .ref x0), (1, .ref x1), (2, .int x2)]) hx hb dX11_sameStart_18 hl (k := 3) rfl (by rw [ex3_18]; rfl) (by decide) rfl (fun ls hl => ?_)
      refine lv_goto (tgt := 2) hx hb dX11_sameStart_21 (by decide) ?_
      exact hk_2 x0 x1 x2 x3_18 u _ _ _ h (lv_sub hl [1, 2, 3, 0] rfl) hP
    · have h := h.2 c13
      refine lv_iconst (v := (0 : Int32)) hx hb dX11_sameStart_16 (by decide) ?_
      exact q_zret C hr hlk hP (by decide) h (by decide) (by decide) dX11_sameStart_17
theorem l_X11_sameStart_2 {G : Gx} {Q : Int32 → Mm → Prop} {p : Program} {l : Launch} {e : Env} {s : State} {m : MethodId} {args : Array Value} {below : List Frame} {meth : Method} {c : Code} (C : Cx G p s m c cX11_sameStart RX11 4) (hr : meth.sig.returnType = (some .boolean)) (hlk : meth.locks = false) : ∀ (n : Nat) (x0 : Nat) (x1 : Nat) (x2 : Int32) (x3 : Int32) (u : Mm) (H : Heap) (locs : List Loc) (ls : Array Slot), V_X11_sameStart_2 G Q n x0 x1 x2 x3 u → lv_has ls 4 [(0, .ref x0), (1, .ref x1), (2, .int x2), (3, .int x3)] → Hp G u s H locs → W p l e rm_X11_sameStart s m args below meth c H locs 0 0 (MQ below (Ei G Q) args s 0 0 (ag G)) (F0 m 2 ls []) := by
  intro n
  induction n with
  | zero => intro x0 x1 x2 x3 u H locs ls h; exact h.elim
  | succ n ih => intro x0 x1 x2 x3 u H locs ls h hl hP; exact b_X11_sameStart_2 C hr hlk ih h hl hP
set_option maxHeartbeats 4000000 in
set_option maxRecDepth 100000 in
theorem c_X11_sameStart {l : Launch} {G : Gx} {p0 : Nat} {p1 : Nat} {p2 : Int32} {u : Mm} {Q : Int32 → Mm → Prop} (h : V_X11_sameStart G p0 p1 p2 u Q) : Met l yX11_sameStart [.code yX11_sameStart cX11_sameStart 4 (some .boolean)] rm_X11_sameStart (va_Pc [.ref p0, .ref p1, .int p2] (Wd G u)) (Ei G Q) 0 0 (ag G) := by
  refine q_met (by decide) (Nat.le_of_ble_eq_true rfl) ?_
  intro p e s m below meth c ls C hr hlk hnm hl hP
  have hl : lv_has ls 4 [(0, .ref p0), (1, .ref p1), (2, .int p2)] := hl
  generalize ([.ref p0, .ref p1, .int p2] : List Value).toArray = args
  have hx := C.1
  have hb := C.2.1
  unfold V_X11_sameStart at h
  refine lv_iconst (v := (0 : Int32)) hx hb dX11_sameStart_0 (by decide) ?_
  refine lv_istore_n (lv' := [(3, .int (0 : Int32)), (0, .ref p0), (1, .ref p1), (2, .int p2)]) hx hb dX11_sameStart_1 rfl hl (by decide) rfl (fun ls hl => ?_)
  obtain ⟨n, h⟩ := h
  exact l_X11_sameStart_2 C hr hlk n p0 p1 p2 (0 : Int32) u _ _ _ h (lv_sub hl [1, 2, 3, 0] rfl) hP
