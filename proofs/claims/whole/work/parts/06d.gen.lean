-- X12_isPlan
abbrev rm_X12_isPlan : Room := { frames := 1, cells := 0, slots := 0, locals := 22 }
theorem hd_X12_isPlan : yX12_isPlan.cls ≠ "java/lang/invoke/MethodHandle" ∧ yX12_isPlan.cls ≠ "java/lang/invoke/VarHandle" ∧ (parseMethodDescriptor yX12_isPlan.desc).map (fun d => d.parameters.length) = some 3 := by decide +kernel
def V_X12_isPlan_117 (G : Gx) (Q : Int32 → Mm → Prop) (k_3 : Nat → Int32 → Int32 → Int32 → Int32 → Mm → Prop) (x0 : Nat) (x1 : Int32) (x2 : Int32) (x3 : Int32) (x4 : Int32) (u : Mm) : Prop :=
  kd G x0 = 12 ∧ (gR u x0 39) ≠ 0 ∧ kd G (gR u x0 39) = 13 ∧ vp_in x4 (ln G (gR u x0 39)) ∧ V_X12_isWritten G x0 (gI u (gR u x0 39) x4.toNatClampNeg) u (fun (v_125 : Int32) (u_125 : Mm) => ((v_125 = 0 → Q (0 : Int32) u_125) ∧ (¬ v_125 = 0 → ∀ x4_133 : Int32, x4_133 = x4 + (1 : Int32) → k_3 x0 x1 x2 x3 x4_133 u_125)))
def V_X12_isPlan_86 (G : Gx) (Q : Int32 → Mm → Prop) (k_3 : Nat → Int32 → Int32 → Int32 → Int32 → Mm → Prop) (x0 : Nat) (x1 : Int32) (x2 : Int32) (x3 : Int32) (x4 : Int32) (x5 : Int32) (u : Mm) : Prop :=
  ((x3 = (-1 : Int32) → V_X12_isPlan_117 G Q k_3 x0 x1 x2 x3 x4 u) ∧ (¬ x3 = (-1 : Int32) → kd G x0 = 12 ∧ (gR u x0 38) ≠ 0 ∧ kd G (gR u x0 38) = 13 ∧ vp_in (x5 + x3) (ln G (gR u x0 38)) ∧ (((gI u (gR u x0 38) (x5 + x3).toNatClampNeg) = (-1 : Int32) → V_X12_isPlan_117 G Q k_3 x0 x1 x2 x3 x4 u) ∧ (¬ (gI u (gR u x0 38) (x5 + x3).toNatClampNeg) = (-1 : Int32) → V_X12_lay G x0 (gI u (gR u x0 38) (x5 + x3).toNatClampNeg) u (fun (u_114 : Mm) => V_X12_isPlan_117 G Q k_3 x0 x1 x2 x3 x4 u_114)))))
def V_X12_isPlan_55 (G : Gx) (Q : Int32 → Mm → Prop) (k_3 : Nat → Int32 → Int32 → Int32 → Int32 → Mm → Prop) (x0 : Nat) (x1 : Int32) (x2 : Int32) (x3 : Int32) (x4 : Int32) (x5 : Int32) (u : Mm) : Prop :=
  ((x2 = (-1 : Int32) → V_X12_isPlan_86 G Q k_3 x0 x1 x2 x3 x4 x5 u) ∧ (¬ x2 = (-1 : Int32) → kd G x0 = 12 ∧ (gR u x0 38) ≠ 0 ∧ kd G (gR u x0 38) = 13 ∧ vp_in (x5 + x2) (ln G (gR u x0 38)) ∧ (((gI u (gR u x0 38) (x5 + x2).toNatClampNeg) = (-1 : Int32) → V_X12_isPlan_86 G Q k_3 x0 x1 x2 x3 x4 x5 u) ∧ (¬ (gI u (gR u x0 38) (x5 + x2).toNatClampNeg) = (-1 : Int32) → V_X12_lay G x0 (gI u (gR u x0 38) (x5 + x2).toNatClampNeg) u (fun (u_83 : Mm) => V_X12_isPlan_86 G Q k_3 x0 x1 x2 x3 x4 x5 u_83)))))
def V_X12_isPlan_3_B (G : Gx) (Q : Int32 → Mm → Prop) (k_3 : Nat → Int32 → Int32 → Int32 → Int32 → Mm → Prop) (x0 : Nat) (x1 : Int32) (x2 : Int32) (x3 : Int32) (x4 : Int32) (u : Mm) : Prop :=
  kd G x0 = 12 ∧ (((gI u x0 41) ≤ x4 → Q (1 : Int32) u) ∧ (¬ (gI u x0 41) ≤ x4 → ∀ x5_17 : Int32, x5_17 = ((82 : Int32) * x4) → ∀ u_21 : Mm, u_21 = sI u x0 26 (0 : Int32) → ((x1 = (-1 : Int32) → V_X12_isPlan_55 G Q k_3 x0 x1 x2 x3 x4 x5_17 u_21) ∧ (¬ x1 = (-1 : Int32) → (gR u_21 x0 38) ≠ 0 ∧ kd G (gR u_21 x0 38) = 13 ∧ vp_in (x5_17 + x1) (ln G (gR u_21 x0 38)) ∧ (((gI u_21 (gR u_21 x0 38) (x5_17 + x1).toNatClampNeg) = (-1 : Int32) → V_X12_isPlan_55 G Q k_3 x0 x1 x2 x3 x4 x5_17 u_21) ∧ (¬ (gI u_21 (gR u_21 x0 38) (x5_17 + x1).toNatClampNeg) = (-1 : Int32) → V_X12_lay G x0 (gI u_21 (gR u_21 x0 38) (x5_17 + x1).toNatClampNeg) u_21 (fun (u_52 : Mm) => V_X12_isPlan_55 G Q k_3 x0 x1 x2 x3 x4 x5_17 u_52)))))))
def V_X12_isPlan_3 (G : Gx) (Q : Int32 → Mm → Prop) : Nat → (Nat → Int32 → Int32 → Int32 → Int32 → Mm → Prop)
  | 0 => fun _ _ _ _ _ _ => False
  | n + 1 => fun x0 x1 x2 x3 x4 u => V_X12_isPlan_3_B G Q (V_X12_isPlan_3 G Q n) x0 x1 x2 x3 x4 u
def V_X12_isPlan (G : Gx) (p0 : Nat) (p1 : Int32) (p2 : Int32) (p3 : Int32) (u : Mm) (Q : Int32 → Mm → Prop) : Prop :=
  ∃ n : Nat, V_X12_isPlan_3 G Q n p0 p1 p2 p3 (0 : Int32) u
set_option maxHeartbeats 4000000 in
set_option maxRecDepth 100000 in
theorem b_X12_isPlan_117 {G : Gx} {Q : Int32 → Mm → Prop} {p : Program} {l : Launch} {e : Env} {s : State} {m : MethodId} {args : Array Value} {below : List Frame} {meth : Method} {c : Code} (C : Cx G p s m c cX12_isPlan RX12 6) (hr : meth.sig.returnType = (some .boolean)) (hlk : meth.locks = false) {k_3 : Nat → Int32 → Int32 → Int32 → Int32 → Mm → Prop} (hk_3 : ∀ (x0 : Nat) (x1 : Int32) (x2 : Int32) (x3 : Int32) (x4 : Int32) (u : Mm) (H : Heap) (locs : List Loc) (ls : Array Slot), k_3 x0 x1 x2 x3 x4 u → lv_has ls 6 [(0, .ref x0), (1, .int x1), (2, .int x2), (3, .int x3), (4, .int x4)] → Hp G u s H locs → W p l e rm_X12_isPlan s m args below meth c H locs 0 0 (MQ below (Ei G Q) args s 0 0 (ag G)) (F0 m 3 ls [])) {x0 : Nat} {x1 : Int32} {x2 : Int32} {x3 : Int32} {x4 : Int32} {u : Mm} {H : Heap} {locs : List Loc} {ls : Array Slot} (h : V_X12_isPlan_117 G Q k_3 x0 x1 x2 x3 x4 u) (hl : lv_has ls 6 [(0, .ref x0), (1, .int x1), (2, .int x2), (3, .int x3), (4, .int x4)]) (hP : Hp G u s H locs) : W p l e rm_X12_isPlan s m args below meth c H locs 0 0 (MQ below (Ei G Q) args s 0 0 (ag G)) (F0 m 117 ls []) := by
  have hx := C.1
  have hb := C.2.1
  unfold V_X12_isPlan_117 at h
  refine lv_aload_n hx hb dX12_isPlan_117 rfl (lv_at hl 0 rfl) ?_
  refine lv_aload_n hx hb dX12_isPlan_118 rfl (lv_at hl 0 rfl) ?_
  obtain ⟨g1, h⟩ := h
  obtain ⟨g2, h⟩ := h
  refine q_getR C hP (k := 39) (lay_X12 C.hA) rfl (by decide) g1 g2 (fl_X12_100 C.hA) dX12_isPlan_119 ?_
  refine lv_iload hx hb dX12_isPlan_122 (lv_at hl 4 rfl) ?_
  obtain ⟨g3, h⟩ := h
  obtain ⟨g4, h⟩ := h
  refine q_iald C hP g3 g4 dX12_isPlan_124 ?_
  refine q_cali (q_runV C hP (c_X12_isWritten h) (cd_X12_isWritten C.hA) (ini_X12 C.hA) (ml_X12_345 C.hA) (im_X12_isWritten C.hA) (sl_X12_isWritten C.hA) g1 (by decide) rfl hd_X12_isWritten ⟨rfl, rfl⟩ ⟨Nat.le_of_ble_eq_true rfl, Nat.le_of_ble_eq_true rfl⟩ ⟨Nat.le_of_ble_eq_true rfl, Nat.le_of_ble_eq_true rfl⟩ hl.1 rfl (Nat.le_of_ble_eq_true rfl) dX12_isPlan_125) hP (fun v_125 u_125 H locs h hP => ?_)
  refine lv_if_ne (tgt := 133) hx hb dX12_isPlan_128 (by decide) (fun c128 => ?_) (fun c128 => ?_)
  · have h := h.2 c128
    obtain ⟨x4_133, ex4_133⟩ : ∃ y : Int32, y = x4 + (1 : Int32) := ⟨_, rfl⟩
    have h := h x4_133 ex4_133
    refine lv_iinc (v := x4_133) (lv' := [(4, .int x4_133), (0, .ref x0), (1, .int x1), (2, .int x2), (3, .int x3)]) hx hb dX12_isPlan_133 hl (k := 4) rfl (by rw [ex4_133]; rfl) (by decide) rfl (fun ls hl => ?_)
    refine lv_goto (tgt := 3) hx hb dX12_isPlan_136 (by decide) ?_
    exact hk_3 x0 x1 x2 x3 x4_133 u_125 _ _ _ h (lv_sub hl [1, 2, 3, 4, 0] rfl) hP
  · have h := h.1 c128
    refine lv_iconst (v := (0 : Int32)) hx hb dX12_isPlan_131 (by decide) ?_
    exact q_zret C hr hlk hP (by decide) h (by decide) (by decide) dX12_isPlan_132
set_option maxHeartbeats 4000000 in
set_option maxRecDepth 100000 in
theorem b_X12_isPlan_86 {G : Gx} {Q : Int32 → Mm → Prop} {p : Program} {l : Launch} {e : Env} {s : State} {m : MethodId} {args : Array Value} {below : List Frame} {meth : Method} {c : Code} (C : Cx G p s m c cX12_isPlan RX12 6) (hr : meth.sig.returnType = (some .boolean)) (hlk : meth.locks = false) {k_3 : Nat → Int32 → Int32 → Int32 → Int32 → Mm → Prop} (hk_3 : ∀ (x0 : Nat) (x1 : Int32) (x2 : Int32) (x3 : Int32) (x4 : Int32) (u : Mm) (H : Heap) (locs : List Loc) (ls : Array Slot), k_3 x0 x1 x2 x3 x4 u → lv_has ls 6 [(0, .ref x0), (1, .int x1), (2, .int x2), (3, .int x3), (4, .int x4)] → Hp G u s H locs → W p l e rm_X12_isPlan s m args below meth c H locs 0 0 (MQ below (Ei G Q) args s 0 0 (ag G)) (F0 m 3 ls [])) {x0 : Nat} {x1 : Int32} {x2 : Int32} {x3 : Int32} {x4 : Int32} {x5 : Int32} {u : Mm} {H : Heap} {locs : List Loc} {ls : Array Slot} (h : V_X12_isPlan_86 G Q k_3 x0 x1 x2 x3 x4 x5 u) (hl : lv_has ls 6 [(0, .ref x0), (1, .int x1), (2, .int x2), (3, .int x3), (4, .int x4), (5, .int x5)]) (hP : Hp G u s H locs) : W p l e rm_X12_isPlan s m args below meth c H locs 0 0 (MQ below (Ei G Q) args s 0 0 (ag G)) (F0 m 86 ls []) := by
  have hx := C.1
  have hb := C.2.1
  unfold V_X12_isPlan_86 at h
  refine lv_iload_n hx hb dX12_isPlan_86 rfl (lv_at hl 3 rfl) ?_
  refine lv_iconst (v := (-1 : Int32)) hx hb dX12_isPlan_87 (by decide) ?_
  refine lv_icmp_eq (tgt := 117) hx hb dX12_isPlan_88 (by decide) (fun c88 => ?_) (fun c88 => ?_)
  · have h := h.1 c88
    exact b_X12_isPlan_117 C hr hlk hk_3 h (lv_sub hl [0, 1, 2, 3, 4] rfl) hP
  · have h := h.2 c88
    refine lv_aload_n hx hb dX12_isPlan_91 rfl (lv_at hl 0 rfl) ?_
    obtain ⟨g1, h⟩ := h
    obtain ⟨g2, h⟩ := h
    refine q_getR C hP (k := 38) (lay_X12 C.hA) rfl (by decide) g1 g2 (fl_X12_97 C.hA) dX12_isPlan_92 ?_
    refine lv_iload hx hb dX12_isPlan_95 (lv_at hl 5 rfl) ?_
    refine lv_iload_n hx hb dX12_isPlan_97 rfl (lv_at hl 3 rfl) ?_
    refine lv_iadd hx hb dX12_isPlan_98 ?_
    obtain ⟨g3, h⟩ := h
    obtain ⟨g4, h⟩ := h
    refine q_iald C hP g3 g4 dX12_isPlan_99 ?_
    refine lv_iconst (v := (-1 : Int32)) hx hb dX12_isPlan_100 (by decide) ?_
    refine lv_icmp_eq (tgt := 117) hx hb dX12_isPlan_101 (by decide) (fun c101 => ?_) (fun c101 => ?_)
    · have h := h.1 c101
      exact b_X12_isPlan_117 C hr hlk hk_3 h (lv_sub hl [0, 1, 2, 3, 4] rfl) hP
    · have h := h.2 c101
      refine lv_aload_n hx hb dX12_isPlan_104 rfl (lv_at hl 0 rfl) ?_
      refine lv_aload_n hx hb dX12_isPlan_105 rfl (lv_at hl 0 rfl) ?_
      refine q_getR C hP (k := 38) (lay_X12 C.hA) rfl (by decide) g1 g2 (fl_X12_97 C.hA) dX12_isPlan_106 ?_
      refine lv_iload hx hb dX12_isPlan_109 (lv_at hl 5 rfl) ?_
      refine lv_iload_n hx hb dX12_isPlan_111 rfl (lv_at hl 3 rfl) ?_
      refine lv_iadd hx hb dX12_isPlan_112 ?_
      refine q_iald C hP g3 g4 dX12_isPlan_113 ?_
      refine q_calv (q_runV C hP (c_X12_lay h) (cd_X12_lay C.hA) (ini_X12 C.hA) (ml_X12_327 C.hA) (im_X12_lay C.hA) (sl_X12_lay C.hA) g1 (by decide) rfl hd_X12_lay ⟨rfl, rfl⟩ ⟨Nat.le_of_ble_eq_true rfl, Nat.le_of_ble_eq_true rfl⟩ ⟨Nat.le_of_ble_eq_true rfl, Nat.le_of_ble_eq_true rfl⟩ hl.1 rfl (Nat.le_of_ble_eq_true rfl) dX12_isPlan_114) hP (fun u_114 H locs h hP => ?_)
      exact b_X12_isPlan_117 C hr hlk hk_3 h (lv_sub hl [0, 1, 2, 3, 4] rfl) hP
set_option maxHeartbeats 4000000 in
set_option maxRecDepth 100000 in
theorem b_X12_isPlan_55 {G : Gx} {Q : Int32 → Mm → Prop} {p : Program} {l : Launch} {e : Env} {s : State} {m : MethodId} {args : Array Value} {below : List Frame} {meth : Method} {c : Code} (C : Cx G p s m c cX12_isPlan RX12 6) (hr : meth.sig.returnType = (some .boolean)) (hlk : meth.locks = false) {k_3 : Nat → Int32 → Int32 → Int32 → Int32 → Mm → Prop} (hk_3 : ∀ (x0 : Nat) (x1 : Int32) (x2 : Int32) (x3 : Int32) (x4 : Int32) (u : Mm) (H : Heap) (locs : List Loc) (ls : Array Slot), k_3 x0 x1 x2 x3 x4 u → lv_has ls 6 [(0, .ref x0), (1, .int x1), (2, .int x2), (3, .int x3), (4, .int x4)] → Hp G u s H locs → W p l e rm_X12_isPlan s m args below meth c H locs 0 0 (MQ below (Ei G Q) args s 0 0 (ag G)) (F0 m 3 ls [])) {x0 : Nat} {x1 : Int32} {x2 : Int32} {x3 : Int32} {x4 : Int32} {x5 : Int32} {u : Mm} {H : Heap} {locs : List Loc} {ls : Array Slot} (h : V_X12_isPlan_55 G Q k_3 x0 x1 x2 x3 x4 x5 u) (hl : lv_has ls 6 [(0, .ref x0), (1, .int x1), (2, .int x2), (3, .int x3), (4, .int x4), (5, .int x5)]) (hP : Hp G u s H locs) : W p l e rm_X12_isPlan s m args below meth c H locs 0 0 (MQ below (Ei G Q) args s 0 0 (ag G)) (F0 m 55 ls []) := by
  have hx := C.1
  have hb := C.2.1
  unfold V_X12_isPlan_55 at h
  refine lv_iload_n hx hb dX12_isPlan_55 rfl (lv_at hl 2 rfl) ?_
  refine lv_iconst (v := (-1 : Int32)) hx hb dX12_isPlan_56 (by decide) ?_
  refine lv_icmp_eq (tgt := 86) hx hb dX12_isPlan_57 (by decide) (fun c57 => ?_) (fun c57 => ?_)
  · have h := h.1 c57
    exact b_X12_isPlan_86 C hr hlk hk_3 h (lv_sub hl [0, 1, 2, 3, 4, 5] rfl) hP
  · have h := h.2 c57
    refine lv_aload_n hx hb dX12_isPlan_60 rfl (lv_at hl 0 rfl) ?_
    obtain ⟨g1, h⟩ := h
    obtain ⟨g2, h⟩ := h
    refine q_getR C hP (k := 38) (lay_X12 C.hA) rfl (by decide) g1 g2 (fl_X12_97 C.hA) dX12_isPlan_61 ?_
    refine lv_iload hx hb dX12_isPlan_64 (lv_at hl 5 rfl) ?_
    refine lv_iload_n hx hb dX12_isPlan_66 rfl (lv_at hl 2 rfl) ?_
    refine lv_iadd hx hb dX12_isPlan_67 ?_
    obtain ⟨g3, h⟩ := h
    obtain ⟨g4, h⟩ := h
    refine q_iald C hP g3 g4 dX12_isPlan_68 ?_
    refine lv_iconst (v := (-1 : Int32)) hx hb dX12_isPlan_69 (by decide) ?_
    refine lv_icmp_eq (tgt := 86) hx hb dX12_isPlan_70 (by decide) (fun c70 => ?_) (fun c70 => ?_)
    · have h := h.1 c70
      exact b_X12_isPlan_86 C hr hlk hk_3 h (lv_sub hl [0, 1, 2, 3, 4, 5] rfl) hP
    · have h := h.2 c70
      refine lv_aload_n hx hb dX12_isPlan_73 rfl (lv_at hl 0 rfl) ?_
      refine lv_aload_n hx hb dX12_isPlan_74 rfl (lv_at hl 0 rfl) ?_
      refine q_getR C hP (k := 38) (lay_X12 C.hA) rfl (by decide) g1 g2 (fl_X12_97 C.hA) dX12_isPlan_75 ?_
      refine lv_iload hx hb dX12_isPlan_78 (lv_at hl 5 rfl) ?_
      refine lv_iload_n hx hb dX12_isPlan_80 rfl (lv_at hl 2 rfl) ?_
      refine lv_iadd hx hb dX12_isPlan_81 ?_
      refine q_iald C hP g3 g4 dX12_isPlan_82 ?_
      refine q_calv (q_runV C hP (c_X12_lay h) (cd_X12_lay C.hA) (ini_X12 C.hA) (ml_X12_327 C.hA) (im_X12_lay C.hA) (sl_X12_lay C.hA) g1 (by decide) rfl hd_X12_lay ⟨rfl, rfl⟩ ⟨Nat.le_of_ble_eq_true rfl, Nat.le_of_ble_eq_true rfl⟩ ⟨Nat.le_of_ble_eq_true rfl, Nat.le_of_ble_eq_true rfl⟩ hl.1 rfl (Nat.le_of_ble_eq_true rfl) dX12_isPlan_83) hP (fun u_83 H locs h hP => ?_)
      exact b_X12_isPlan_86 C hr hlk hk_3 h (lv_sub hl [0, 1, 2, 3, 4, 5] rfl) hP
set_option maxHeartbeats 4000000 in
set_option maxRecDepth 100000 in
theorem b_X12_isPlan_3 {G : Gx} {Q : Int32 → Mm → Prop} {p : Program} {l : Launch} {e : Env} {s : State} {m : MethodId} {args : Array Value} {below : List Frame} {meth : Method} {c : Code} (C : Cx G p s m c cX12_isPlan RX12 6) (hr : meth.sig.returnType = (some .boolean)) (hlk : meth.locks = false) {k_3 : Nat → Int32 → Int32 → Int32 → Int32 → Mm → Prop} (hk_3 : ∀ (x0 : Nat) (x1 : Int32) (x2 : Int32) (x3 : Int32) (x4 : Int32) (u : Mm) (H : Heap) (locs : List Loc) (ls : Array Slot), k_3 x0 x1 x2 x3 x4 u → lv_has ls 6 [(0, .ref x0), (1, .int x1), (2, .int x2), (3, .int x3), (4, .int x4)] → Hp G u s H locs → W p l e rm_X12_isPlan s m args below meth c H locs 0 0 (MQ below (Ei G Q) args s 0 0 (ag G)) (F0 m 3 ls [])) {x0 : Nat} {x1 : Int32} {x2 : Int32} {x3 : Int32} {x4 : Int32} {u : Mm} {H : Heap} {locs : List Loc} {ls : Array Slot} (h : V_X12_isPlan_3_B G Q k_3 x0 x1 x2 x3 x4 u) (hl : lv_has ls 6 [(0, .ref x0), (1, .int x1), (2, .int x2), (3, .int x3), (4, .int x4)]) (hP : Hp G u s H locs) : W p l e rm_X12_isPlan s m args below meth c H locs 0 0 (MQ below (Ei G Q) args s 0 0 (ag G)) (F0 m 3 ls []) := by
  have hx := C.1
  have hb := C.2.1
  unfold V_X12_isPlan_3_B at h
  refine lv_iload hx hb dX12_isPlan_3 (lv_at hl 4 rfl) ?_
  refine lv_aload_n hx hb dX12_isPlan_5 rfl (lv_at hl 0 rfl) ?_
  obtain ⟨g1, h⟩ := h
  refine q_getI C hP (k := 41) (lay_X12 C.hA) rfl (by decide) g1 (fl_X12_360 C.hA) dX12_isPlan_6 ?_
  refine lv_icmp_ge (tgt := 139) hx hb dX12_isPlan_9 (by decide) (fun c9 => ?_) (fun c9 => ?_)
  · have h := h.1 c9
    refine lv_iconst (v := (1 : Int32)) hx hb dX12_isPlan_139 (by decide) ?_
    exact q_zret C hr hlk hP (by decide) h (by decide) (by decide) dX12_isPlan_140
  · have h := h.2 c9
    refine lv_bipush (v := (82 : Int32)) hx hb dX12_isPlan_12 (by decide) ?_
    refine lv_iload hx hb dX12_isPlan_14 (lv_at hl 4 rfl) ?_
    refine lv_imul hx hb dX12_isPlan_16 ?_
    refine lv_topi (fun x5_17 ex5_17 => ?_)
    have h := h x5_17 ex5_17
    refine lv_istore (lv' := [(5, .int x5_17), (0, .ref x0), (1, .int x1), (2, .int x2), (3, .int x3), (4, .int x4)]) hx hb dX12_isPlan_17 hl (by decide) rfl (fun ls hl => ?_)
    refine lv_aload_n hx hb dX12_isPlan_19 rfl (lv_at hl 1 rfl) ?_
    refine lv_iconst (v := (0 : Int32)) hx hb dX12_isPlan_20 (by decide) ?_
    refine q_putI C hP (k := 26) tyX12_ok nmX12 (lay_X12 C.hA) rfl (by decide) rfl rfl rfl rfl g1 (fl_X12_313 C.hA) dX12_isPlan_21 (fun H locs hP => ?_)
    obtain ⟨u_21, eu_21, hP⟩ := Hp.nm hP
    have h := h u_21 eu_21
    refine lv_iload_n hx hb dX12_isPlan_24 rfl (lv_at hl 2 rfl) ?_
    refine lv_iconst (v := (-1 : Int32)) hx hb dX12_isPlan_25 (by decide) ?_
    refine lv_icmp_eq (tgt := 55) hx hb dX12_isPlan_26 (by decide) (fun c26 => ?_) (fun c26 => ?_)
    · have h := h.1 c26
      exact b_X12_isPlan_55 C hr hlk hk_3 h (lv_sub hl [1, 2, 3, 4, 5, 0] rfl) hP
    · have h := h.2 c26
      refine lv_aload_n hx hb dX12_isPlan_29 rfl (lv_at hl 1 rfl) ?_
      obtain ⟨g2, h⟩ := h
      refine q_getR C hP (k := 38) (lay_X12 C.hA) rfl (by decide) g1 g2 (fl_X12_97 C.hA) dX12_isPlan_30 ?_
      refine lv_iload hx hb dX12_isPlan_33 (lv_at hl 0 rfl) ?_
      refine lv_iload_n hx hb dX12_isPlan_35 rfl (lv_at hl 2 rfl) ?_
      refine lv_iadd hx hb dX12_isPlan_36 ?_
      obtain ⟨g3, h⟩ := h
      obtain ⟨g4, h⟩ := h
      refine q_iald C hP g3 g4 dX12_isPlan_37 ?_
      refine lv_iconst (v := (-1 : Int32)) hx hb dX12_isPlan_38 (by decide) ?_
      refine lv_icmp_eq (tgt := 55) hx hb dX12_isPlan_39 (by decide) (fun c39 => ?_) (fun c39 => ?_)
      · have h := h.1 c39
        exact b_X12_isPlan_55 C hr hlk hk_3 h (lv_sub hl [1, 2, 3, 4, 5, 0] rfl) hP
      · have h := h.2 c39
        refine lv_aload_n hx hb dX12_isPlan_42 rfl (lv_at hl 1 rfl) ?_
        refine lv_aload_n hx hb dX12_isPlan_43 rfl (lv_at hl 1 rfl) ?_
        refine q_getR C hP (k := 38) (lay_X12 C.hA) rfl (by decide) g1 g2 (fl_X12_97 C.hA) dX12_isPlan_44 ?_
        refine lv_iload hx hb dX12_isPlan_47 (lv_at hl 0 rfl) ?_
        refine lv_iload_n hx hb dX12_isPlan_49 rfl (lv_at hl 2 rfl) ?_
        refine lv_iadd hx hb dX12_isPlan_50 ?_
        refine q_iald C hP g3 g4 dX12_isPlan_51 ?_
        refine q_calv (q_runV C hP (c_X12_lay h) (cd_X12_lay C.hA) (ini_X12 C.hA) (ml_X12_327 C.hA) (im_X12_lay C.hA) (sl_X12_lay C.hA) g1 (by decide) rfl hd_X12_lay ⟨rfl, rfl⟩ ⟨Nat.le_of_ble_eq_true rfl, Nat.le_of_ble_eq_true rfl⟩ ⟨Nat.le_of_ble_eq_true rfl, Nat.le_of_ble_eq_true rfl⟩ hl.1 rfl (Nat.le_of_ble_eq_true rfl) dX12_isPlan_52) hP (fun u_52 H locs h hP => ?_)
        exact b_X12_isPlan_55 C hr hlk hk_3 h (lv_sub hl [1, 2, 3, 4, 5, 0] rfl) hP
theorem l_X12_isPlan_3 {G : Gx} {Q : Int32 → Mm → Prop} {p : Program} {l : Launch} {e : Env} {s : State} {m : MethodId} {args : Array Value} {below : List Frame} {meth : Method} {c : Code} (C : Cx G p s m c cX12_isPlan RX12 6) (hr : meth.sig.returnType = (some .boolean)) (hlk : meth.locks = false) : ∀ (n : Nat) (x0 : Nat) (x1 : Int32) (x2 : Int32) (x3 : Int32) (x4 : Int32) (u : Mm) (H : Heap) (locs : List Loc) (ls : Array Slot), V_X12_isPlan_3 G Q n x0 x1 x2 x3 x4 u → lv_has ls 6 [(0, .ref x0), (1, .int x1), (2, .int x2), (3, .int x3), (4, .int x4)] → Hp G u s H locs → W p l e rm_X12_isPlan s m args below meth c H locs 0 0 (MQ below (Ei G Q) args s 0 0 (ag G)) (F0 m 3 ls []) := by
  intro n
  induction n with
  | zero => intro x0 x1 x2 x3 x4 u H locs ls h; exact h.elim
  | succ n ih => intro x0 x1 x2 x3 x4 u H locs ls h hl hP; exact b_X12_isPlan_3 C hr hlk ih h hl hP
set_option maxHeartbeats 4000000 in
set_option maxRecDepth 100000 in
theorem c_X12_isPlan {l : Launch} {G : Gx} {p0 : Nat} {p1 : Int32} {p2 : Int32} {p3 : Int32} {u : Mm} {Q : Int32 → Mm → Prop} (h : V_X12_isPlan G p0 p1 p2 p3 u Q) : Met l yX12_isPlan [.code yX12_isPlan cX12_isPlan 6 (some .boolean)] rm_X12_isPlan (va_Pc [.ref p0, .int p1, .int p2, .int p3] (Wd G u)) (Ei G Q) 0 0 (ag G) := by
  refine q_met (by decide) (Nat.le_of_ble_eq_true rfl) ?_
  intro p e s m below meth c ls C hr hlk hnm hl hP
  have hl : lv_has ls 6 [(0, .ref p0), (1, .int p1), (2, .int p2), (3, .int p3)] := hl
  generalize ([.ref p0, .int p1, .int p2, .int p3] : List Value).toArray = args
  have hx := C.1
  have hb := C.2.1
  unfold V_X12_isPlan at h
  refine lv_iconst (v := (0 : Int32)) hx hb dX12_isPlan_0 (by decide) ?_
  refine lv_istore (lv' := [(4, .int (0 : Int32)), (0, .ref p0), (1, .int p1), (2, .int p2), (3, .int p3)]) hx hb dX12_isPlan_1 hl (by decide) rfl (fun ls hl => ?_)
  obtain ⟨n, h⟩ := h
  exact l_X12_isPlan_3 C hr hlk n p0 p1 p2 p3 (0 : Int32) u _ _ _ h (lv_sub hl [1, 2, 3, 4, 0] rfl) hP
-- X12_tryPlan
abbrev rm_X12_tryPlan : Room := { frames := 2, cells := 0, slots := 0, locals := 47 }
theorem hd_X12_tryPlan : yX12_tryPlan.cls ≠ "java/lang/invoke/MethodHandle" ∧ yX12_tryPlan.cls ≠ "java/lang/invoke/VarHandle" ∧ (parseMethodDescriptor yX12_tryPlan.desc).map (fun d => d.parameters.length) = some 3 := by decide +kernel
def V_X12_tryPlan (G : Gx) (p0 : Nat) (p1 : Int32) (p2 : Int32) (p3 : Int32) (u : Mm) (Q : Mm → Prop) : Prop :=
  kd G p0 = 12 ∧ V_X12_isPlan G p0 p1 p2 p3 u (fun (v_4 : Int32) (u_4 : Mm) => ((v_4 = 0 → Q u_4) ∧ (¬ v_4 = 0 → (gR u_4 p0 40) ≠ 0 ∧ kd G (gR u_4 p0 40) = 13 ∧ vp_in (gI u_4 p0 42) (ln G (gR u_4 p0 40)) ∧ ∀ u_37 : Mm, u_37 = sI u_4 (gR u_4 p0 40) (gI u_4 p0 42).toNatClampNeg (((((6889 : Int32) * (p1 + (1 : Int32))) + ((83 : Int32) * (p2 + (1 : Int32)))) + p3) + (1 : Int32)) → ∀ u_45 : Mm, u_45 = sI u_37 p0 42 ((gI u_37 p0 42) + (1 : Int32)) → Q u_45)))
set_option maxHeartbeats 4000000 in
set_option maxRecDepth 100000 in
theorem c_X12_tryPlan {l : Launch} {G : Gx} {p0 : Nat} {p1 : Int32} {p2 : Int32} {p3 : Int32} {u : Mm} {Q : Mm → Prop} (h : V_X12_tryPlan G p0 p1 p2 p3 u Q) : Met l yX12_tryPlan [.code yX12_tryPlan cX12_tryPlan 4 none] rm_X12_tryPlan (va_Pc [.ref p0, .int p1, .int p2, .int p3] (Wd G u)) (Ev G Q) 0 0 (ag G) := by
  refine q_met (by decide) (Nat.le_of_ble_eq_true rfl) ?_
  intro p e s m below meth c ls C hr hlk hnm hl hP
  have hl : lv_has ls 4 [(0, .ref p0), (1, .int p1), (2, .int p2), (3, .int p3)] := hl
  generalize ([.ref p0, .int p1, .int p2, .int p3] : List Value).toArray = args
  have hx := C.1
  have hb := C.2.1
  unfold V_X12_tryPlan at h
  refine lv_aload_n hx hb dX12_tryPlan_0 rfl (lv_at hl 0 rfl) ?_
  refine lv_iload_n hx hb dX12_tryPlan_1 rfl (lv_at hl 1 rfl) ?_
  refine lv_iload_n hx hb dX12_tryPlan_2 rfl (lv_at hl 2 rfl) ?_
  refine lv_iload_n hx hb dX12_tryPlan_3 rfl (lv_at hl 3 rfl) ?_
  obtain ⟨g1, h⟩ := h
  refine q_cali (q_runV C hP (c_X12_isPlan h) (cd_X12_isPlan C.hA) (ini_X12 C.hA) (ml_X12_363 C.hA) (im_X12_isPlan C.hA) (sl_X12_isPlan C.hA) g1 (by decide) rfl hd_X12_isPlan ⟨rfl, rfl⟩ ⟨Nat.le_of_ble_eq_true rfl, Nat.le_of_ble_eq_true rfl⟩ ⟨Nat.le_of_ble_eq_true rfl, Nat.le_of_ble_eq_true rfl⟩ hl.1 rfl (Nat.le_of_ble_eq_true rfl) dX12_tryPlan_4) hP (fun v_4 u_4 H locs h hP => ?_)
  refine lv_if_ne (tgt := 11) hx hb dX12_tryPlan_7 (by decide) (fun c7 => ?_) (fun c7 => ?_)
  · have h := h.2 c7
    refine lv_aload_n hx hb dX12_tryPlan_11 rfl (lv_at hl 0 rfl) ?_
    obtain ⟨g2, h⟩ := h
    refine q_getR C hP (k := 40) (lay_X12 C.hA) rfl (by decide) g1 g2 (fl_X12_104 C.hA) dX12_tryPlan_12 ?_
    refine lv_aload_n hx hb dX12_tryPlan_15 rfl (lv_at hl 0 rfl) ?_
    refine q_getI C hP (k := 42) (lay_X12 C.hA) rfl (by decide) g1 (fl_X12_366 C.hA) dX12_tryPlan_16 ?_
    refine lv_sipush (v := (6889 : Int32)) hx hb dX12_tryPlan_19 (by decide) ?_
    refine lv_iload_n hx hb dX12_tryPlan_22 rfl (lv_at hl 1 rfl) ?_
    refine lv_iconst (v := (1 : Int32)) hx hb dX12_tryPlan_23 (by decide) ?_
    refine lv_iadd hx hb dX12_tryPlan_24 ?_
    refine lv_imul hx hb dX12_tryPlan_25 ?_
    refine lv_bipush (v := (83 : Int32)) hx hb dX12_tryPlan_26 (by decide) ?_
    refine lv_iload_n hx hb dX12_tryPlan_28 rfl (lv_at hl 2 rfl) ?_
    refine lv_iconst (v := (1 : Int32)) hx hb dX12_tryPlan_29 (by decide) ?_
    refine lv_iadd hx hb dX12_tryPlan_30 ?_
    refine lv_imul hx hb dX12_tryPlan_31 ?_
    refine lv_iadd hx hb dX12_tryPlan_32 ?_
    refine lv_iload_n hx hb dX12_tryPlan_33 rfl (lv_at hl 3 rfl) ?_
    refine lv_iadd hx hb dX12_tryPlan_34 ?_
    refine lv_iconst (v := (1 : Int32)) hx hb dX12_tryPlan_35 (by decide) ?_
    refine lv_iadd hx hb dX12_tryPlan_36 ?_
    obtain ⟨g3, h⟩ := h
    obtain ⟨g4, h⟩ := h
    refine q_iast C hP g3 g4 dX12_tryPlan_37 (fun H locs hP => ?_)
    obtain ⟨u_37, eu_37, hP⟩ := Hp.nm hP
    have h := h u_37 eu_37
    refine lv_aload_n hx hb dX12_tryPlan_38 rfl (lv_at hl 0 rfl) ?_
    refine lv_dup hx hb dX12_tryPlan_39 rfl ?_
    refine q_getI C hP (k := 42) (lay_X12 C.hA) rfl (by decide) g1 (fl_X12_366 C.hA) dX12_tryPlan_40 ?_
    refine lv_iconst (v := (1 : Int32)) hx hb dX12_tryPlan_43 (by decide) ?_
    refine lv_iadd hx hb dX12_tryPlan_44 ?_
    refine q_putI C hP (k := 42) tyX12_ok nmX12 (lay_X12 C.hA) rfl (by decide) rfl rfl rfl rfl g1 (fl_X12_366 C.hA) dX12_tryPlan_45 (fun H locs hP => ?_)
    obtain ⟨u_45, eu_45, hP⟩ := Hp.nm hP
    have h := h u_45 eu_45
    exact q_vret C hr hlk hP h (by decide) (by decide) dX12_tryPlan_48
  · have h := h.1 c7
    exact q_vret C hr hlk hP h (by decide) (by decide) dX12_tryPlan_10
-- X12_plans
abbrev rm_X12_plans : Room := { frames := 3, cells := 0, slots := 0, locals := 70 }
theorem hd_X12_plans : yX12_plans.cls ≠ "java/lang/invoke/MethodHandle" ∧ yX12_plans.cls ≠ "java/lang/invoke/VarHandle" ∧ (parseMethodDescriptor yX12_plans.desc).map (fun d => d.parameters.length) = some 3 := by decide +kernel
def V_X12_plans_296_B (G : Gx) (Q : Int32 → Mm → Prop) (k_270 : Nat → Int32 → Int32 → Mm → Prop) (k_283 : Nat → Int32 → Int32 → Int32 → Mm → Prop) (k_296 : Nat → Int32 → Int32 → Int32 → Int32 → Mm → Prop) (x0 : Nat) (x3 : Int32) (x4 : Int32) (x5 : Int32) (x6 : Int32) (u : Mm) : Prop :=
  (((82 : Int32) ≤ x6 → ∀ x5_319 : Int32, x5_319 = x5 + (1 : Int32) → k_283 x0 x3 x4 x5_319 u) ∧ (¬ (82 : Int32) ≤ x6 → kd G x0 = 12 ∧ V_X12_tryPlan G x0 x4 x5 x6 u (fun (u_310 : Mm) => ∀ x6_313 : Int32, x6_313 = x6 + (1 : Int32) → k_296 x0 x3 x4 x5 x6_313 u_310)))
def V_X12_plans_296 (G : Gx) (Q : Int32 → Mm → Prop) (k_270 : Nat → Int32 → Int32 → Mm → Prop) (k_283 : Nat → Int32 → Int32 → Int32 → Mm → Prop) : Nat → (Nat → Int32 → Int32 → Int32 → Int32 → Mm → Prop)
  | 0 => fun _ _ _ _ _ _ => False
  | n + 1 => fun x0 x3 x4 x5 x6 u => V_X12_plans_296_B G Q k_270 k_283 (V_X12_plans_296 G Q k_270 k_283 n) x0 x3 x4 x5 x6 u
def V_X12_plans_283_B (G : Gx) (Q : Int32 → Mm → Prop) (k_270 : Nat → Int32 → Int32 → Mm → Prop) (k_283 : Nat → Int32 → Int32 → Int32 → Mm → Prop) (x0 : Nat) (x3 : Int32) (x4 : Int32) (x5 : Int32) (u : Mm) : Prop :=
  (((82 : Int32) ≤ x5 → ∀ x4_325 : Int32, x4_325 = x4 + (1 : Int32) → k_270 x0 x3 x4_325 u) ∧ (¬ (82 : Int32) ≤ x5 → ∀ x6_294 : Int32, x6_294 = (x5 + (1 : Int32)) → ∃ n : Nat, V_X12_plans_296 G Q k_270 k_283 n x0 x3 x4 x5 x6_294 u))
def V_X12_plans_283 (G : Gx) (Q : Int32 → Mm → Prop) (k_270 : Nat → Int32 → Int32 → Mm → Prop) : Nat → (Nat → Int32 → Int32 → Int32 → Mm → Prop)
  | 0 => fun _ _ _ _ _ => False
  | n + 1 => fun x0 x3 x4 x5 u => V_X12_plans_283_B G Q k_270 (V_X12_plans_283 G Q k_270 n) x0 x3 x4 x5 u
def V_X12_plans_270_B (G : Gx) (Q : Int32 → Mm → Prop) (k_270 : Nat → Int32 → Int32 → Mm → Prop) (x0 : Nat) (x3 : Int32) (x4 : Int32) (u : Mm) : Prop :=
  (((82 : Int32) ≤ x4 → ((x3 = (-1 : Int32) → kd G x0 = 12 ∧ Q (gI u x0 42) u) ∧ (¬ x3 = (-1 : Int32) → kd G x0 = 12 ∧ V_X12_isIn G x3 (0 : Int32) ((gI u x0 42) - (1 : Int32)) u (fun (v_351 : Int32) (u_351 : Mm) => ((v_351 = 0 → V_X12_fail G x0 (1 : Int32) u_351 (fun (v_368 : Int32) (u_368 : Mm) => Q v_368 u_368)) ∧ (¬ v_351 = 0 → (gR u_351 x0 40) ≠ 0 ∧ kd G (gR u_351 x0 40) = 13 ∧ vp_in x3 (ln G (gR u_351 x0 40)) ∧ Q (gI u_351 (gR u_351 x0 40) x3.toNatClampNeg) u_351)))))) ∧ (¬ (82 : Int32) ≤ x4 → ∀ x5_281 : Int32, x5_281 = (x4 + (1 : Int32)) → ∃ n : Nat, V_X12_plans_283 G Q k_270 n x0 x3 x4 x5_281 u))
def V_X12_plans_270 (G : Gx) (Q : Int32 → Mm → Prop) : Nat → (Nat → Int32 → Int32 → Mm → Prop)
  | 0 => fun _ _ _ _ => False
  | n + 1 => fun x0 x3 x4 u => V_X12_plans_270_B G Q (V_X12_plans_270 G Q n) x0 x3 x4 u
def V_X12_plans_239_B (G : Gx) (Q : Int32 → Mm → Prop) (k_226 : Nat → Int32 → Int32 → Mm → Prop) (k_239 : Nat → Int32 → Int32 → Int32 → Mm → Prop) (x0 : Nat) (x3 : Int32) (x4 : Int32) (x5 : Int32) (u : Mm) : Prop :=
  (((82 : Int32) ≤ x5 → ∀ x4_261 : Int32, x4_261 = x4 + (1 : Int32) → k_226 x0 x3 x4_261 u) ∧ (¬ (82 : Int32) ≤ x5 → kd G x0 = 12 ∧ V_X12_tryPlan G x0 x4 x5 (-1 : Int32) u (fun (u_252 : Mm) => ∀ x5_255 : Int32, x5_255 = x5 + (1 : Int32) → k_239 x0 x3 x4 x5_255 u_252)))
def V_X12_plans_239 (G : Gx) (Q : Int32 → Mm → Prop) (k_226 : Nat → Int32 → Int32 → Mm → Prop) : Nat → (Nat → Int32 → Int32 → Int32 → Mm → Prop)
  | 0 => fun _ _ _ _ _ => False
  | n + 1 => fun x0 x3 x4 x5 u => V_X12_plans_239_B G Q k_226 (V_X12_plans_239 G Q k_226 n) x0 x3 x4 x5 u
def V_X12_plans_226_B (G : Gx) (Q : Int32 → Mm → Prop) (k_226 : Nat → Int32 → Int32 → Mm → Prop) (x0 : Nat) (x3 : Int32) (x4 : Int32) (u : Mm) : Prop :=
  (((82 : Int32) ≤ x4 → ∃ n : Nat, V_X12_plans_270 G Q n x0 x3 (0 : Int32) u) ∧ (¬ (82 : Int32) ≤ x4 → ∀ x5_237 : Int32, x5_237 = (x4 + (1 : Int32)) → ∃ n : Nat, V_X12_plans_239 G Q k_226 n x0 x3 x4 x5_237 u))
def V_X12_plans_226 (G : Gx) (Q : Int32 → Mm → Prop) : Nat → (Nat → Int32 → Int32 → Mm → Prop)
  | 0 => fun _ _ _ _ => False
  | n + 1 => fun x0 x3 x4 u => V_X12_plans_226_B G Q (V_X12_plans_226 G Q n) x0 x3 x4 u
def V_X12_plans_202_B (G : Gx) (Q : Int32 → Mm → Prop) (k_202 : Nat → Int32 → Int32 → Mm → Prop) (x0 : Nat) (x3 : Int32) (x4 : Int32) (u : Mm) : Prop :=
  (((82 : Int32) ≤ x4 → ∃ n : Nat, V_X12_plans_226 G Q n x0 x3 (0 : Int32) u) ∧ (¬ (82 : Int32) ≤ x4 → kd G x0 = 12 ∧ V_X12_tryPlan G x0 x4 (-1 : Int32) (-1 : Int32) u (fun (u_214 : Mm) => ∀ x4_217 : Int32, x4_217 = x4 + (1 : Int32) → k_202 x0 x3 x4_217 u_214)))
def V_X12_plans_202 (G : Gx) (Q : Int32 → Mm → Prop) : Nat → (Nat → Int32 → Int32 → Mm → Prop)
  | 0 => fun _ _ _ _ => False
  | n + 1 => fun x0 x3 x4 u => V_X12_plans_202_B G Q (V_X12_plans_202 G Q n) x0 x3 x4 u
def V_X12_plans_125_B (G : Gx) (Q : Int32 → Mm → Prop) (k_113 : Nat → Int32 → Int32 → Int32 → Mm → Prop) (k_125 : Nat → Int32 → Int32 → Int32 → Int32 → Mm → Prop) (x0 : Nat) (x2 : Int32) (x3 : Int32) (x4 : Int32) (x5 : Int32) (u : Mm) : Prop :=
  (((82 : Int32) ≤ x5 → ∀ x4_181 : Int32, x4_181 = x4 + (1 : Int32) → k_113 x0 x2 x3 x4_181 u) ∧ (¬ (82 : Int32) ≤ x5 → kd G x0 = 12 ∧ (gR u x0 38) ≠ 0 ∧ (gR u x0 29) ≠ 0 ∧ (gR u x0 39) ≠ 0 ∧ kd G (gR u x0 39) = 13 ∧ vp_in x4 (ln G (gR u x0 39)) ∧ kd G (gR u x0 29) = 13 ∧ vp_in (gI u (gR u x0 39) x4.toNatClampNeg) (ln G (gR u x0 29)) ∧ (gR u x0 30) ≠ 0 ∧ kd G (gR u x0 30) = 13 ∧ vp_in (gI u (gR u x0 39) x4.toNatClampNeg) (ln G (gR u x0 30)) ∧ V_X12_tickOfLine G x5 (gI u (gR u x0 29) (gI u (gR u x0 39) x4.toNatClampNeg).toNatClampNeg) (gI u (gR u x0 30) (gI u (gR u x0 39) x4.toNatClampNeg).toNatClampNeg) x2 u (fun (v_171 : Int32) (u_171 : Mm) => kd G (gR u x0 38) = 13 ∧ vp_in (((82 : Int32) * x4) + x5) (ln G (gR u x0 38)) ∧ ∀ u_174 : Mm, u_174 = sI u_171 (gR u x0 38) (((82 : Int32) * x4) + x5).toNatClampNeg v_171 → ∀ x5_175 : Int32, x5_175 = x5 + (1 : Int32) → k_125 x0 x2 x3 x4 x5_175 u_174)))
def V_X12_plans_125 (G : Gx) (Q : Int32 → Mm → Prop) (k_113 : Nat → Int32 → Int32 → Int32 → Mm → Prop) : Nat → (Nat → Int32 → Int32 → Int32 → Int32 → Mm → Prop)
  | 0 => fun _ _ _ _ _ _ => False
  | n + 1 => fun x0 x2 x3 x4 x5 u => V_X12_plans_125_B G Q k_113 (V_X12_plans_125 G Q k_113 n) x0 x2 x3 x4 x5 u
def V_X12_plans_113_B (G : Gx) (Q : Int32 → Mm → Prop) (k_113 : Nat → Int32 → Int32 → Int32 → Mm → Prop) (x0 : Nat) (x2 : Int32) (x3 : Int32) (x4 : Int32) (u : Mm) : Prop :=
  kd G x0 = 12 ∧ (((gI u x0 41) ≤ x4 → ∀ u_189 : Mm, u_189 = sI u x0 42 (0 : Int32) → V_X12_tryPlan G x0 (-1 : Int32) (-1 : Int32) (-1 : Int32) u_189 (fun (u_196 : Mm) => ∃ n : Nat, V_X12_plans_202 G Q n x0 x3 (0 : Int32) u_196)) ∧ (¬ (gI u x0 41) ≤ x4 → ∃ n : Nat, V_X12_plans_125 G Q k_113 n x0 x2 x3 x4 (0 : Int32) u))
def V_X12_plans_113 (G : Gx) (Q : Int32 → Mm → Prop) : Nat → (Nat → Int32 → Int32 → Int32 → Mm → Prop)
  | 0 => fun _ _ _ _ _ => False
  | n + 1 => fun x0 x2 x3 x4 u => V_X12_plans_113_B G Q (V_X12_plans_113 G Q n) x0 x2 x3 x4 u
def V_X12_plans_104 (G : Gx) (Q : Int32 → Mm → Prop) (x0 : Nat) (u : Mm) : Prop :=
  kd G x0 = 12 ∧ V_X12_fail G x0 (2 : Int32) u (fun (v_106 : Int32) (u_106 : Mm) => Q v_106 u_106)
def V_X12_plans_79 (G : Gx) (Q : Int32 → Mm → Prop) (k_26 : Nat → Int32 → Int32 → Int32 → Int32 → Mm → Prop) (x0 : Nat) (x1 : Int32) (x2 : Int32) (x3 : Int32) (x4 : Int32) (u : Mm) : Prop :=
  ∀ x4_79 : Int32, x4_79 = x4 + (1 : Int32) → k_26 x0 x1 x2 x3 x4_79 u
def V_X12_plans_26_B (G : Gx) (Q : Int32 → Mm → Prop) (k_26 : Nat → Int32 → Int32 → Int32 → Int32 → Mm → Prop) (x0 : Nat) (x1 : Int32) (x2 : Int32) (x3 : Int32) (x4 : Int32) (u : Mm) : Prop :=
  kd G x0 = 12 ∧ (((gI u x0 27) ≤ x4 → V_X12_isIn G x2 (50 : Int32) (150 : Int32) u (fun (v_91 : Int32) (u_91 : Mm) => ((v_91 = 0 → V_X12_plans_104 G Q x0 u_91) ∧ (¬ v_91 = 0 → (((gI u_91 x0 41) = 0 → V_X12_plans_104 G Q x0 u_91) ∧ (¬ (gI u_91 x0 41) = 0 → ∃ n : Nat, V_X12_plans_113 G Q n x0 x2 x3 (0 : Int32) u_91)))))) ∧ (¬ (gI u x0 27) ≤ x4 → V_X12_isNamed G x0 x4 u (fun (v_38 : Int32) (u_38 : Mm) => ((v_38 = 0 → V_X12_plans_79 G Q k_26 x0 x1 x2 x3 x4 u_38) ∧ (¬ v_38 = 0 → (gR u_38 x0 31) ≠ 0 ∧ kd G (gR u_38 x0 31) = 13 ∧ vp_in x4 (ln G (gR u_38 x0 31)) ∧ (((gI u_38 (gR u_38 x0 31) x4.toNatClampNeg) = x1 → (gR u_38 x0 39) ≠ 0 ∧ kd G (gR u_38 x0 39) = 13 ∧ vp_in (gI u_38 x0 41) (ln G (gR u_38 x0 39)) ∧ ∀ u_68 : Mm, u_68 = sI u_38 (gR u_38 x0 39) (gI u_38 x0 41).toNatClampNeg x4 → ∀ u_76 : Mm, u_76 = sI u_68 x0 41 ((gI u_68 x0 41) + (1 : Int32)) → V_X12_plans_79 G Q k_26 x0 x1 x2 x3 x4 u_76) ∧ (¬ (gI u_38 (gR u_38 x0 31) x4.toNatClampNeg) = x1 → V_X12_plans_79 G Q k_26 x0 x1 x2 x3 x4 u_38)))))))
def V_X12_plans_26 (G : Gx) (Q : Int32 → Mm → Prop) : Nat → (Nat → Int32 → Int32 → Int32 → Int32 → Mm → Prop)
  | 0 => fun _ _ _ _ _ _ => False
  | n + 1 => fun x0 x1 x2 x3 x4 u => V_X12_plans_26_B G Q (V_X12_plans_26 G Q n) x0 x1 x2 x3 x4 u
def V_X12_plans (G : Gx) (p0 : Nat) (p1 : Int32) (p2 : Int32) (p3 : Int32) (u : Mm) (Q : Int32 → Mm → Prop) : Prop :=
  kd G p0 = 12 ∧ ∀ u_2 : Mm, u_2 = sI u p0 1 (0 : Int32) → V_X12_isYear G p1 u_2 (fun (v_6 : Int32) (u_6 : Mm) => ((v_6 = 0 → V_X12_fail G p0 (1 : Int32) u_6 (fun (v_14 : Int32) (u_14 : Mm) => Q v_14 u_14)) ∧ (¬ v_6 = 0 → ∀ u_20 : Mm, u_20 = sI u_6 p0 41 (0 : Int32) → ∃ n : Nat, V_X12_plans_26 G Q n p0 p1 p2 p3 (0 : Int32) u_20)))
set_option maxHeartbeats 4000000 in
set_option maxRecDepth 100000 in
theorem b_X12_plans_296 {G : Gx} {Q : Int32 → Mm → Prop} {p : Program} {l : Launch} {e : Env} {s : State} {m : MethodId} {args : Array Value} {below : List Frame} {meth : Method} {c : Code} (C : Cx G p s m c cX12_plans RX12 7) (hr : meth.sig.returnType = (some .int)) (hlk : meth.locks = false) {k_270 : Nat → Int32 → Int32 → Mm → Prop} (hk_270 : ∀ (x0 : Nat) (x3 : Int32) (x4 : Int32) (u : Mm) (H : Heap) (locs : List Loc) (ls : Array Slot), k_270 x0 x3 x4 u → lv_has ls 7 [(0, .ref x0), (3, .int x3), (4, .int x4)] → Hp G u s H locs → W p l e rm_X12_plans s m args below meth c H locs 0 0 (MQ below (Ei G Q) args s 0 0 (ag G)) (F0 m 270 ls [])) {k_283 : Nat → Int32 → Int32 → Int32 → Mm → Prop} (hk_283 : ∀ (x0 : Nat) (x3 : Int32) (x4 : Int32) (x5 : Int32) (u : Mm) (H : Heap) (locs : List Loc) (ls : Array Slot), k_283 x0 x3 x4 x5 u → lv_has ls 7 [(0, .ref x0), (3, .int x3), (4, .int x4), (5, .int x5)] → Hp G u s H locs → W p l e rm_X12_plans s m args below meth c H locs 0 0 (MQ below (Ei G Q) args s 0 0 (ag G)) (F0 m 283 ls [])) {k_296 : Nat → Int32 → Int32 → Int32 → Int32 → Mm → Prop} (hk_296 : ∀ (x0 : Nat) (x3 : Int32) (x4 : Int32) (x5 : Int32) (x6 : Int32) (u : Mm) (H : Heap) (locs : List Loc) (ls : Array Slot), k_296 x0 x3 x4 x5 x6 u → lv_has ls 7 [(0, .ref x0), (3, .int x3), (4, .int x4), (5, .int x5), (6, .int x6)] → Hp G u s H locs → W p l e rm_X12_plans s m args below meth c H locs 0 0 (MQ below (Ei G Q) args s 0 0 (ag G)) (F0 m 296 ls [])) {x0 : Nat} {x3 : Int32} {x4 : Int32} {x5 : Int32} {x6 : Int32} {u : Mm} {H : Heap} {locs : List Loc} {ls : Array Slot} (h : V_X12_plans_296_B G Q k_270 k_283 k_296 x0 x3 x4 x5 x6 u) (hl : lv_has ls 7 [(0, .ref x0), (3, .int x3), (4, .int x4), (5, .int x5), (6, .int x6)]) (hP : Hp G u s H locs) : W p l e rm_X12_plans s m args below meth c H locs 0 0 (MQ below (Ei G Q) args s 0 0 (ag G)) (F0 m 296 ls []) := by
  have hx := C.1
  have hb := C.2.1
  unfold V_X12_plans_296_B at h
  refine lv_iload hx hb dX12_plans_296 (lv_at hl 4 rfl) ?_
  refine lv_bipush (v := (82 : Int32)) hx hb dX12_plans_298 (by decide) ?_
  refine lv_icmp_ge (tgt := 319) hx hb dX12_plans_300 (by decide) (fun c300 => ?_) (fun c300 => ?_)
  · have h := h.1 c300
    obtain ⟨x5_319, ex5_319⟩ : ∃ y : Int32, y = x5 + (1 : Int32) := ⟨_, rfl⟩
    have h := h x5_319 ex5_319
    refine lv_iinc (v := x5_319) (lv' := [(5, .int x5_319), (0, .ref x0), (3, .int x3), (4, .int x4), (6, .int x6)]) hx hb dX12_plans_319 hl (k := 3) rfl (by rw [ex5_319]; rfl) (by decide) rfl (fun ls hl => ?_)
    refine lv_goto (tgt := 283) hx hb dX12_plans_322 (by decide) ?_
    exact hk_283 x0 x3 x4 x5_319 u _ _ _ h (lv_sub hl [1, 2, 3, 0] rfl) hP
  · have h := h.2 c300
    refine lv_aload_n hx hb dX12_plans_303 rfl (lv_at hl 0 rfl) ?_
    refine lv_iload hx hb dX12_plans_304 (lv_at hl 2 rfl) ?_
    refine lv_iload hx hb dX12_plans_306 (lv_at hl 3 rfl) ?_
    refine lv_iload hx hb dX12_plans_308 (lv_at hl 4 rfl) ?_
    obtain ⟨g1, h⟩ := h
    refine q_calv (q_runV C hP (c_X12_tryPlan h) (cd_X12_tryPlan C.hA) (ini_X12 C.hA) (ml_X12_372 C.hA) (im_X12_tryPlan C.hA) (sl_X12_tryPlan C.hA) g1 (by decide) rfl hd_X12_tryPlan ⟨rfl, rfl⟩ ⟨Nat.le_of_ble_eq_true rfl, Nat.le_of_ble_eq_true rfl⟩ ⟨Nat.le_of_ble_eq_true rfl, Nat.le_of_ble_eq_true rfl⟩ hl.1 rfl (Nat.le_of_ble_eq_true rfl) dX12_plans_310) hP (fun u_310 H locs h hP => ?_)
    obtain ⟨x6_313, ex6_313⟩ : ∃ y : Int32, y = x6 + (1 : Int32) := ⟨_, rfl⟩
    have h := h x6_313 ex6_313
    refine lv_iinc (v := x6_313) (lv' := [(6, .int x6_313), (0, .ref x0), (3, .int x3), (4, .int x4), (5, .int x5)]) hx hb dX12_plans_313 hl (k := 4) rfl (by rw [ex6_313]; rfl) (by decide) rfl (fun ls hl => ?_)
    refine lv_goto (tgt := 296) hx hb dX12_plans_316 (by decide) ?_
    exact hk_296 x0 x3 x4 x5 x6_313 u_310 _ _ _ h (lv_sub hl [1, 2, 3, 4, 0] rfl) hP
theorem l_X12_plans_296 {G : Gx} {Q : Int32 → Mm → Prop} {p : Program} {l : Launch} {e : Env} {s : State} {m : MethodId} {args : Array Value} {below : List Frame} {meth : Method} {c : Code} (C : Cx G p s m c cX12_plans RX12 7) (hr : meth.sig.returnType = (some .int)) (hlk : meth.locks = false) {k_270 : Nat → Int32 → Int32 → Mm → Prop} (hk_270 : ∀ (x0 : Nat) (x3 : Int32) (x4 : Int32) (u : Mm) (H : Heap) (locs : List Loc) (ls : Array Slot), k_270 x0 x3 x4 u → lv_has ls 7 [(0, .ref x0), (3, .int x3), (4, .int x4)] → Hp G u s H locs → W p l e rm_X12_plans s m args below meth c H locs 0 0 (MQ below (Ei G Q) args s 0 0 (ag G)) (F0 m 270 ls [])) {k_283 : Nat → Int32 → Int32 → Int32 → Mm → Prop} (hk_283 : ∀ (x0 : Nat) (x3 : Int32) (x4 : Int32) (x5 : Int32) (u : Mm) (H : Heap) (locs : List Loc) (ls : Array Slot), k_283 x0 x3 x4 x5 u → lv_has ls 7 [(0, .ref x0), (3, .int x3), (4, .int x4), (5, .int x5)] → Hp G u s H locs → W p l e rm_X12_plans s m args below meth c H locs 0 0 (MQ below (Ei G Q) args s 0 0 (ag G)) (F0 m 283 ls [])) : ∀ (n : Nat) (x0 : Nat) (x3 : Int32) (x4 : Int32) (x5 : Int32) (x6 : Int32) (u : Mm) (H : Heap) (locs : List Loc) (ls : Array Slot), V_X12_plans_296 G Q k_270 k_283 n x0 x3 x4 x5 x6 u → lv_has ls 7 [(0, .ref x0), (3, .int x3), (4, .int x4), (5, .int x5), (6, .int x6)] → Hp G u s H locs → W p l e rm_X12_plans s m args below meth c H locs 0 0 (MQ below (Ei G Q) args s 0 0 (ag G)) (F0 m 296 ls []) := by
  intro n
  induction n with
  | zero => intro x0 x3 x4 x5 x6 u H locs ls h; exact h.elim
  | succ n ih => intro x0 x3 x4 x5 x6 u H locs ls h hl hP; exact b_X12_plans_296 C hr hlk hk_270 hk_283 ih h hl hP
set_option maxHeartbeats 4000000 in
set_option maxRecDepth 100000 in
theorem b_X12_plans_283 {G : Gx} {Q : Int32 → Mm → Prop} {p : Program} {l : Launch} {e : Env} {s : State} {m : MethodId} {args : Array Value} {below : List Frame} {meth : Method} {c : Code} (C : Cx G p s m c cX12_plans RX12 7) (hr : meth.sig.returnType = (some .int)) (hlk : meth.locks = false) {k_270 : Nat → Int32 → Int32 → Mm → Prop} (hk_270 : ∀ (x0 : Nat) (x3 : Int32) (x4 : Int32) (u : Mm) (H : Heap) (locs : List Loc) (ls : Array Slot), k_270 x0 x3 x4 u → lv_has ls 7 [(0, .ref x0), (3, .int x3), (4, .int x4)] → Hp G u s H locs → W p l e rm_X12_plans s m args below meth c H locs 0 0 (MQ below (Ei G Q) args s 0 0 (ag G)) (F0 m 270 ls [])) {k_283 : Nat → Int32 → Int32 → Int32 → Mm → Prop} (hk_283 : ∀ (x0 : Nat) (x3 : Int32) (x4 : Int32) (x5 : Int32) (u : Mm) (H : Heap) (locs : List Loc) (ls : Array Slot), k_283 x0 x3 x4 x5 u → lv_has ls 7 [(0, .ref x0), (3, .int x3), (4, .int x4), (5, .int x5)] → Hp G u s H locs → W p l e rm_X12_plans s m args below meth c H locs 0 0 (MQ below (Ei G Q) args s 0 0 (ag G)) (F0 m 283 ls [])) {x0 : Nat} {x3 : Int32} {x4 : Int32} {x5 : Int32} {u : Mm} {H : Heap} {locs : List Loc} {ls : Array Slot} (h : V_X12_plans_283_B G Q k_270 k_283 x0 x3 x4 x5 u) (hl : lv_has ls 7 [(0, .ref x0), (3, .int x3), (4, .int x4), (5, .int x5)]) (hP : Hp G u s H locs) : W p l e rm_X12_plans s m args below meth c H locs 0 0 (MQ below (Ei G Q) args s 0 0 (ag G)) (F0 m 283 ls []) := by
  have hx := C.1
  have hb := C.2.1
  unfold V_X12_plans_283_B at h
  refine lv_iload hx hb dX12_plans_283 (lv_at hl 3 rfl) ?_
  refine lv_bipush (v := (82 : Int32)) hx hb dX12_plans_285 (by decide) ?_
  refine lv_icmp_ge (tgt := 325) hx hb dX12_plans_287 (by decide) (fun c287 => ?_) (fun c287 => ?_)
  · have h := h.1 c287
    obtain ⟨x4_325, ex4_325⟩ : ∃ y : Int32, y = x4 + (1 : Int32) := ⟨_, rfl⟩
    have h := h x4_325 ex4_325
    refine lv_iinc (v := x4_325) (lv' := [(4, .int x4_325), (0, .ref x0), (3, .int x3), (5, .int x5)]) hx hb dX12_plans_325 hl (k := 2) rfl (by rw [ex4_325]; rfl) (by decide) rfl (fun ls hl => ?_)
    refine lv_goto (tgt := 270) hx hb dX12_plans_328 (by decide) ?_
    exact hk_270 x0 x3 x4_325 u _ _ _ h (lv_sub hl [1, 2, 0] rfl) hP
  · have h := h.2 c287
    refine lv_iload hx hb dX12_plans_290 (lv_at hl 3 rfl) ?_
    refine lv_iconst (v := (1 : Int32)) hx hb dX12_plans_292 (by decide) ?_
    refine lv_iadd hx hb dX12_plans_293 ?_
    refine lv_topi (fun x6_294 ex6_294 => ?_)
    have h := h x6_294 ex6_294
    refine lv_istore (lv' := [(6, .int x6_294), (0, .ref x0), (3, .int x3), (4, .int x4), (5, .int x5)]) hx hb dX12_plans_294 hl (by decide) rfl (fun ls hl => ?_)
    obtain ⟨n, h⟩ := h
    exact l_X12_plans_296 C hr hlk hk_270 hk_283 n x0 x3 x4 x5 x6_294 u _ _ _ h (lv_sub hl [1, 2, 3, 4, 0] rfl) hP
theorem l_X12_plans_283 {G : Gx} {Q : Int32 → Mm → Prop} {p : Program} {l : Launch} {e : Env} {s : State} {m : MethodId} {args : Array Value} {below : List Frame} {meth : Method} {c : Code} (C : Cx G p s m c cX12_plans RX12 7) (hr : meth.sig.returnType = (some .int)) (hlk : meth.locks = false) {k_270 : Nat → Int32 → Int32 → Mm → Prop} (hk_270 : ∀ (x0 : Nat) (x3 : Int32) (x4 : Int32) (u : Mm) (H : Heap) (locs : List Loc) (ls : Array Slot), k_270 x0 x3 x4 u → lv_has ls 7 [(0, .ref x0), (3, .int x3), (4, .int x4)] → Hp G u s H locs → W p l e rm_X12_plans s m args below meth c H locs 0 0 (MQ below (Ei G Q) args s 0 0 (ag G)) (F0 m 270 ls [])) : ∀ (n : Nat) (x0 : Nat) (x3 : Int32) (x4 : Int32) (x5 : Int32) (u : Mm) (H : Heap) (locs : List Loc) (ls : Array Slot), V_X12_plans_283 G Q k_270 n x0 x3 x4 x5 u → lv_has ls 7 [(0, .ref x0), (3, .int x3), (4, .int x4), (5, .int x5)] → Hp G u s H locs → W p l e rm_X12_plans s m args below meth c H locs 0 0 (MQ below (Ei G Q) args s 0 0 (ag G)) (F0 m 283 ls []) := by
  intro n
  induction n with
  | zero => intro x0 x3 x4 x5 u H locs ls h; exact h.elim
  | succ n ih => intro x0 x3 x4 x5 u H locs ls h hl hP; exact b_X12_plans_283 C hr hlk hk_270 ih h hl hP
set_option maxHeartbeats 4000000 in
set_option maxRecDepth 100000 in
theorem b_X12_plans_270 {G : Gx} {Q : Int32 → Mm → Prop} {p : Program} {l : Launch} {e : Env} {s : State} {m : MethodId} {args : Array Value} {below : List Frame} {meth : Method} {c : Code} (C : Cx G p s m c cX12_plans RX12 7) (hr : meth.sig.returnType = (some .int)) (hlk : meth.locks = false) {k_270 : Nat → Int32 → Int32 → Mm → Prop} (hk_270 : ∀ (x0 : Nat) (x3 : Int32) (x4 : Int32) (u : Mm) (H : Heap) (locs : List Loc) (ls : Array Slot), k_270 x0 x3 x4 u → lv_has ls 7 [(0, .ref x0), (3, .int x3), (4, .int x4)] → Hp G u s H locs → W p l e rm_X12_plans s m args below meth c H locs 0 0 (MQ below (Ei G Q) args s 0 0 (ag G)) (F0 m 270 ls [])) {x0 : Nat} {x3 : Int32} {x4 : Int32} {u : Mm} {H : Heap} {locs : List Loc} {ls : Array Slot} (h : V_X12_plans_270_B G Q k_270 x0 x3 x4 u) (hl : lv_has ls 7 [(0, .ref x0), (3, .int x3), (4, .int x4)]) (hP : Hp G u s H locs) : W p l e rm_X12_plans s m args below meth c H locs 0 0 (MQ below (Ei G Q) args s 0 0 (ag G)) (F0 m 270 ls []) := by
  have hx := C.1
  have hb := C.2.1
  unfold V_X12_plans_270_B at h
  refine lv_iload hx hb dX12_plans_270 (lv_at hl 2 rfl) ?_
  refine lv_bipush (v := (82 : Int32)) hx hb dX12_plans_272 (by decide) ?_
  refine lv_icmp_ge (tgt := 331) hx hb dX12_plans_274 (by decide) (fun c274 => ?_) (fun c274 => ?_)
  · have h := h.1 c274
    refine lv_iload_n hx hb dX12_plans_331 rfl (lv_at hl 1 rfl) ?_
    refine lv_iconst (v := (-1 : Int32)) hx hb dX12_plans_332 (by decide) ?_
    refine lv_icmp_ne (tgt := 343) hx hb dX12_plans_333 (by decide) (fun c333 => ?_) (fun c333 => ?_)
    · have h := h.2 c333
      refine lv_iload_n hx hb dX12_plans_343 rfl (lv_at hl 1 rfl) ?_
      refine lv_iconst (v := (0 : Int32)) hx hb dX12_plans_344 (by decide) ?_
      refine lv_aload_n hx hb dX12_plans_345 rfl (lv_at hl 0 rfl) ?_
      obtain ⟨g1, h⟩ := h
      refine q_getI C hP (k := 42) (lay_X12 C.hA) rfl (by decide) g1 (fl_X12_366 C.hA) dX12_plans_346 ?_
      refine lv_iconst (v := (1 : Int32)) hx hb dX12_plans_349 (by decide) ?_
      refine lv_isub hx hb dX12_plans_350 ?_
      refine q_cali (q_runS C hP (c_X12_isIn h) (cd_X12_isIn C.hA) (ini_X12 C.hA) (ml_X12_150 C.hA) (st_X12_isIn C.hA) hd_X12_isIn ⟨rfl, rfl⟩ ⟨Nat.le_of_ble_eq_true rfl, Nat.le_of_ble_eq_true rfl⟩ ⟨Nat.le_of_ble_eq_true rfl, Nat.le_of_ble_eq_true rfl⟩ hl.1 rfl (Nat.le_of_ble_eq_true rfl) dX12_plans_351) hP (fun v_351 u_351 H locs h hP => ?_)
      refine lv_if_eq (tgt := 366) hx hb dX12_plans_354 (by decide) (fun c354 => ?_) (fun c354 => ?_)
      · have h := h.1 c354
        refine lv_aload_n hx hb dX12_plans_366 rfl (lv_at hl 0 rfl) ?_
        refine lv_iconst (v := (1 : Int32)) hx hb dX12_plans_367 (by decide) ?_
        refine q_cali (q_runV C hP (c_X12_fail h) (cd_X12_fail C.hA) (ini_X12 C.hA) (ml_X12_249 C.hA) (im_X12_fail C.hA) (sl_X12_fail C.hA) g1 (by decide) rfl hd_X12_fail ⟨rfl, rfl⟩ ⟨Nat.le_of_ble_eq_true rfl, Nat.le_of_ble_eq_true rfl⟩ ⟨Nat.le_of_ble_eq_true rfl, Nat.le_of_ble_eq_true rfl⟩ hl.1 rfl (Nat.le_of_ble_eq_true rfl) dX12_plans_368) hP (fun v_368 u_368 H locs h hP => ?_)
        exact q_iret C hr hlk hP h (by decide) (by decide) dX12_plans_371
      · have h := h.2 c354
        refine lv_aload_n hx hb dX12_plans_357 rfl (lv_at hl 0 rfl) ?_
        obtain ⟨g2, h⟩ := h
        refine q_getR C hP (k := 40) (lay_X12 C.hA) rfl (by decide) g1 g2 (fl_X12_104 C.hA) dX12_plans_358 ?_
        refine lv_iload_n hx hb dX12_plans_361 rfl (lv_at hl 1 rfl) ?_
        obtain ⟨g3, h⟩ := h
        obtain ⟨g4, h⟩ := h
        refine q_iald C hP g3 g4 dX12_plans_362 ?_
        refine lv_goto (tgt := 371) hx hb dX12_plans_363 (by decide) ?_
        exact q_iret C hr hlk hP h (by decide) (by decide) dX12_plans_371
    · have h := h.1 c333
      refine lv_aload_n hx hb dX12_plans_336 rfl (lv_at hl 0 rfl) ?_
      obtain ⟨g5, h⟩ := h
      refine q_getI C hP (k := 42) (lay_X12 C.hA) rfl (by decide) g5 (fl_X12_366 C.hA) dX12_plans_337 ?_
      refine lv_goto (tgt := 371) hx hb dX12_plans_340 (by decide) ?_
      exact q_iret C hr hlk hP h (by decide) (by decide) dX12_plans_371
  · have h := h.2 c274
    refine lv_iload hx hb dX12_plans_277 (lv_at hl 2 rfl) ?_
    refine lv_iconst (v := (1 : Int32)) hx hb dX12_plans_279 (by decide) ?_
    refine lv_iadd hx hb dX12_plans_280 ?_
    refine lv_topi (fun x5_281 ex5_281 => ?_)
    have h := h x5_281 ex5_281
    refine lv_istore (lv' := [(5, .int x5_281), (0, .ref x0), (3, .int x3), (4, .int x4)]) hx hb dX12_plans_281 hl (by decide) rfl (fun ls hl => ?_)
    obtain ⟨n, h⟩ := h
    exact l_X12_plans_283 C hr hlk hk_270 n x0 x3 x4 x5_281 u _ _ _ h (lv_sub hl [1, 2, 3, 0] rfl) hP
theorem l_X12_plans_270 {G : Gx} {Q : Int32 → Mm → Prop} {p : Program} {l : Launch} {e : Env} {s : State} {m : MethodId} {args : Array Value} {below : List Frame} {meth : Method} {c : Code} (C : Cx G p s m c cX12_plans RX12 7) (hr : meth.sig.returnType = (some .int)) (hlk : meth.locks = false) : ∀ (n : Nat) (x0 : Nat) (x3 : Int32) (x4 : Int32) (u : Mm) (H : Heap) (locs : List Loc) (ls : Array Slot), V_X12_plans_270 G Q n x0 x3 x4 u → lv_has ls 7 [(0, .ref x0), (3, .int x3), (4, .int x4)] → Hp G u s H locs → W p l e rm_X12_plans s m args below meth c H locs 0 0 (MQ below (Ei G Q) args s 0 0 (ag G)) (F0 m 270 ls []) := by
  intro n
  induction n with
  | zero => intro x0 x3 x4 u H locs ls h; exact h.elim
  | succ n ih => intro x0 x3 x4 u H locs ls h hl hP; exact b_X12_plans_270 C hr hlk ih h hl hP
set_option maxHeartbeats 4000000 in
set_option maxRecDepth 100000 in
theorem b_X12_plans_239 {G : Gx} {Q : Int32 → Mm → Prop} {p : Program} {l : Launch} {e : Env} {s : State} {m : MethodId} {args : Array Value} {below : List Frame} {meth : Method} {c : Code} (C : Cx G p s m c cX12_plans RX12 7) (hr : meth.sig.returnType = (some .int)) (hlk : meth.locks = false) {k_226 : Nat → Int32 → Int32 → Mm → Prop} (hk_226 : ∀ (x0 : Nat) (x3 : Int32) (x4 : Int32) (u : Mm) (H : Heap) (locs : List Loc) (ls : Array Slot), k_226 x0 x3 x4 u → lv_has ls 7 [(0, .ref x0), (3, .int x3), (4, .int x4)] → Hp G u s H locs → W p l e rm_X12_plans s m args below meth c H locs 0 0 (MQ below (Ei G Q) args s 0 0 (ag G)) (F0 m 226 ls [])) {k_239 : Nat → Int32 → Int32 → Int32 → Mm → Prop} (hk_239 : ∀ (x0 : Nat) (x3 : Int32) (x4 : Int32) (x5 : Int32) (u : Mm) (H : Heap) (locs : List Loc) (ls : Array Slot), k_239 x0 x3 x4 x5 u → lv_has ls 7 [(0, .ref x0), (3, .int x3), (4, .int x4), (5, .int x5)] → Hp G u s H locs → W p l e rm_X12_plans s m args below meth c H locs 0 0 (MQ below (Ei G Q) args s 0 0 (ag G)) (F0 m 239 ls [])) {x0 : Nat} {x3 : Int32} {x4 : Int32} {x5 : Int32} {u : Mm} {H : Heap} {locs : List Loc} {ls : Array Slot} (h : V_X12_plans_239_B G Q k_226 k_239 x0 x3 x4 x5 u) (hl : lv_has ls 7 [(0, .ref x0), (3, .int x3), (4, .int x4), (5, .int x5)]) (hP : Hp G u s H locs) : W p l e rm_X12_plans s m args below meth c H locs 0 0 (MQ below (Ei G Q) args s 0 0 (ag G)) (F0 m 239 ls []) := by
  have hx := C.1
  have hb := C.2.1
  unfold V_X12_plans_239_B at h
  refine lv_iload hx hb dX12_plans_239 (lv_at hl 3 rfl) ?_
  refine lv_bipush (v := (82 : Int32)) hx hb dX12_plans_241 (by decide) ?_
  refine lv_icmp_ge (tgt := 261) hx hb dX12_plans_243 (by decide) (fun c243 => ?_) (fun c243 => ?_)
  · have h := h.1 c243
    obtain ⟨x4_261, ex4_261⟩ : ∃ y : Int32, y = x4 + (1 : Int32) := ⟨_, rfl⟩
    have h := h x4_261 ex4_261
    refine lv_iinc (v := x4_261) (lv' := [(4, .int x4_261), (0, .ref x0), (3, .int x3), (5, .int x5)]) hx hb dX12_plans_261 hl (k := 2) rfl (by rw [ex4_261]; rfl) (by decide) rfl (fun ls hl => ?_)
    refine lv_goto (tgt := 226) hx hb dX12_plans_264 (by decide) ?_
    exact hk_226 x0 x3 x4_261 u _ _ _ h (lv_sub hl [1, 2, 0] rfl) hP
  · have h := h.2 c243
    refine lv_aload_n hx hb dX12_plans_246 rfl (lv_at hl 0 rfl) ?_
    refine lv_iload hx hb dX12_plans_247 (lv_at hl 2 rfl) ?_
    refine lv_iload hx hb dX12_plans_249 (lv_at hl 3 rfl) ?_
    refine lv_iconst (v := (-1 : Int32)) hx hb dX12_plans_251 (by decide) ?_
    obtain ⟨g1, h⟩ := h
    refine q_calv (q_runV C hP (c_X12_tryPlan h) (cd_X12_tryPlan C.hA) (ini_X12 C.hA) (ml_X12_372 C.hA) (im_X12_tryPlan C.hA) (sl_X12_tryPlan C.hA) g1 (by decide) rfl hd_X12_tryPlan ⟨rfl, rfl⟩ ⟨Nat.le_of_ble_eq_true rfl, Nat.le_of_ble_eq_true rfl⟩ ⟨Nat.le_of_ble_eq_true rfl, Nat.le_of_ble_eq_true rfl⟩ hl.1 rfl (Nat.le_of_ble_eq_true rfl) dX12_plans_252) hP (fun u_252 H locs h hP => ?_)
    obtain ⟨x5_255, ex5_255⟩ : ∃ y : Int32, y = x5 + (1 : Int32) := ⟨_, rfl⟩
    have h := h x5_255 ex5_255
    refine lv_iinc (v := x5_255) (lv' := [(5, .int x5_255), (0, .ref x0), (3, .int x3), (4, .int x4)]) hx hb dX12_plans_255 hl (k := 3) rfl (by rw [ex5_255]; rfl) (by decide) rfl (fun ls hl => ?_)
    refine lv_goto (tgt := 239) hx hb dX12_plans_258 (by decide) ?_
    exact hk_239 x0 x3 x4 x5_255 u_252 _ _ _ h (lv_sub hl [1, 2, 3, 0] rfl) hP
theorem l_X12_plans_239 {G : Gx} {Q : Int32 → Mm → Prop} {p : Program} {l : Launch} {e : Env} {s : State} {m : MethodId} {args : Array Value} {below : List Frame} {meth : Method} {c : Code} (C : Cx G p s m c cX12_plans RX12 7) (hr : meth.sig.returnType = (some .int)) (hlk : meth.locks = false) {k_226 : Nat → Int32 → Int32 → Mm → Prop} (hk_226 : ∀ (x0 : Nat) (x3 : Int32) (x4 : Int32) (u : Mm) (H : Heap) (locs : List Loc) (ls : Array Slot), k_226 x0 x3 x4 u → lv_has ls 7 [(0, .ref x0), (3, .int x3), (4, .int x4)] → Hp G u s H locs → W p l e rm_X12_plans s m args below meth c H locs 0 0 (MQ below (Ei G Q) args s 0 0 (ag G)) (F0 m 226 ls [])) : ∀ (n : Nat) (x0 : Nat) (x3 : Int32) (x4 : Int32) (x5 : Int32) (u : Mm) (H : Heap) (locs : List Loc) (ls : Array Slot), V_X12_plans_239 G Q k_226 n x0 x3 x4 x5 u → lv_has ls 7 [(0, .ref x0), (3, .int x3), (4, .int x4), (5, .int x5)] → Hp G u s H locs → W p l e rm_X12_plans s m args below meth c H locs 0 0 (MQ below (Ei G Q) args s 0 0 (ag G)) (F0 m 239 ls []) := by
  intro n
  induction n with
  | zero => intro x0 x3 x4 x5 u H locs ls h; exact h.elim
  | succ n ih => intro x0 x3 x4 x5 u H locs ls h hl hP; exact b_X12_plans_239 C hr hlk hk_226 ih h hl hP
set_option maxHeartbeats 4000000 in
set_option maxRecDepth 100000 in
theorem b_X12_plans_226 {G : Gx} {Q : Int32 → Mm → Prop} {p : Program} {l : Launch} {e : Env} {s : State} {m : MethodId} {args : Array Value} {below : List Frame} {meth : Method} {c : Code} (C : Cx G p s m c cX12_plans RX12 7) (hr : meth.sig.returnType = (some .int)) (hlk : meth.locks = false) {k_226 : Nat → Int32 → Int32 → Mm → Prop} (hk_226 : ∀ (x0 : Nat) (x3 : Int32) (x4 : Int32) (u : Mm) (H : Heap) (locs : List Loc) (ls : Array Slot), k_226 x0 x3 x4 u → lv_has ls 7 [(0, .ref x0), (3, .int x3), (4, .int x4)] → Hp G u s H locs → W p l e rm_X12_plans s m args below meth c H locs 0 0 (MQ below (Ei G Q) args s 0 0 (ag G)) (F0 m 226 ls [])) {x0 : Nat} {x3 : Int32} {x4 : Int32} {u : Mm} {H : Heap} {locs : List Loc} {ls : Array Slot} (h : V_X12_plans_226_B G Q k_226 x0 x3 x4 u) (hl : lv_has ls 7 [(0, .ref x0), (3, .int x3), (4, .int x4)]) (hP : Hp G u s H locs) : W p l e rm_X12_plans s m args below meth c H locs 0 0 (MQ below (Ei G Q) args s 0 0 (ag G)) (F0 m 226 ls []) := by
  have hx := C.1
  have hb := C.2.1
  unfold V_X12_plans_226_B at h
  refine lv_iload hx hb dX12_plans_226 (lv_at hl 2 rfl) ?_
  refine lv_bipush (v := (82 : Int32)) hx hb dX12_plans_228 (by decide) ?_
  refine lv_icmp_ge (tgt := 267) hx hb dX12_plans_230 (by decide) (fun c230 => ?_) (fun c230 => ?_)
  · have h := h.1 c230
    refine lv_iconst (v := (0 : Int32)) hx hb dX12_plans_267 (by decide) ?_
    refine lv_istore (lv' := [(4, .int (0 : Int32)), (0, .ref x0), (3, .int x3)]) hx hb dX12_plans_268 hl (by decide) rfl (fun ls hl => ?_)
    obtain ⟨n, h⟩ := h
    exact l_X12_plans_270 C hr hlk n x0 x3 (0 : Int32) u _ _ _ h (lv_sub hl [1, 2, 0] rfl) hP
  · have h := h.2 c230
    refine lv_iload hx hb dX12_plans_233 (lv_at hl 2 rfl) ?_
    refine lv_iconst (v := (1 : Int32)) hx hb dX12_plans_235 (by decide) ?_
    refine lv_iadd hx hb dX12_plans_236 ?_
    refine lv_topi (fun x5_237 ex5_237 => ?_)
    have h := h x5_237 ex5_237
    refine lv_istore (lv' := [(5, .int x5_237), (0, .ref x0), (3, .int x3), (4, .int x4)]) hx hb dX12_plans_237 hl (by decide) rfl (fun ls hl => ?_)
    obtain ⟨n, h⟩ := h
    exact l_X12_plans_239 C hr hlk hk_226 n x0 x3 x4 x5_237 u _ _ _ h (lv_sub hl [1, 2, 3, 0] rfl) hP
theorem l_X12_plans_226 {G : Gx} {Q : Int32 → Mm → Prop} {p : Program} {l : Launch} {e : Env} {s : State} {m : MethodId} {args : Array Value} {below : List Frame} {meth : Method} {c : Code} (C : Cx G p s m c cX12_plans RX12 7) (hr : meth.sig.returnType = (some .int)) (hlk : meth.locks = false) : ∀ (n : Nat) (x0 : Nat) (x3 : Int32) (x4 : Int32) (u : Mm) (H : Heap) (locs : List Loc) (ls : Array Slot), V_X12_plans_226 G Q n x0 x3 x4 u → lv_has ls 7 [(0, .ref x0), (3, .int x3), (4, .int x4)] → Hp G u s H locs → W p l e rm_X12_plans s m args below meth c H locs 0 0 (MQ below (Ei G Q) args s 0 0 (ag G)) (F0 m 226 ls []) := by
  intro n
  induction n with
  | zero => intro x0 x3 x4 u H locs ls h; exact h.elim
  | succ n ih => intro x0 x3 x4 u H locs ls h hl hP; exact b_X12_plans_226 C hr hlk ih h hl hP
set_option maxHeartbeats 4000000 in
set_option maxRecDepth 100000 in
theorem b_X12_plans_202 {G : Gx} {Q : Int32 → Mm → Prop} {p : Program} {l : Launch} {e : Env} {s : State} {m : MethodId} {args : Array Value} {below : List Frame} {meth : Method} {c : Code} (C : Cx G p s m c cX12_plans RX12 7) (hr : meth.sig.returnType = (some .int)) (hlk : meth.locks = false) {k_202 : Nat → Int32 → Int32 → Mm → Prop} (hk_202 : ∀ (x0 : Nat) (x3 : Int32) (x4 : Int32) (u : Mm) (H : Heap) (locs : List Loc) (ls : Array Slot), k_202 x0 x3 x4 u → lv_has ls 7 [(0, .ref x0), (3, .int x3), (4, .int x4)] → Hp G u s H locs → W p l e rm_X12_plans s m args below meth c H locs 0 0 (MQ below (Ei G Q) args s 0 0 (ag G)) (F0 m 202 ls [])) {x0 : Nat} {x3 : Int32} {x4 : Int32} {u : Mm} {H : Heap} {locs : List Loc} {ls : Array Slot} (h : V_X12_plans_202_B G Q k_202 x0 x3 x4 u) (hl : lv_has ls 7 [(0, .ref x0), (3, .int x3), (4, .int x4)]) (hP : Hp G u s H locs) : W p l e rm_X12_plans s m args below meth c H locs 0 0 (MQ below (Ei G Q) args s 0 0 (ag G)) (F0 m 202 ls []) := by
  have hx := C.1
  have hb := C.2.1
  unfold V_X12_plans_202_B at h
  refine lv_iload hx hb dX12_plans_202 (lv_at hl 2 rfl) ?_
  refine lv_bipush (v := (82 : Int32)) hx hb dX12_plans_204 (by decide) ?_
  refine lv_icmp_ge (tgt := 223) hx hb dX12_plans_206 (by decide) (fun c206 => ?_) (fun c206 => ?_)
  · have h := h.1 c206
    refine lv_iconst (v := (0 : Int32)) hx hb dX12_plans_223 (by decide) ?_
    refine lv_istore (lv' := [(4, .int (0 : Int32)), (0, .ref x0), (3, .int x3)]) hx hb dX12_plans_224 hl (by decide) rfl (fun ls hl => ?_)
    obtain ⟨n, h⟩ := h
    exact l_X12_plans_226 C hr hlk n x0 x3 (0 : Int32) u _ _ _ h (lv_sub hl [1, 2, 0] rfl) hP
  · have h := h.2 c206
    refine lv_aload_n hx hb dX12_plans_209 rfl (lv_at hl 0 rfl) ?_
    refine lv_iload hx hb dX12_plans_210 (lv_at hl 2 rfl) ?_
    refine lv_iconst (v := (-1 : Int32)) hx hb dX12_plans_212 (by decide) ?_
    refine lv_iconst (v := (-1 : Int32)) hx hb dX12_plans_213 (by decide) ?_
    obtain ⟨g1, h⟩ := h
    refine q_calv (q_runV C hP (c_X12_tryPlan h) (cd_X12_tryPlan C.hA) (ini_X12 C.hA) (ml_X12_372 C.hA) (im_X12_tryPlan C.hA) (sl_X12_tryPlan C.hA) g1 (by decide) rfl hd_X12_tryPlan ⟨rfl, rfl⟩ ⟨Nat.le_of_ble_eq_true rfl, Nat.le_of_ble_eq_true rfl⟩ ⟨Nat.le_of_ble_eq_true rfl, Nat.le_of_ble_eq_true rfl⟩ hl.1 rfl (Nat.le_of_ble_eq_true rfl) dX12_plans_214) hP (fun u_214 H locs h hP => ?_)
    obtain ⟨x4_217, ex4_217⟩ : ∃ y : Int32, y = x4 + (1 : Int32) := ⟨_, rfl⟩
    have h := h x4_217 ex4_217
    refine lv_iinc (v := x4_217) (lv' := [(4, .int x4_217), (0, .ref x0), (3, .int x3)]) hx hb dX12_plans_217 hl (k := 2) rfl (by rw [ex4_217]; rfl) (by decide) rfl (fun ls hl => ?_)
    refine lv_goto (tgt := 202) hx hb dX12_plans_220 (by decide) ?_
    exact hk_202 x0 x3 x4_217 u_214 _ _ _ h (lv_sub hl [1, 2, 0] rfl) hP
theorem l_X12_plans_202 {G : Gx} {Q : Int32 → Mm → Prop} {p : Program} {l : Launch} {e : Env} {s : State} {m : MethodId} {args : Array Value} {below : List Frame} {meth : Method} {c : Code} (C : Cx G p s m c cX12_plans RX12 7) (hr : meth.sig.returnType = (some .int)) (hlk : meth.locks = false) : ∀ (n : Nat) (x0 : Nat) (x3 : Int32) (x4 : Int32) (u : Mm) (H : Heap) (locs : List Loc) (ls : Array Slot), V_X12_plans_202 G Q n x0 x3 x4 u → lv_has ls 7 [(0, .ref x0), (3, .int x3), (4, .int x4)] → Hp G u s H locs → W p l e rm_X12_plans s m args below meth c H locs 0 0 (MQ below (Ei G Q) args s 0 0 (ag G)) (F0 m 202 ls []) := by
  intro n
  induction n with
  | zero => intro x0 x3 x4 u H locs ls h; exact h.elim
  | succ n ih => intro x0 x3 x4 u H locs ls h hl hP; exact b_X12_plans_202 C hr hlk ih h hl hP
set_option maxHeartbeats 4000000 in
set_option maxRecDepth 100000 in
theorem b_X12_plans_125 {G : Gx} {Q : Int32 → Mm → Prop} {p : Program} {l : Launch} {e : Env} {s : State} {m : MethodId} {args : Array Value} {below : List Frame} {meth : Method} {c : Code} (C : Cx G p s m c cX12_plans RX12 7) (hr : meth.sig.returnType = (some .int)) (hlk : meth.locks = false) {k_113 : Nat → Int32 → Int32 → Int32 → Mm → Prop} (hk_113 : ∀ (x0 : Nat) (x2 : Int32) (x3 : Int32) (x4 : Int32) (u : Mm) (H : Heap) (locs : List Loc) (ls : Array Slot), k_113 x0 x2 x3 x4 u → lv_has ls 7 [(0, .ref x0), (2, .int x2), (3, .int x3), (4, .int x4)] → Hp G u s H locs → W p l e rm_X12_plans s m args below meth c H locs 0 0 (MQ below (Ei G Q) args s 0 0 (ag G)) (F0 m 113 ls [])) {k_125 : Nat → Int32 → Int32 → Int32 → Int32 → Mm → Prop} (hk_125 : ∀ (x0 : Nat) (x2 : Int32) (x3 : Int32) (x4 : Int32) (x5 : Int32) (u : Mm) (H : Heap) (locs : List Loc) (ls : Array Slot), k_125 x0 x2 x3 x4 x5 u → lv_has ls 7 [(0, .ref x0), (2, .int x2), (3, .int x3), (4, .int x4), (5, .int x5)] → Hp G u s H locs → W p l e rm_X12_plans s m args below meth c H locs 0 0 (MQ below (Ei G Q) args s 0 0 (ag G)) (F0 m 125 ls [])) {x0 : Nat} {x2 : Int32} {x3 : Int32} {x4 : Int32} {x5 : Int32} {u : Mm} {H : Heap} {locs : List Loc} {ls : Array Slot} (h : V_X12_plans_125_B G Q k_113 k_125 x0 x2 x3 x4 x5 u) (hl : lv_has ls 7 [(0, .ref x0), (2, .int x2), (3, .int x3), (4, .int x4), (5, .int x5)]) (hP : Hp G u s H locs) : W p l e rm_X12_plans s m args below meth c H locs 0 0 (MQ below (Ei G Q) args s 0 0 (ag G)) (F0 m 125 ls []) := by
  have hx := C.1
  have hb := C.2.1
  unfold V_X12_plans_125_B at h
  refine lv_iload hx hb dX12_plans_125 (lv_at hl 4 rfl) ?_
  refine lv_bipush (v := (82 : Int32)) hx hb dX12_plans_127 (by decide) ?_
  refine lv_icmp_ge (tgt := 181) hx hb dX12_plans_129 (by decide) (fun c129 => ?_) (fun c129 => ?_)
  · have h := h.1 c129
    obtain ⟨x4_181, ex4_181⟩ : ∃ y : Int32, y = x4 + (1 : Int32) := ⟨_, rfl⟩
    have h := h x4_181 ex4_181
    refine lv_iinc (v := x4_181) (lv' := [(4, .int x4_181), (0, .ref x0), (2, .int x2), (3, .int x3), (5, .int x5)]) hx hb dX12_plans_181 hl (k := 3) rfl (by rw [ex4_181]; rfl) (by decide) rfl (fun ls hl => ?_)
    refine lv_goto (tgt := 113) hx hb dX12_plans_184 (by decide) ?_
    exact hk_113 x0 x2 x3 x4_181 u _ _ _ h (lv_sub hl [1, 2, 3, 0] rfl) hP
  · have h := h.2 c129
    refine lv_aload_n hx hb dX12_plans_132 rfl (lv_at hl 0 rfl) ?_
    obtain ⟨g1, h⟩ := h
    obtain ⟨g2, h⟩ := h
    refine q_getR C hP (k := 38) (lay_X12 C.hA) rfl (by decide) g1 g2 (fl_X12_97 C.hA) dX12_plans_133 ?_
    refine lv_bipush (v := (82 : Int32)) hx hb dX12_plans_136 (by decide) ?_
    refine lv_iload hx hb dX12_plans_138 (lv_at hl 3 rfl) ?_
    refine lv_imul hx hb dX12_plans_140 ?_
    refine lv_iload hx hb dX12_plans_141 (lv_at hl 4 rfl) ?_
    refine lv_iadd hx hb dX12_plans_143 ?_
    refine lv_iload hx hb dX12_plans_144 (lv_at hl 4 rfl) ?_
    refine lv_aload_n hx hb dX12_plans_146 rfl (lv_at hl 0 rfl) ?_
    obtain ⟨g3, h⟩ := h
    refine q_getR C hP (k := 29) (lay_X12 C.hA) rfl (by decide) g1 g3 (fl_X12_70 C.hA) dX12_plans_147 ?_
    refine lv_aload_n hx hb dX12_plans_150 rfl (lv_at hl 0 rfl) ?_
    obtain ⟨g4, h⟩ := h
    refine q_getR C hP (k := 39) (lay_X12 C.hA) rfl (by decide) g1 g4 (fl_X12_100 C.hA) dX12_plans_151 ?_
    refine lv_iload hx hb dX12_plans_154 (lv_at hl 3 rfl) ?_
    obtain ⟨g5, h⟩ := h
    obtain ⟨g6, h⟩ := h
    refine q_iald C hP g5 g6 dX12_plans_156 ?_
    obtain ⟨g7, h⟩ := h
    obtain ⟨g8, h⟩ := h
    refine q_iald C hP g7 g8 dX12_plans_157 ?_
    refine lv_aload_n hx hb dX12_plans_158 rfl (lv_at hl 0 rfl) ?_
    obtain ⟨g9, h⟩ := h
    refine q_getR C hP (k := 30) (lay_X12 C.hA) rfl (by decide) g1 g9 (fl_X12_73 C.hA) dX12_plans_159 ?_
    refine lv_aload_n hx hb dX12_plans_162 rfl (lv_at hl 0 rfl) ?_
    refine q_getR C hP (k := 39) (lay_X12 C.hA) rfl (by decide) g1 g4 (fl_X12_100 C.hA) dX12_plans_163 ?_
    refine lv_iload hx hb dX12_plans_166 (lv_at hl 3 rfl) ?_
    refine q_iald C hP g5 g6 dX12_plans_168 ?_
    obtain ⟨g10, h⟩ := h
    obtain ⟨g11, h⟩ := h
    refine q_iald C hP g10 g11 dX12_plans_169 ?_
    refine lv_iload_n hx hb dX12_plans_170 rfl (lv_at hl 1 rfl) ?_
    refine q_cali (q_runS C hP (c_X12_tickOfLine h) (cd_X12_tickOfLine C.hA) (ini_X12 C.hA) (ml_X12_369 C.hA) (st_X12_tickOfLine C.hA) hd_X12_tickOfLine ⟨rfl, rfl⟩ ⟨Nat.le_of_ble_eq_true rfl, Nat.le_of_ble_eq_true rfl⟩ ⟨Nat.le_of_ble_eq_true rfl, Nat.le_of_ble_eq_true rfl⟩ hl.1 rfl (Nat.le_of_ble_eq_true rfl) dX12_plans_171) hP (fun v_171 u_171 H locs h hP => ?_)
    obtain ⟨g12, h⟩ := h
    obtain ⟨g13, h⟩ := h
    refine q_iast C hP g12 g13 dX12_plans_174 (fun H locs hP => ?_)
    obtain ⟨u_174, eu_174, hP⟩ := Hp.nm hP
    have h := h u_174 eu_174
    obtain ⟨x5_175, ex5_175⟩ : ∃ y : Int32, y = x5 + (1 : Int32) := ⟨_, rfl⟩
    have h := h x5_175 ex5_175
    refine lv_iinc (v := x5_175) (lv' := [(5, .int x5_175), (0, .ref x0), (2, .int x2), (3, .int x3), (4, .int x4)]) hx hb dX12_plans_175 hl (k := 4) rfl (by rw [ex5_175]; rfl) (by decide) rfl (fun ls hl => ?_)
    refine lv_goto (tgt := 125) hx hb dX12_plans_178 (by decide) ?_
    exact hk_125 x0 x2 x3 x4 x5_175 u_174 _ _ _ h (lv_sub hl [1, 2, 3, 4, 0] rfl) hP
theorem l_X12_plans_125 {G : Gx} {Q : Int32 → Mm → Prop} {p : Program} {l : Launch} {e : Env} {s : State} {m : MethodId} {args : Array Value} {below : List Frame} {meth : Method} {c : Code} (C : Cx G p s m c cX12_plans RX12 7) (hr : meth.sig.returnType = (some .int)) (hlk : meth.locks = false) {k_113 : Nat → Int32 → Int32 → Int32 → Mm → Prop} (hk_113 : ∀ (x0 : Nat) (x2 : Int32) (x3 : Int32) (x4 : Int32) (u : Mm) (H : Heap) (locs : List Loc) (ls : Array Slot), k_113 x0 x2 x3 x4 u → lv_has ls 7 [(0, .ref x0), (2, .int x2), (3, .int x3), (4, .int x4)] → Hp G u s H locs → W p l e rm_X12_plans s m args below meth c H locs 0 0 (MQ below (Ei G Q) args s 0 0 (ag G)) (F0 m 113 ls [])) : ∀ (n : Nat) (x0 : Nat) (x2 : Int32) (x3 : Int32) (x4 : Int32) (x5 : Int32) (u : Mm) (H : Heap) (locs : List Loc) (ls : Array Slot), V_X12_plans_125 G Q k_113 n x0 x2 x3 x4 x5 u → lv_has ls 7 [(0, .ref x0), (2, .int x2), (3, .int x3), (4, .int x4), (5, .int x5)] → Hp G u s H locs → W p l e rm_X12_plans s m args below meth c H locs 0 0 (MQ below (Ei G Q) args s 0 0 (ag G)) (F0 m 125 ls []) := by
  intro n
  induction n with
  | zero => intro x0 x2 x3 x4 x5 u H locs ls h; exact h.elim
  | succ n ih => intro x0 x2 x3 x4 x5 u H locs ls h hl hP; exact b_X12_plans_125 C hr hlk hk_113 ih h hl hP
set_option maxHeartbeats 4000000 in
set_option maxRecDepth 100000 in
theorem b_X12_plans_113 {G : Gx} {Q : Int32 → Mm → Prop} {p : Program} {l : Launch} {e : Env} {s : State} {m : MethodId} {args : Array Value} {below : List Frame} {meth : Method} {c : Code} (C : Cx G p s m c cX12_plans RX12 7) (hr : meth.sig.returnType = (some .int)) (hlk : meth.locks = false) {k_113 : Nat → Int32 → Int32 → Int32 → Mm → Prop} (hk_113 : ∀ (x0 : Nat) (x2 : Int32) (x3 : Int32) (x4 : Int32) (u : Mm) (H : Heap) (locs : List Loc) (ls : Array Slot), k_113 x0 x2 x3 x4 u → lv_has ls 7 [(0, .ref x0), (2, .int x2), (3, .int x3), (4, .int x4)] → Hp G u s H locs → W p l e rm_X12_plans s m args below meth c H locs 0 0 (MQ below (Ei G Q) args s 0 0 (ag G)) (F0 m 113 ls [])) {x0 : Nat} {x2 : Int32} {x3 : Int32} {x4 : Int32} {u : Mm} {H : Heap} {locs : List Loc} {ls : Array Slot} (h : V_X12_plans_113_B G Q k_113 x0 x2 x3 x4 u) (hl : lv_has ls 7 [(0, .ref x0), (2, .int x2), (3, .int x3), (4, .int x4)]) (hP : Hp G u s H locs) : W p l e rm_X12_plans s m args below meth c H locs 0 0 (MQ below (Ei G Q) args s 0 0 (ag G)) (F0 m 113 ls []) := by
  have hx := C.1
  have hb := C.2.1
  unfold V_X12_plans_113_B at h
  refine lv_iload hx hb dX12_plans_113 (lv_at hl 3 rfl) ?_
  refine lv_aload_n hx hb dX12_plans_115 rfl (lv_at hl 0 rfl) ?_
  obtain ⟨g1, h⟩ := h
  refine q_getI C hP (k := 41) (lay_X12 C.hA) rfl (by decide) g1 (fl_X12_360 C.hA) dX12_plans_116 ?_
  refine lv_icmp_ge (tgt := 187) hx hb dX12_plans_119 (by decide) (fun c119 => ?_) (fun c119 => ?_)
  · have h := h.1 c119
    refine lv_aload_n hx hb dX12_plans_187 rfl (lv_at hl 0 rfl) ?_
    refine lv_iconst (v := (0 : Int32)) hx hb dX12_plans_188 (by decide) ?_
    refine q_putI C hP (k := 42) tyX12_ok nmX12 (lay_X12 C.hA) rfl (by decide) rfl rfl rfl rfl g1 (fl_X12_366 C.hA) dX12_plans_189 (fun H locs hP => ?_)
    obtain ⟨u_189, eu_189, hP⟩ := Hp.nm hP
    have h := h u_189 eu_189
    refine lv_aload_n hx hb dX12_plans_192 rfl (lv_at hl 0 rfl) ?_
    refine lv_iconst (v := (-1 : Int32)) hx hb dX12_plans_193 (by decide) ?_
    refine lv_iconst (v := (-1 : Int32)) hx hb dX12_plans_194 (by decide) ?_
    refine lv_iconst (v := (-1 : Int32)) hx hb dX12_plans_195 (by decide) ?_
    refine q_calv (q_runV C hP (c_X12_tryPlan h) (cd_X12_tryPlan C.hA) (ini_X12 C.hA) (ml_X12_372 C.hA) (im_X12_tryPlan C.hA) (sl_X12_tryPlan C.hA) g1 (by decide) rfl hd_X12_tryPlan ⟨rfl, rfl⟩ ⟨Nat.le_of_ble_eq_true rfl, Nat.le_of_ble_eq_true rfl⟩ ⟨Nat.le_of_ble_eq_true rfl, Nat.le_of_ble_eq_true rfl⟩ hl.1 rfl (Nat.le_of_ble_eq_true rfl) dX12_plans_196) hP (fun u_196 H locs h hP => ?_)
    refine lv_iconst (v := (0 : Int32)) hx hb dX12_plans_199 (by decide) ?_
    refine lv_istore (lv' := [(4, .int (0 : Int32)), (0, .ref x0), (2, .int x2), (3, .int x3)]) hx hb dX12_plans_200 hl (by decide) rfl (fun ls hl => ?_)
    obtain ⟨n, h⟩ := h
    exact l_X12_plans_202 C hr hlk n x0 x3 (0 : Int32) u_196 _ _ _ h (lv_sub hl [1, 3, 0] rfl) hP
  · have h := h.2 c119
    refine lv_iconst (v := (0 : Int32)) hx hb dX12_plans_122 (by decide) ?_
    refine lv_istore (lv' := [(5, .int (0 : Int32)), (0, .ref x0), (2, .int x2), (3, .int x3), (4, .int x4)]) hx hb dX12_plans_123 hl (by decide) rfl (fun ls hl => ?_)
    obtain ⟨n, h⟩ := h
    exact l_X12_plans_125 C hr hlk hk_113 n x0 x2 x3 x4 (0 : Int32) u _ _ _ h (lv_sub hl [1, 2, 3, 4, 0] rfl) hP
theorem l_X12_plans_113 {G : Gx} {Q : Int32 → Mm → Prop} {p : Program} {l : Launch} {e : Env} {s : State} {m : MethodId} {args : Array Value} {below : List Frame} {meth : Method} {c : Code} (C : Cx G p s m c cX12_plans RX12 7) (hr : meth.sig.returnType = (some .int)) (hlk : meth.locks = false) : ∀ (n : Nat) (x0 : Nat) (x2 : Int32) (x3 : Int32) (x4 : Int32) (u : Mm) (H : Heap) (locs : List Loc) (ls : Array Slot), V_X12_plans_113 G Q n x0 x2 x3 x4 u → lv_has ls 7 [(0, .ref x0), (2, .int x2), (3, .int x3), (4, .int x4)] → Hp G u s H locs → W p l e rm_X12_plans s m args below meth c H locs 0 0 (MQ below (Ei G Q) args s 0 0 (ag G)) (F0 m 113 ls []) := by
  intro n
  induction n with
  | zero => intro x0 x2 x3 x4 u H locs ls h; exact h.elim
  | succ n ih => intro x0 x2 x3 x4 u H locs ls h hl hP; exact b_X12_plans_113 C hr hlk ih h hl hP
set_option maxHeartbeats 4000000 in
set_option maxRecDepth 100000 in
theorem b_X12_plans_104 {G : Gx} {Q : Int32 → Mm → Prop} {p : Program} {l : Launch} {e : Env} {s : State} {m : MethodId} {args : Array Value} {below : List Frame} {meth : Method} {c : Code} (C : Cx G p s m c cX12_plans RX12 7) (hr : meth.sig.returnType = (some .int)) (hlk : meth.locks = false) {x0 : Nat} {u : Mm} {H : Heap} {locs : List Loc} {ls : Array Slot} (h : V_X12_plans_104 G Q x0 u) (hl : lv_has ls 7 [(0, .ref x0)]) (hP : Hp G u s H locs) : W p l e rm_X12_plans s m args below meth c H locs 0 0 (MQ below (Ei G Q) args s 0 0 (ag G)) (F0 m 104 ls []) := by
  have hx := C.1
  have hb := C.2.1
  unfold V_X12_plans_104 at h
  refine lv_aload_n hx hb dX12_plans_104 rfl (lv_at hl 0 rfl) ?_
  refine lv_iconst (v := (2 : Int32)) hx hb dX12_plans_105 (by decide) ?_
  obtain ⟨g1, h⟩ := h
  refine q_cali (q_runV C hP (c_X12_fail h) (cd_X12_fail C.hA) (ini_X12 C.hA) (ml_X12_249 C.hA) (im_X12_fail C.hA) (sl_X12_fail C.hA) g1 (by decide) rfl hd_X12_fail ⟨rfl, rfl⟩ ⟨Nat.le_of_ble_eq_true rfl, Nat.le_of_ble_eq_true rfl⟩ ⟨Nat.le_of_ble_eq_true rfl, Nat.le_of_ble_eq_true rfl⟩ hl.1 rfl (Nat.le_of_ble_eq_true rfl) dX12_plans_106) hP (fun v_106 u_106 H locs h hP => ?_)
  exact q_iret C hr hlk hP h (by decide) (by decide) dX12_plans_109
set_option maxHeartbeats 4000000 in
set_option maxRecDepth 100000 in
theorem b_X12_plans_79 {G : Gx} {Q : Int32 → Mm → Prop} {p : Program} {l : Launch} {e : Env} {s : State} {m : MethodId} {args : Array Value} {below : List Frame} {meth : Method} {c : Code} (C : Cx G p s m c cX12_plans RX12 7) (hr : meth.sig.returnType = (some .int)) (hlk : meth.locks = false) {k_26 : Nat → Int32 → Int32 → Int32 → Int32 → Mm → Prop} (hk_26 : ∀ (x0 : Nat) (x1 : Int32) (x2 : Int32) (x3 : Int32) (x4 : Int32) (u : Mm) (H : Heap) (locs : List Loc) (ls : Array Slot), k_26 x0 x1 x2 x3 x4 u → lv_has ls 7 [(0, .ref x0), (1, .int x1), (2, .int x2), (3, .int x3), (4, .int x4)] → Hp G u s H locs → W p l e rm_X12_plans s m args below meth c H locs 0 0 (MQ below (Ei G Q) args s 0 0 (ag G)) (F0 m 26 ls [])) {x0 : Nat} {x1 : Int32} {x2 : Int32} {x3 : Int32} {x4 : Int32} {u : Mm} {H : Heap} {locs : List Loc} {ls : Array Slot} (h : V_X12_plans_79 G Q k_26 x0 x1 x2 x3 x4 u) (hl : lv_has ls 7 [(0, .ref x0), (1, .int x1), (2, .int x2), (3, .int x3), (4, .int x4)]) (hP : Hp G u s H locs) : W p l e rm_X12_plans s m args below meth c H locs 0 0 (MQ below (Ei G Q) args s 0 0 (ag G)) (F0 m 79 ls []) := by
  have hx := C.1
  have hb := C.2.1
  unfold V_X12_plans_79 at h
  obtain ⟨x4_79, ex4_79⟩ : ∃ y : Int32, y = x4 + (1 : Int32) := ⟨_, rfl⟩
  have h := h x4_79 ex4_79
  refine lv_iinc (v := x4_79) (lv' := [(4, .int x4_79), (0, .ref x0), (1, .int x1), (2, .int x2), (3, .int x3)]) hx hb dX12_plans_79 hl (k := 4) rfl (by rw [ex4_79]; rfl) (by decide) rfl (fun ls hl => ?_)
  refine lv_goto (tgt := 26) hx hb dX12_plans_82 (by decide) ?_
  exact hk_26 x0 x1 x2 x3 x4_79 u _ _ _ h (lv_sub hl [1, 2, 3, 4, 0] rfl) hP
set_option maxHeartbeats 4000000 in
set_option maxRecDepth 100000 in
theorem b_X12_plans_26 {G : Gx} {Q : Int32 → Mm → Prop} {p : Program} {l : Launch} {e : Env} {s : State} {m : MethodId} {args : Array Value} {below : List Frame} {meth : Method} {c : Code} (C : Cx G p s m c cX12_plans RX12 7) (hr : meth.sig.returnType = (some .int)) (hlk : meth.locks = false) {k_26 : Nat → Int32 → Int32 → Int32 → Int32 → Mm → Prop} (hk_26 : ∀ (x0 : Nat) (x1 : Int32) (x2 : Int32) (x3 : Int32) (x4 : Int32) (u : Mm) (H : Heap) (locs : List Loc) (ls : Array Slot), k_26 x0 x1 x2 x3 x4 u → lv_has ls 7 [(0, .ref x0), (1, .int x1), (2, .int x2), (3, .int x3), (4, .int x4)] → Hp G u s H locs → W p l e rm_X12_plans s m args below meth c H locs 0 0 (MQ below (Ei G Q) args s 0 0 (ag G)) (F0 m 26 ls [])) {x0 : Nat} {x1 : Int32} {x2 : Int32} {x3 : Int32} {x4 : Int32} {u : Mm} {H : Heap} {locs : List Loc} {ls : Array Slot} (h : V_X12_plans_26_B G Q k_26 x0 x1 x2 x3 x4 u) (hl : lv_has ls 7 [(0, .ref x0), (1, .int x1), (2, .int x2), (3, .int x3), (4, .int x4)]) (hP : Hp G u s H locs) : W p l e rm_X12_plans s m args below meth c H locs 0 0 (MQ below (Ei G Q) args s 0 0 (ag G)) (F0 m 26 ls []) := by
  have hx := C.1
  have hb := C.2.1
  unfold V_X12_plans_26_B at h
  refine lv_iload hx hb dX12_plans_26 (lv_at hl 4 rfl) ?_
  refine lv_aload_n hx hb dX12_plans_28 rfl (lv_at hl 0 rfl) ?_
  obtain ⟨g1, h⟩ := h
  refine q_getI C hP (k := 27) (lay_X12 C.hA) rfl (by decide) g1 (fl_X12_255 C.hA) dX12_plans_29 ?_
  refine lv_icmp_ge (tgt := 85) hx hb dX12_plans_32 (by decide) (fun c32 => ?_) (fun c32 => ?_)
  · have h := h.1 c32
    refine lv_iload_n hx hb dX12_plans_85 rfl (lv_at hl 2 rfl) ?_
    refine lv_bipush (v := (50 : Int32)) hx hb dX12_plans_86 (by decide) ?_
    refine lv_sipush (v := (150 : Int32)) hx hb dX12_plans_88 (by decide) ?_
    refine q_cali (q_runS C hP (c_X12_isIn h) (cd_X12_isIn C.hA) (ini_X12 C.hA) (ml_X12_150 C.hA) (st_X12_isIn C.hA) hd_X12_isIn ⟨rfl, rfl⟩ ⟨Nat.le_of_ble_eq_true rfl, Nat.le_of_ble_eq_true rfl⟩ ⟨Nat.le_of_ble_eq_true rfl, Nat.le_of_ble_eq_true rfl⟩ hl.1 rfl (Nat.le_of_ble_eq_true rfl) dX12_plans_91) hP (fun v_91 u_91 H locs h hP => ?_)
    refine lv_if_eq (tgt := 104) hx hb dX12_plans_94 (by decide) (fun c94 => ?_) (fun c94 => ?_)
    · have h := h.1 c94
      exact b_X12_plans_104 C hr hlk h (lv_sub hl [0] rfl) hP
    · have h := h.2 c94
      refine lv_aload_n hx hb dX12_plans_97 rfl (lv_at hl 0 rfl) ?_
      refine q_getI C hP (k := 41) (lay_X12 C.hA) rfl (by decide) g1 (fl_X12_360 C.hA) dX12_plans_98 ?_
      refine lv_if_ne (tgt := 110) hx hb dX12_plans_101 (by decide) (fun c101 => ?_) (fun c101 => ?_)
      · have h := h.2 c101
        refine lv_iconst (v := (0 : Int32)) hx hb dX12_plans_110 (by decide) ?_
        refine lv_istore (lv' := [(4, .int (0 : Int32)), (0, .ref x0), (1, .int x1), (2, .int x2), (3, .int x3)]) hx hb dX12_plans_111 hl (by decide) rfl (fun ls hl => ?_)
        obtain ⟨n, h⟩ := h
        exact l_X12_plans_113 C hr hlk n x0 x2 x3 (0 : Int32) u_91 _ _ _ h (lv_sub hl [1, 3, 4, 0] rfl) hP
      · have h := h.1 c101
        exact b_X12_plans_104 C hr hlk h (lv_sub hl [0] rfl) hP
  · have h := h.2 c32
    refine lv_aload_n hx hb dX12_plans_35 rfl (lv_at hl 0 rfl) ?_
    refine lv_iload hx hb dX12_plans_36 (lv_at hl 4 rfl) ?_
    refine q_cali (q_runV C hP (c_X12_isNamed h) (cd_X12_isNamed C.hA) (ini_X12 C.hA) (ml_X12_348 C.hA) (im_X12_isNamed C.hA) (sl_X12_isNamed C.hA) g1 (by decide) rfl hd_X12_isNamed ⟨rfl, rfl⟩ ⟨Nat.le_of_ble_eq_true rfl, Nat.le_of_ble_eq_true rfl⟩ ⟨Nat.le_of_ble_eq_true rfl, Nat.le_of_ble_eq_true rfl⟩ hl.1 rfl (Nat.le_of_ble_eq_true rfl) dX12_plans_38) hP (fun v_38 u_38 H locs h hP => ?_)
    refine lv_if_eq (tgt := 79) hx hb dX12_plans_41 (by decide) (fun c41 => ?_) (fun c41 => ?_)
    · have h := h.1 c41
      exact b_X12_plans_79 C hr hlk hk_26 h (lv_sub hl [0, 1, 2, 3, 4] rfl) hP
    · have h := h.2 c41
      refine lv_aload_n hx hb dX12_plans_44 rfl (lv_at hl 0 rfl) ?_
      obtain ⟨g2, h⟩ := h
      refine q_getR C hP (k := 31) (lay_X12 C.hA) rfl (by decide) g1 g2 (fl_X12_76 C.hA) dX12_plans_45 ?_
      refine lv_iload hx hb dX12_plans_48 (lv_at hl 4 rfl) ?_
      obtain ⟨g3, h⟩ := h
      obtain ⟨g4, h⟩ := h
      refine q_iald C hP g3 g4 dX12_plans_50 ?_
      refine lv_iload_n hx hb dX12_plans_51 rfl (lv_at hl 1 rfl) ?_
      refine lv_icmp_eq (tgt := 58) hx hb dX12_plans_52 (by decide) (fun c52 => ?_) (fun c52 => ?_)
      · have h := h.1 c52
        refine lv_aload_n hx hb dX12_plans_58 rfl (lv_at hl 0 rfl) ?_
        obtain ⟨g5, h⟩ := h
        refine q_getR C hP (k := 39) (lay_X12 C.hA) rfl (by decide) g1 g5 (fl_X12_100 C.hA) dX12_plans_59 ?_
        refine lv_aload_n hx hb dX12_plans_62 rfl (lv_at hl 0 rfl) ?_
        refine q_getI C hP (k := 41) (lay_X12 C.hA) rfl (by decide) g1 (fl_X12_360 C.hA) dX12_plans_63 ?_
        refine lv_iload hx hb dX12_plans_66 (lv_at hl 4 rfl) ?_
        obtain ⟨g6, h⟩ := h
        obtain ⟨g7, h⟩ := h
        refine q_iast C hP g6 g7 dX12_plans_68 (fun H locs hP => ?_)
        obtain ⟨u_68, eu_68, hP⟩ := Hp.nm hP
        have h := h u_68 eu_68
        refine lv_aload_n hx hb dX12_plans_69 rfl (lv_at hl 0 rfl) ?_
        refine lv_dup hx hb dX12_plans_70 rfl ?_
        refine q_getI C hP (k := 41) (lay_X12 C.hA) rfl (by decide) g1 (fl_X12_360 C.hA) dX12_plans_71 ?_
        refine lv_iconst (v := (1 : Int32)) hx hb dX12_plans_74 (by decide) ?_
        refine lv_iadd hx hb dX12_plans_75 ?_
        refine q_putI C hP (k := 41) tyX12_ok nmX12 (lay_X12 C.hA) rfl (by decide) rfl rfl rfl rfl g1 (fl_X12_360 C.hA) dX12_plans_76 (fun H locs hP => ?_)
        obtain ⟨u_76, eu_76, hP⟩ := Hp.nm hP
        have h := h u_76 eu_76
        exact b_X12_plans_79 C hr hlk hk_26 h (lv_sub hl [0, 1, 2, 3, 4] rfl) hP
      · have h := h.2 c52
        refine lv_goto (tgt := 79) hx hb dX12_plans_55 (by decide) ?_
        exact b_X12_plans_79 C hr hlk hk_26 h (lv_sub hl [0, 1, 2, 3, 4] rfl) hP
theorem l_X12_plans_26 {G : Gx} {Q : Int32 → Mm → Prop} {p : Program} {l : Launch} {e : Env} {s : State} {m : MethodId} {args : Array Value} {below : List Frame} {meth : Method} {c : Code} (C : Cx G p s m c cX12_plans RX12 7) (hr : meth.sig.returnType = (some .int)) (hlk : meth.locks = false) : ∀ (n : Nat) (x0 : Nat) (x1 : Int32) (x2 : Int32) (x3 : Int32) (x4 : Int32) (u : Mm) (H : Heap) (locs : List Loc) (ls : Array Slot), V_X12_plans_26 G Q n x0 x1 x2 x3 x4 u → lv_has ls 7 [(0, .ref x0), (1, .int x1), (2, .int x2), (3, .int x3), (4, .int x4)] → Hp G u s H locs → W p l e rm_X12_plans s m args below meth c H locs 0 0 (MQ below (Ei G Q) args s 0 0 (ag G)) (F0 m 26 ls []) := by
  intro n
  induction n with
  | zero => intro x0 x1 x2 x3 x4 u H locs ls h; exact h.elim
  | succ n ih => intro x0 x1 x2 x3 x4 u H locs ls h hl hP; exact b_X12_plans_26 C hr hlk ih h hl hP
set_option maxHeartbeats 4000000 in
set_option maxRecDepth 100000 in
theorem c_X12_plans {l : Launch} {G : Gx} {p0 : Nat} {p1 : Int32} {p2 : Int32} {p3 : Int32} {u : Mm} {Q : Int32 → Mm → Prop} (h : V_X12_plans G p0 p1 p2 p3 u Q) : Met l yX12_plans [.code yX12_plans cX12_plans 7 (some .int)] rm_X12_plans (va_Pc [.ref p0, .int p1, .int p2, .int p3] (Wd G u)) (Ei G Q) 0 0 (ag G) := by
  refine q_met (by decide) (Nat.le_of_ble_eq_true rfl) ?_
  intro p e s m below meth c ls C hr hlk hnm hl hP
  have hl : lv_has ls 7 [(0, .ref p0), (1, .int p1), (2, .int p2), (3, .int p3)] := hl
  generalize ([.ref p0, .int p1, .int p2, .int p3] : List Value).toArray = args
  have hx := C.1
  have hb := C.2.1
  unfold V_X12_plans at h
  refine lv_aload_n hx hb dX12_plans_0 rfl (lv_at hl 0 rfl) ?_
  refine lv_iconst (v := (0 : Int32)) hx hb dX12_plans_1 (by decide) ?_
  obtain ⟨g1, h⟩ := h
  refine q_putI C hP (k := 1) tyX12_ok nmX12 (lay_X12 C.hA) rfl (by decide) rfl rfl rfl rfl g1 (fl_X12_147 C.hA) dX12_plans_2 (fun H locs hP => ?_)
  obtain ⟨u_2, eu_2, hP⟩ := Hp.nm hP
  have h := h u_2 eu_2
  refine lv_iload_n hx hb dX12_plans_5 rfl (lv_at hl 1 rfl) ?_
  refine q_cali (q_runS C hP (c_X12_isYear h) (cd_X12_isYear C.hA) (ini_X12 C.hA) (ml_X12_333 C.hA) (st_X12_isYear C.hA) hd_X12_isYear ⟨rfl, rfl⟩ ⟨Nat.le_of_ble_eq_true rfl, Nat.le_of_ble_eq_true rfl⟩ ⟨Nat.le_of_ble_eq_true rfl, Nat.le_of_ble_eq_true rfl⟩ hl.1 rfl (Nat.le_of_ble_eq_true rfl) dX12_plans_6) hP (fun v_6 u_6 H locs h hP => ?_)
  refine lv_if_ne (tgt := 18) hx hb dX12_plans_9 (by decide) (fun c9 => ?_) (fun c9 => ?_)
  · have h := h.2 c9
    refine lv_aload_n hx hb dX12_plans_18 rfl (lv_at hl 0 rfl) ?_
    refine lv_iconst (v := (0 : Int32)) hx hb dX12_plans_19 (by decide) ?_
    refine q_putI C hP (k := 41) tyX12_ok nmX12 (lay_X12 C.hA) rfl (by decide) rfl rfl rfl rfl g1 (fl_X12_360 C.hA) dX12_plans_20 (fun H locs hP => ?_)
    obtain ⟨u_20, eu_20, hP⟩ := Hp.nm hP
    have h := h u_20 eu_20
    refine lv_iconst (v := (0 : Int32)) hx hb dX12_plans_23 (by decide) ?_
    refine lv_istore (lv' := [(4, .int (0 : Int32)), (0, .ref p0), (1, .int p1), (2, .int p2), (3, .int p3)]) hx hb dX12_plans_24 hl (by decide) rfl (fun ls hl => ?_)
    obtain ⟨n, h⟩ := h
    exact l_X12_plans_26 C hr hlk n p0 p1 p2 p3 (0 : Int32) u_20 _ _ _ h (lv_sub hl [1, 2, 3, 4, 0] rfl) hP
  · have h := h.1 c9
    refine lv_aload_n hx hb dX12_plans_12 rfl (lv_at hl 0 rfl) ?_
    refine lv_iconst (v := (1 : Int32)) hx hb dX12_plans_13 (by decide) ?_
    refine q_cali (q_runV C hP (c_X12_fail h) (cd_X12_fail C.hA) (ini_X12 C.hA) (ml_X12_249 C.hA) (im_X12_fail C.hA) (sl_X12_fail C.hA) g1 (by decide) rfl hd_X12_fail ⟨rfl, rfl⟩ ⟨Nat.le_of_ble_eq_true rfl, Nat.le_of_ble_eq_true rfl⟩ ⟨Nat.le_of_ble_eq_true rfl, Nat.le_of_ble_eq_true rfl⟩ hl.1 rfl (Nat.le_of_ble_eq_true rfl) dX12_plans_14) hP (fun v_14 u_14 H locs h hP => ?_)
    exact q_iret C hr hlk hP h (by decide) (by decide) dX12_plans_17
-- X12_spot
abbrev rm_X12_spot : Room := { frames := 2, cells := 0, slots := 0, locals := 43 }
theorem hd_X12_spot : yX12_spot.cls ≠ "java/lang/invoke/MethodHandle" ∧ yX12_spot.cls ≠ "java/lang/invoke/VarHandle" ∧ (parseMethodDescriptor yX12_spot.desc).map (fun d => d.parameters.length) = some 2 := by decide +kernel
def V_X12_spot_22 (G : Gx) (Q : Int32 → Mm → Prop) (x0 : Nat) (u : Mm) : Prop :=
  kd G x0 = 12 ∧ (gR u x0 10) ≠ 0 ∧ kd G (gR u x0 10) = 13 ∧ vp_in (3 : Int32) (ln G (gR u x0 10)) ∧ ∀ u_31 : Mm, u_31 = sI u (gR u x0 10) (3 : Int32).toNatClampNeg ((gI u (gR u x0 10) (3 : Int32).toNatClampNeg) + (1 : Int32)) → Q (-1 : Int32) u_31
def V_X12_spot (G : Gx) (p0 : Nat) (p1 : Int32) (p2 : Int32) (u : Mm) (Q : Int32 → Mm → Prop) : Prop :=
  kd G p0 = 12 ∧ ∀ u_2 : Mm, u_2 = sI u p0 1 (0 : Int32) → (((gI u_2 p0 28) = (8 : Int32) → V_X12_spot_22 G Q p0 u_2) ∧ (¬ (gI u_2 p0 28) = (8 : Int32) → V_X12_isPlace G p1 p2 u_2 (fun (v_16 : Int32) (u_16 : Mm) => ((v_16 = 0 → V_X12_spot_22 G Q p0 u_16) ∧ (¬ v_16 = 0 → (gR u_16 p0 36) ≠ 0 ∧ kd G (gR u_16 p0 36) = 13 ∧ vp_in (gI u_16 p0 28) (ln G (gR u_16 p0 36)) ∧ ∀ u_43 : Mm, u_43 = sI u_16 (gR u_16 p0 36) (gI u_16 p0 28).toNatClampNeg p1 → (gR u_43 p0 37) ≠ 0 ∧ kd G (gR u_43 p0 37) = 13 ∧ vp_in (gI u_43 p0 28) (ln G (gR u_43 p0 37)) ∧ ∀ u_53 : Mm, u_53 = sI u_43 (gR u_43 p0 37) (gI u_43 p0 28).toNatClampNeg p2 → ∀ u_61 : Mm, u_61 = sI u_53 p0 28 ((gI u_53 p0 28) + (1 : Int32)) → Q ((gI u_61 p0 28) - (1 : Int32)) u_61)))))
set_option maxHeartbeats 4000000 in
set_option maxRecDepth 100000 in
theorem b_X12_spot_22 {G : Gx} {Q : Int32 → Mm → Prop} {p : Program} {l : Launch} {e : Env} {s : State} {m : MethodId} {args : Array Value} {below : List Frame} {meth : Method} {c : Code} (C : Cx G p s m c cX12_spot RX12 3) (hr : meth.sig.returnType = (some .int)) (hlk : meth.locks = false) {x0 : Nat} {u : Mm} {H : Heap} {locs : List Loc} {ls : Array Slot} (h : V_X12_spot_22 G Q x0 u) (hl : lv_has ls 3 [(0, .ref x0)]) (hP : Hp G u s H locs) : W p l e rm_X12_spot s m args below meth c H locs 0 0 (MQ below (Ei G Q) args s 0 0 (ag G)) (F0 m 22 ls []) := by
  have hx := C.1
  have hb := C.2.1
  unfold V_X12_spot_22 at h
  refine lv_aload_n hx hb dX12_spot_22 rfl (lv_at hl 0 rfl) ?_
  obtain ⟨g1, h⟩ := h
  obtain ⟨g2, h⟩ := h
  refine q_getR C hP (k := 10) (lay_X12 C.hA) rfl (by decide) g1 g2 (fl_X12_48 C.hA) dX12_spot_23 ?_
  refine lv_iconst (v := (3 : Int32)) hx hb dX12_spot_26 (by decide) ?_
  refine lv_dup2_11 hx hb dX12_spot_27 rfl rfl ?_
  obtain ⟨g3, h⟩ := h
  obtain ⟨g4, h⟩ := h
  refine q_iald C hP g3 g4 dX12_spot_28 ?_
  refine lv_iconst (v := (1 : Int32)) hx hb dX12_spot_29 (by decide) ?_
  refine lv_iadd hx hb dX12_spot_30 ?_
  refine q_iast C hP g3 g4 dX12_spot_31 (fun H locs hP => ?_)
  obtain ⟨u_31, eu_31, hP⟩ := Hp.nm hP
  have h := h u_31 eu_31
  refine lv_iconst (v := (-1 : Int32)) hx hb dX12_spot_32 (by decide) ?_
  exact q_iret C hr hlk hP h (by decide) (by decide) dX12_spot_33
set_option maxHeartbeats 4000000 in
set_option maxRecDepth 100000 in
theorem c_X12_spot {l : Launch} {G : Gx} {p0 : Nat} {p1 : Int32} {p2 : Int32} {u : Mm} {Q : Int32 → Mm → Prop} (h : V_X12_spot G p0 p1 p2 u Q) : Met l yX12_spot [.code yX12_spot cX12_spot 3 (some .int)] rm_X12_spot (va_Pc [.ref p0, .int p1, .int p2] (Wd G u)) (Ei G Q) 0 0 (ag G) := by
  refine q_met (by decide) (Nat.le_of_ble_eq_true rfl) ?_
  intro p e s m below meth c ls C hr hlk hnm hl hP
  have hl : lv_has ls 3 [(0, .ref p0), (1, .int p1), (2, .int p2)] := hl
  generalize ([.ref p0, .int p1, .int p2] : List Value).toArray = args
  have hx := C.1
  have hb := C.2.1
  unfold V_X12_spot at h
  refine lv_aload_n hx hb dX12_spot_0 rfl (lv_at hl 0 rfl) ?_
  refine lv_iconst (v := (0 : Int32)) hx hb dX12_spot_1 (by decide) ?_
  obtain ⟨g1, h⟩ := h
  refine q_putI C hP (k := 1) tyX12_ok nmX12 (lay_X12 C.hA) rfl (by decide) rfl rfl rfl rfl g1 (fl_X12_147 C.hA) dX12_spot_2 (fun H locs hP => ?_)
  obtain ⟨u_2, eu_2, hP⟩ := Hp.nm hP
  have h := h u_2 eu_2
  refine lv_aload_n hx hb dX12_spot_5 rfl (lv_at hl 0 rfl) ?_
  refine q_getI C hP (k := 28) (lay_X12 C.hA) rfl (by decide) g1 (fl_X12_258 C.hA) dX12_spot_6 ?_
  refine lv_bipush (v := (8 : Int32)) hx hb dX12_spot_9 (by decide) ?_
  refine lv_icmp_eq (tgt := 22) hx hb dX12_spot_11 (by decide) (fun c11 => ?_) (fun c11 => ?_)
  · have h := h.1 c11
    exact b_X12_spot_22 C hr hlk h (lv_sub hl [0] rfl) hP
  · have h := h.2 c11
    refine lv_iload_n hx hb dX12_spot_14 rfl (lv_at hl 1 rfl) ?_
    refine lv_iload_n hx hb dX12_spot_15 rfl (lv_at hl 2 rfl) ?_
    refine q_cali (q_runS C hP (c_X12_isPlace h) (cd_X12_isPlace C.hA) (ini_X12 C.hA) (ml_X12_330 C.hA) (st_X12_isPlace C.hA) hd_X12_isPlace ⟨rfl, rfl⟩ ⟨Nat.le_of_ble_eq_true rfl, Nat.le_of_ble_eq_true rfl⟩ ⟨Nat.le_of_ble_eq_true rfl, Nat.le_of_ble_eq_true rfl⟩ hl.1 rfl (Nat.le_of_ble_eq_true rfl) dX12_spot_16) hP (fun v_16 u_16 H locs h hP => ?_)
    refine lv_if_ne (tgt := 34) hx hb dX12_spot_19 (by decide) (fun c19 => ?_) (fun c19 => ?_)
    · have h := h.2 c19
      refine lv_aload_n hx hb dX12_spot_34 rfl (lv_at hl 0 rfl) ?_
      obtain ⟨g2, h⟩ := h
      refine q_getR C hP (k := 36) (lay_X12 C.hA) rfl (by decide) g1 g2 (fl_X12_91 C.hA) dX12_spot_35 ?_
      refine lv_aload_n hx hb dX12_spot_38 rfl (lv_at hl 0 rfl) ?_
      refine q_getI C hP (k := 28) (lay_X12 C.hA) rfl (by decide) g1 (fl_X12_258 C.hA) dX12_spot_39 ?_
      refine lv_iload_n hx hb dX12_spot_42 rfl (lv_at hl 1 rfl) ?_
      obtain ⟨g3, h⟩ := h
      obtain ⟨g4, h⟩ := h
      refine q_iast C hP g3 g4 dX12_spot_43 (fun H locs hP => ?_)
      obtain ⟨u_43, eu_43, hP⟩ := Hp.nm hP
      have h := h u_43 eu_43
      refine lv_aload_n hx hb dX12_spot_44 rfl (lv_at hl 0 rfl) ?_
      obtain ⟨g5, h⟩ := h
      refine q_getR C hP (k := 37) (lay_X12 C.hA) rfl (by decide) g1 g5 (fl_X12_94 C.hA) dX12_spot_45 ?_
      refine lv_aload_n hx hb dX12_spot_48 rfl (lv_at hl 0 rfl) ?_
      refine q_getI C hP (k := 28) (lay_X12 C.hA) rfl (by decide) g1 (fl_X12_258 C.hA) dX12_spot_49 ?_
      refine lv_iload_n hx hb dX12_spot_52 rfl (lv_at hl 2 rfl) ?_
      obtain ⟨g6, h⟩ := h
      obtain ⟨g7, h⟩ := h
      refine q_iast C hP g6 g7 dX12_spot_53 (fun H locs hP => ?_)
      obtain ⟨u_53, eu_53, hP⟩ := Hp.nm hP
      have h := h u_53 eu_53
      refine lv_aload_n hx hb dX12_spot_54 rfl (lv_at hl 0 rfl) ?_
      refine lv_dup hx hb dX12_spot_55 rfl ?_
      refine q_getI C hP (k := 28) (lay_X12 C.hA) rfl (by decide) g1 (fl_X12_258 C.hA) dX12_spot_56 ?_
      refine lv_iconst (v := (1 : Int32)) hx hb dX12_spot_59 (by decide) ?_
      refine lv_iadd hx hb dX12_spot_60 ?_
      refine q_putI C hP (k := 28) tyX12_ok nmX12 (lay_X12 C.hA) rfl (by decide) rfl rfl rfl rfl g1 (fl_X12_258 C.hA) dX12_spot_61 (fun H locs hP => ?_)
      obtain ⟨u_61, eu_61, hP⟩ := Hp.nm hP
      have h := h u_61 eu_61
      refine lv_aload_n hx hb dX12_spot_64 rfl (lv_at hl 0 rfl) ?_
      refine q_getI C hP (k := 28) (lay_X12 C.hA) rfl (by decide) g1 (fl_X12_258 C.hA) dX12_spot_65 ?_
      refine lv_iconst (v := (1 : Int32)) hx hb dX12_spot_68 (by decide) ?_
      refine lv_isub hx hb dX12_spot_69 ?_
      exact q_iret C hr hlk hP h (by decide) (by decide) dX12_spot_70
    · have h := h.1 c19
      exact b_X12_spot_22 C hr hlk h (lv_sub hl [0] rfl) hP
-- X12_areAlike
abbrev rm_X12_areAlike : Room := { frames := 6, cells := 0, slots := 0, locals := 174 }
theorem hd_X12_areAlike : yX12_areAlike.cls ≠ "java/lang/invoke/MethodHandle" ∧ yX12_areAlike.cls ≠ "java/lang/invoke/VarHandle" ∧ (parseMethodDescriptor yX12_areAlike.desc).map (fun d => d.parameters.length) = some 5 := by decide +kernel
def V_X12_areAlike_145 (G : Gx) (Q : Int32 → Mm → Prop) (k_111 : Nat → Int32 → Int32 → Int32 → Mm → Prop) (x0 : Nat) (x6 : Int32) (x8 : Int32) (t0 : Int32) (u : Mm) : Prop :=
  ∀ x8_147 : Int32, x8_147 = x8 + (1 : Int32) → k_111 x0 x6 t0 x8_147 u
def V_X12_areAlike_111_B (G : Gx) (Q : Int32 → Mm → Prop) (k_111 : Nat → Int32 → Int32 → Int32 → Mm → Prop) (x0 : Nat) (x6 : Int32) (x7 : Int32) (x8 : Int32) (u : Mm) : Prop :=
  ((x7 = 0 → (x7 = 0 ∨ x7 = 1) ∧ Q x7 u) ∧ (¬ x7 = 0 → ((x6 ≤ x8 → (x7 = 0 ∨ x7 = 1) ∧ Q x7 u) ∧ (¬ x6 ≤ x8 → kd G x0 = 12 ∧ (gR u x0 24) ≠ 0 ∧ kd G (gR u x0 24) = 13 ∧ vp_in x8 (ln G (gR u x0 24)) ∧ (gR u x0 25) ≠ 0 ∧ kd G (gR u x0 25) = 13 ∧ vp_in x8 (ln G (gR u x0 25)) ∧ (((gI u (gR u x0 24) x8.toNatClampNeg) = (gI u (gR u x0 25) x8.toNatClampNeg) → V_X12_areAlike_145 G Q k_111 x0 x6 x8 (1 : Int32) u) ∧ (¬ (gI u (gR u x0 24) x8.toNatClampNeg) = (gI u (gR u x0 25) x8.toNatClampNeg) → V_X12_areAlike_145 G Q k_111 x0 x6 x8 (0 : Int32) u))))))
def V_X12_areAlike_111 (G : Gx) (Q : Int32 → Mm → Prop) : Nat → (Nat → Int32 → Int32 → Int32 → Mm → Prop)
  | 0 => fun _ _ _ _ _ => False
  | n + 1 => fun x0 x6 x7 x8 u => V_X12_areAlike_111_B G Q (V_X12_areAlike_111 G Q n) x0 x6 x7 x8 u
def V_X12_areAlike_106 (G : Gx) (Q : Int32 → Mm → Prop) (x0 : Nat) (x6 : Int32) (t0 : Int32) (u : Mm) : Prop :=
  ∃ n : Nat, V_X12_areAlike_111 G Q n x0 x6 t0 (0 : Int32) u
def V_X12_areAlike_37_B (G : Gx) (Q : Int32 → Mm → Prop) (k_37 : Nat → Int32 → Int32 → Int32 → Int32 → Int32 → Int32 → Mm → Prop) (x0 : Nat) (x2 : Int32) (x3 : Int32) (x4 : Int32) (x5 : Int32) (x6 : Int32) (x7 : Int32) (u : Mm) : Prop :=
  ((x6 ≤ x7 → kd G x0 = 12 ∧ (gR u x0 36) ≠ 0 ∧ kd G (gR u x0 36) = 13 ∧ vp_in x3 (ln G (gR u x0 36)) ∧ (gR u x0 37) ≠ 0 ∧ kd G (gR u x0 37) = 13 ∧ vp_in x3 (ln G (gR u x0 37)) ∧ (gR u x0 6) ≠ 0 ∧ kd G (gR u x0 6) = 13 ∧ vp_in x2 (ln G (gR u x0 6)) ∧ V_X12_tellRow G x0 x2 (0 : Int32) (gI u (gR u x0 36) x3.toNatClampNeg) (gI u (gR u x0 37) x3.toNatClampNeg) x4 x5 (gI u (gR u x0 6) x2.toNatClampNeg) u (fun (u_89 : Mm) => ((x6 = (gI u_89 x0 26) → V_X12_areAlike_106 G Q x0 x6 (1 : Int32) u_89) ∧ (¬ x6 = (gI u_89 x0 26) → V_X12_areAlike_106 G Q x0 x6 (0 : Int32) u_89)))) ∧ (¬ x6 ≤ x7 → kd G x0 = 12 ∧ (gR u x0 25) ≠ 0 ∧ (gR u x0 24) ≠ 0 ∧ kd G (gR u x0 24) = 13 ∧ vp_in x7 (ln G (gR u x0 24)) ∧ kd G (gR u x0 25) = 13 ∧ vp_in x7 (ln G (gR u x0 25)) ∧ ∀ u_57 : Mm, u_57 = sI u (gR u x0 25) x7.toNatClampNeg (gI u (gR u x0 24) x7.toNatClampNeg) → ∀ x7_58 : Int32, x7_58 = x7 + (1 : Int32) → k_37 x0 x2 x3 x4 x5 x6 x7_58 u_57))
def V_X12_areAlike_37 (G : Gx) (Q : Int32 → Mm → Prop) : Nat → (Nat → Int32 → Int32 → Int32 → Int32 → Int32 → Int32 → Mm → Prop)
  | 0 => fun _ _ _ _ _ _ _ _ => False
  | n + 1 => fun x0 x2 x3 x4 x5 x6 x7 u => V_X12_areAlike_37_B G Q (V_X12_areAlike_37 G Q n) x0 x2 x3 x4 x5 x6 x7 u
def V_X12_areAlike (G : Gx) (p0 : Nat) (p1 : Int32) (p2 : Int32) (p3 : Int32) (p4 : Int32) (p5 : Int32) (u : Mm) (Q : Int32 → Mm → Prop) : Prop :=
  kd G p0 = 12 ∧ (gR u p0 36) ≠ 0 ∧ kd G (gR u p0 36) = 13 ∧ vp_in p3 (ln G (gR u p0 36)) ∧ (gR u p0 37) ≠ 0 ∧ kd G (gR u p0 37) = 13 ∧ vp_in p3 (ln G (gR u p0 37)) ∧ (gR u p0 6) ≠ 0 ∧ kd G (gR u p0 6) = 13 ∧ vp_in p1 (ln G (gR u p0 6)) ∧ V_X12_tellRow G p0 p1 (0 : Int32) (gI u (gR u p0 36) p3.toNatClampNeg) (gI u (gR u p0 37) p3.toNatClampNeg) p4 p5 (gI u (gR u p0 6) p1.toNatClampNeg) u (fun (u_25 : Mm) => ∀ x6_32 : Int32, x6_32 = (gI u_25 p0 26) → ∃ n : Nat, V_X12_areAlike_37 G Q n p0 p2 p3 p4 p5 x6_32 (0 : Int32) u_25)
set_option maxHeartbeats 4000000 in
set_option maxRecDepth 100000 in
theorem b_X12_areAlike_145 {G : Gx} {Q : Int32 → Mm → Prop} {p : Program} {l : Launch} {e : Env} {s : State} {m : MethodId} {args : Array Value} {below : List Frame} {meth : Method} {c : Code} (C : Cx G p s m c cX12_areAlike RX12 9) (hr : meth.sig.returnType = (some .boolean)) (hlk : meth.locks = false) {k_111 : Nat → Int32 → Int32 → Int32 → Mm → Prop} (hk_111 : ∀ (x0 : Nat) (x6 : Int32) (x7 : Int32) (x8 : Int32) (u : Mm) (H : Heap) (locs : List Loc) (ls : Array Slot), k_111 x0 x6 x7 x8 u → lv_has ls 9 [(0, .ref x0), (6, .int x6), (7, .int x7), (8, .int x8)] → Hp G u s H locs → W p l e rm_X12_areAlike s m args below meth c H locs 0 0 (MQ below (Ei G Q) args s 0 0 (ag G)) (F0 m 111 ls [])) {x0 : Nat} {x6 : Int32} {x8 : Int32} {t0 : Int32} {u : Mm} {H : Heap} {locs : List Loc} {ls : Array Slot} (h : V_X12_areAlike_145 G Q k_111 x0 x6 x8 t0 u) (hl : lv_has ls 9 [(0, .ref x0), (6, .int x6), (8, .int x8)]) (hP : Hp G u s H locs) : W p l e rm_X12_areAlike s m args below meth c H locs 0 0 (MQ below (Ei G Q) args s 0 0 (ag G)) (F0 m 145 ls [.int t0]) := by
  have hx := C.1
  have hb := C.2.1
  unfold V_X12_areAlike_145 at h
  refine lv_istore (lv' := [(7, .int t0), (0, .ref x0), (6, .int x6), (8, .int x8)]) hx hb dX12_areAlike_145 hl (by decide) rfl (fun ls hl => ?_)
  obtain ⟨x8_147, ex8_147⟩ : ∃ y : Int32, y = x8 + (1 : Int32) := ⟨_, rfl⟩
  have h := h x8_147 ex8_147
  refine lv_iinc (v := x8_147) (lv' := [(8, .int x8_147), (7, .int t0), (0, .ref x0), (6, .int x6)]) hx hb dX12_areAlike_147 hl (k := 3) rfl (by rw [ex8_147]; rfl) (by decide) rfl (fun ls hl => ?_)
  refine lv_goto (tgt := 111) hx hb dX12_areAlike_150 (by decide) ?_
  exact hk_111 x0 x6 t0 x8_147 u _ _ _ h (lv_sub hl [2, 3, 1, 0] rfl) hP
set_option maxHeartbeats 4000000 in
set_option maxRecDepth 100000 in
theorem b_X12_areAlike_111 {G : Gx} {Q : Int32 → Mm → Prop} {p : Program} {l : Launch} {e : Env} {s : State} {m : MethodId} {args : Array Value} {below : List Frame} {meth : Method} {c : Code} (C : Cx G p s m c cX12_areAlike RX12 9) (hr : meth.sig.returnType = (some .boolean)) (hlk : meth.locks = false) {k_111 : Nat → Int32 → Int32 → Int32 → Mm → Prop} (hk_111 : ∀ (x0 : Nat) (x6 : Int32) (x7 : Int32) (x8 : Int32) (u : Mm) (H : Heap) (locs : List Loc) (ls : Array Slot), k_111 x0 x6 x7 x8 u → lv_has ls 9 [(0, .ref x0), (6, .int x6), (7, .int x7), (8, .int x8)] → Hp G u s H locs → W p l e rm_X12_areAlike s m args below meth c H locs 0 0 (MQ below (Ei G Q) args s 0 0 (ag G)) (F0 m 111 ls [])) {x0 : Nat} {x6 : Int32} {x7 : Int32} {x8 : Int32} {u : Mm} {H : Heap} {locs : List Loc} {ls : Array Slot} (h : V_X12_areAlike_111_B G Q k_111 x0 x6 x7 x8 u) (hl : lv_has ls 9 [(0, .ref x0), (6, .int x6), (7, .int x7), (8, .int x8)]) (hP : Hp G u s H locs) : W p l e rm_X12_areAlike s m args below meth c H locs 0 0 (MQ below (Ei G Q) args s 0 0 (ag G)) (F0 m 111 ls []) := by
  have hx := C.1
  have hb := C.2.1
  unfold V_X12_areAlike_111_B at h
  refine lv_iload hx hb dX12_areAlike_111 (lv_at hl 2 rfl) ?_
  refine lv_if_eq (tgt := 153) hx hb dX12_areAlike_113 (by decide) (fun c113 => ?_) (fun c113 => ?_)
  · have h := h.1 c113
    refine lv_iload hx hb dX12_areAlike_153 (lv_at hl 2 rfl) ?_
    obtain ⟨g1, h⟩ := h
    exact q_zret C hr hlk hP g1 h (by decide) (by decide) dX12_areAlike_155
  · have h := h.2 c113
    refine lv_iload hx hb dX12_areAlike_116 (lv_at hl 3 rfl) ?_
    refine lv_iload hx hb dX12_areAlike_118 (lv_at hl 1 rfl) ?_
    refine lv_icmp_ge (tgt := 153) hx hb dX12_areAlike_120 (by decide) (fun c120 => ?_) (fun c120 => ?_)
    · have h := h.1 c120
      refine lv_iload hx hb dX12_areAlike_153 (lv_at hl 2 rfl) ?_
      obtain ⟨g2, h⟩ := h
      exact q_zret C hr hlk hP g2 h (by decide) (by decide) dX12_areAlike_155
    · have h := h.2 c120
      refine lv_aload_n hx hb dX12_areAlike_123 rfl (lv_at hl 0 rfl) ?_
      obtain ⟨g3, h⟩ := h
      obtain ⟨g4, h⟩ := h
      refine q_getR C hP (k := 24) (lay_X12 C.hA) rfl (by decide) g3 g4 (fl_X12_64 C.hA) dX12_areAlike_124 ?_
      refine lv_iload hx hb dX12_areAlike_127 (lv_at hl 3 rfl) ?_
      obtain ⟨g5, h⟩ := h
      obtain ⟨g6, h⟩ := h
      refine q_iald C hP g5 g6 dX12_areAlike_129 ?_
      refine lv_aload_n hx hb dX12_areAlike_130 rfl (lv_at hl 0 rfl) ?_
      obtain ⟨g7, h⟩ := h
      refine q_getR C hP (k := 25) (lay_X12 C.hA) rfl (by decide) g3 g7 (fl_X12_67 C.hA) dX12_areAlike_131 ?_
      refine lv_iload hx hb dX12_areAlike_134 (lv_at hl 3 rfl) ?_
      obtain ⟨g8, h⟩ := h
      obtain ⟨g9, h⟩ := h
      refine q_iald C hP g8 g9 dX12_areAlike_136 ?_
      refine lv_icmp_ne (tgt := 144) hx hb dX12_areAlike_137 (by decide) (fun c137 => ?_) (fun c137 => ?_)
      · have h := h.2 c137
        refine lv_iconst (v := (0 : Int32)) hx hb dX12_areAlike_144 (by decide) ?_
        exact b_X12_areAlike_145 C hr hlk hk_111 h (lv_sub hl [0, 1, 3] rfl) hP
      · have h := h.1 c137
        refine lv_iconst (v := (1 : Int32)) hx hb dX12_areAlike_140 (by decide) ?_
        refine lv_goto (tgt := 145) hx hb dX12_areAlike_141 (by decide) ?_
        exact b_X12_areAlike_145 C hr hlk hk_111 h (lv_sub hl [0, 1, 3] rfl) hP
theorem l_X12_areAlike_111 {G : Gx} {Q : Int32 → Mm → Prop} {p : Program} {l : Launch} {e : Env} {s : State} {m : MethodId} {args : Array Value} {below : List Frame} {meth : Method} {c : Code} (C : Cx G p s m c cX12_areAlike RX12 9) (hr : meth.sig.returnType = (some .boolean)) (hlk : meth.locks = false) : ∀ (n : Nat) (x0 : Nat) (x6 : Int32) (x7 : Int32) (x8 : Int32) (u : Mm) (H : Heap) (locs : List Loc) (ls : Array Slot), V_X12_areAlike_111 G Q n x0 x6 x7 x8 u → lv_has ls 9 [(0, .ref x0), (6, .int x6), (7, .int x7), (8, .int x8)] → Hp G u s H locs → W p l e rm_X12_areAlike s m args below meth c H locs 0 0 (MQ below (Ei G Q) args s 0 0 (ag G)) (F0 m 111 ls []) := by
  intro n
  induction n with
  | zero => intro x0 x6 x7 x8 u H locs ls h; exact h.elim
  | succ n ih => intro x0 x6 x7 x8 u H locs ls h hl hP; exact b_X12_areAlike_111 C hr hlk ih h hl hP
set_option maxHeartbeats 4000000 in
set_option maxRecDepth 100000 in
theorem b_X12_areAlike_106 {G : Gx} {Q : Int32 → Mm → Prop} {p : Program} {l : Launch} {e : Env} {s : State} {m : MethodId} {args : Array Value} {below : List Frame} {meth : Method} {c : Code} (C : Cx G p s m c cX12_areAlike RX12 9) (hr : meth.sig.returnType = (some .boolean)) (hlk : meth.locks = false) {x0 : Nat} {x6 : Int32} {t0 : Int32} {u : Mm} {H : Heap} {locs : List Loc} {ls : Array Slot} (h : V_X12_areAlike_106 G Q x0 x6 t0 u) (hl : lv_has ls 9 [(0, .ref x0), (6, .int x6)]) (hP : Hp G u s H locs) : W p l e rm_X12_areAlike s m args below meth c H locs 0 0 (MQ below (Ei G Q) args s 0 0 (ag G)) (F0 m 106 ls [.int t0]) := by
  have hx := C.1
  have hb := C.2.1
  unfold V_X12_areAlike_106 at h
  refine lv_istore (lv' := [(7, .int t0), (0, .ref x0), (6, .int x6)]) hx hb dX12_areAlike_106 hl (by decide) rfl (fun ls hl => ?_)
  refine lv_iconst (v := (0 : Int32)) hx hb dX12_areAlike_108 (by decide) ?_
  refine lv_istore (lv' := [(8, .int (0 : Int32)), (7, .int t0), (0, .ref x0), (6, .int x6)]) hx hb dX12_areAlike_109 hl (by decide) rfl (fun ls hl => ?_)
  obtain ⟨n, h⟩ := h
  exact l_X12_areAlike_111 C hr hlk n x0 x6 t0 (0 : Int32) u _ _ _ h (lv_sub hl [2, 3, 1, 0] rfl) hP
set_option maxHeartbeats 4000000 in
set_option maxRecDepth 100000 in
theorem b_X12_areAlike_37 {G : Gx} {Q : Int32 → Mm → Prop} {p : Program} {l : Launch} {e : Env} {s : State} {m : MethodId} {args : Array Value} {below : List Frame} {meth : Method} {c : Code} (C : Cx G p s m c cX12_areAlike RX12 9) (hr : meth.sig.returnType = (some .boolean)) (hlk : meth.locks = false) {k_37 : Nat → Int32 → Int32 → Int32 → Int32 → Int32 → Int32 → Mm → Prop} (hk_37 : ∀ (x0 : Nat) (x2 : Int32) (x3 : Int32) (x4 : Int32) (x5 : Int32) (x6 : Int32) (x7 : Int32) (u : Mm) (H : Heap) (locs : List Loc) (ls : Array Slot), k_37 x0 x2 x3 x4 x5 x6 x7 u → lv_has ls 9 [(0, .ref x0), (2, .int x2), (3, .int x3), (4, .int x4), (5, .int x5), (6, .int x6), (7, .int x7)] → Hp G u s H locs → W p l e rm_X12_areAlike s m args below meth c H locs 0 0 (MQ below (Ei G Q) args s 0 0 (ag G)) (F0 m 37 ls [])) {x0 : Nat} {x2 : Int32} {x3 : Int32} {x4 : Int32} {x5 : Int32} {x6 : Int32} {x7 : Int32} {u : Mm} {H : Heap} {locs : List Loc} {ls : Array Slot} (h : V_X12_areAlike_37_B G Q k_37 x0 x2 x3 x4 x5 x6 x7 u) (hl : lv_has ls 9 [(0, .ref x0), (2, .int x2), (3, .int x3), (4, .int x4), (5, .int x5), (6, .int x6), (7, .int x7)]) (hP : Hp G u s H locs) : W p l e rm_X12_areAlike s m args below meth c H locs 0 0 (MQ below (Ei G Q) args s 0 0 (ag G)) (F0 m 37 ls []) := by
  have hx := C.1
  have hb := C.2.1
  unfold V_X12_areAlike_37_B at h
  refine lv_iload hx hb dX12_areAlike_37 (lv_at hl 6 rfl) ?_
  refine lv_iload hx hb dX12_areAlike_39 (lv_at hl 5 rfl) ?_
  refine lv_icmp_ge (tgt := 64) hx hb dX12_areAlike_41 (by decide) (fun c41 => ?_) (fun c41 => ?_)
  · have h := h.1 c41
    refine lv_aload_n hx hb dX12_areAlike_64 rfl (lv_at hl 0 rfl) ?_
    refine lv_iload_n hx hb dX12_areAlike_65 rfl (lv_at hl 1 rfl) ?_
    refine lv_iconst (v := (0 : Int32)) hx hb dX12_areAlike_66 (by decide) ?_
    refine lv_aload_n hx hb dX12_areAlike_67 rfl (lv_at hl 0 rfl) ?_
    obtain ⟨g1, h⟩ := h
    obtain ⟨g2, h⟩ := h
    refine q_getR C hP (k := 36) (lay_X12 C.hA) rfl (by decide) g1 g2 (fl_X12_91 C.hA) dX12_areAlike_68 ?_
    refine lv_iload_n hx hb dX12_areAlike_71 rfl (lv_at hl 2 rfl) ?_
    obtain ⟨g3, h⟩ := h
    obtain ⟨g4, h⟩ := h
    refine q_iald C hP g3 g4 dX12_areAlike_72 ?_
    refine lv_aload_n hx hb dX12_areAlike_73 rfl (lv_at hl 0 rfl) ?_
    obtain ⟨g5, h⟩ := h
    refine q_getR C hP (k := 37) (lay_X12 C.hA) rfl (by decide) g1 g5 (fl_X12_94 C.hA) dX12_areAlike_74 ?_
    refine lv_iload_n hx hb dX12_areAlike_77 rfl (lv_at hl 2 rfl) ?_
    obtain ⟨g6, h⟩ := h
    obtain ⟨g7, h⟩ := h
    refine q_iald C hP g6 g7 dX12_areAlike_78 ?_
    refine lv_iload hx hb dX12_areAlike_79 (lv_at hl 3 rfl) ?_
    refine lv_iload hx hb dX12_areAlike_81 (lv_at hl 4 rfl) ?_
    refine lv_aload_n hx hb dX12_areAlike_83 rfl (lv_at hl 0 rfl) ?_
    obtain ⟨g8, h⟩ := h
    refine q_getR C hP (k := 6) (lay_X12 C.hA) rfl (by decide) g1 g8 (fl_X12_39 C.hA) dX12_areAlike_84 ?_
    refine lv_iload_n hx hb dX12_areAlike_87 rfl (lv_at hl 1 rfl) ?_
    obtain ⟨g9, h⟩ := h
    obtain ⟨g10, h⟩ := h
    refine q_iald C hP g9 g10 dX12_areAlike_88 ?_
    refine q_calv (q_runV C hP (c_X12_tellRow h) (cd_X12_tellRow C.hA) (ini_X12 C.hA) (ml_X12_339 C.hA) (im_X12_tellRow C.hA) (sl_X12_tellRow C.hA) g1 (by decide) rfl hd_X12_tellRow ⟨rfl, rfl⟩ ⟨Nat.le_of_ble_eq_true rfl, Nat.le_of_ble_eq_true rfl⟩ ⟨Nat.le_of_ble_eq_true rfl, Nat.le_of_ble_eq_true rfl⟩ hl.1 rfl (Nat.le_of_ble_eq_true rfl) dX12_areAlike_89) hP (fun u_89 H locs h hP => ?_)
    refine lv_iload hx hb dX12_areAlike_92 (lv_at hl 5 rfl) ?_
    refine lv_aload_n hx hb dX12_areAlike_94 rfl (lv_at hl 0 rfl) ?_
    refine q_getI C hP (k := 26) (lay_X12 C.hA) rfl (by decide) g1 (fl_X12_313 C.hA) dX12_areAlike_95 ?_
    refine lv_icmp_ne (tgt := 105) hx hb dX12_areAlike_98 (by decide) (fun c98 => ?_) (fun c98 => ?_)
    · have h := h.2 c98
      refine lv_iconst (v := (0 : Int32)) hx hb dX12_areAlike_105 (by decide) ?_
      exact b_X12_areAlike_106 C hr hlk h (lv_sub hl [0, 5] rfl) hP
    · have h := h.1 c98
      refine lv_iconst (v := (1 : Int32)) hx hb dX12_areAlike_101 (by decide) ?_
      refine lv_goto (tgt := 106) hx hb dX12_areAlike_102 (by decide) ?_
      exact b_X12_areAlike_106 C hr hlk h (lv_sub hl [0, 5] rfl) hP
  · have h := h.2 c41
    refine lv_aload_n hx hb dX12_areAlike_44 rfl (lv_at hl 0 rfl) ?_
    obtain ⟨g11, h⟩ := h
    obtain ⟨g12, h⟩ := h
    refine q_getR C hP (k := 25) (lay_X12 C.hA) rfl (by decide) g11 g12 (fl_X12_67 C.hA) dX12_areAlike_45 ?_
    refine lv_iload hx hb dX12_areAlike_48 (lv_at hl 6 rfl) ?_
    refine lv_aload_n hx hb dX12_areAlike_50 rfl (lv_at hl 0 rfl) ?_
    obtain ⟨g13, h⟩ := h
    refine q_getR C hP (k := 24) (lay_X12 C.hA) rfl (by decide) g11 g13 (fl_X12_64 C.hA) dX12_areAlike_51 ?_
    refine lv_iload hx hb dX12_areAlike_54 (lv_at hl 6 rfl) ?_
    obtain ⟨g14, h⟩ := h
    obtain ⟨g15, h⟩ := h
    refine q_iald C hP g14 g15 dX12_areAlike_56 ?_
    obtain ⟨g16, h⟩ := h
    obtain ⟨g17, h⟩ := h
    refine q_iast C hP g16 g17 dX12_areAlike_57 (fun H locs hP => ?_)
    obtain ⟨u_57, eu_57, hP⟩ := Hp.nm hP
    have h := h u_57 eu_57
    obtain ⟨x7_58, ex7_58⟩ : ∃ y : Int32, y = x7 + (1 : Int32) := ⟨_, rfl⟩
    have h := h x7_58 ex7_58
    refine lv_iinc (v := x7_58) (lv' := [(7, .int x7_58), (0, .ref x0), (2, .int x2), (3, .int x3), (4, .int x4), (5, .int x5), (6, .int x6)]) hx hb dX12_areAlike_58 hl (k := 6) rfl (by rw [ex7_58]; rfl) (by decide) rfl (fun ls hl => ?_)
    refine lv_goto (tgt := 37) hx hb dX12_areAlike_61 (by decide) ?_
    exact hk_37 x0 x2 x3 x4 x5 x6 x7_58 u_57 _ _ _ h (lv_sub hl [1, 2, 3, 4, 5, 6, 0] rfl) hP
theorem l_X12_areAlike_37 {G : Gx} {Q : Int32 → Mm → Prop} {p : Program} {l : Launch} {e : Env} {s : State} {m : MethodId} {args : Array Value} {below : List Frame} {meth : Method} {c : Code} (C : Cx G p s m c cX12_areAlike RX12 9) (hr : meth.sig.returnType = (some .boolean)) (hlk : meth.locks = false) : ∀ (n : Nat) (x0 : Nat) (x2 : Int32) (x3 : Int32) (x4 : Int32) (x5 : Int32) (x6 : Int32) (x7 : Int32) (u : Mm) (H : Heap) (locs : List Loc) (ls : Array Slot), V_X12_areAlike_37 G Q n x0 x2 x3 x4 x5 x6 x7 u → lv_has ls 9 [(0, .ref x0), (2, .int x2), (3, .int x3), (4, .int x4), (5, .int x5), (6, .int x6), (7, .int x7)] → Hp G u s H locs → W p l e rm_X12_areAlike s m args below meth c H locs 0 0 (MQ below (Ei G Q) args s 0 0 (ag G)) (F0 m 37 ls []) := by
  intro n
  induction n with
  | zero => intro x0 x2 x3 x4 x5 x6 x7 u H locs ls h; exact h.elim
  | succ n ih => intro x0 x2 x3 x4 x5 x6 x7 u H locs ls h hl hP; exact b_X12_areAlike_37 C hr hlk ih h hl hP
set_option maxHeartbeats 4000000 in
set_option maxRecDepth 100000 in
theorem c_X12_areAlike {l : Launch} {G : Gx} {p0 : Nat} {p1 : Int32} {p2 : Int32} {p3 : Int32} {p4 : Int32} {p5 : Int32} {u : Mm} {Q : Int32 → Mm → Prop} (h : V_X12_areAlike G p0 p1 p2 p3 p4 p5 u Q) : Met l yX12_areAlike [.code yX12_areAlike cX12_areAlike 9 (some .boolean)] rm_X12_areAlike (va_Pc [.ref p0, .int p1, .int p2, .int p3, .int p4, .int p5] (Wd G u)) (Ei G Q) 0 0 (ag G) := by
  refine q_met (by decide) (Nat.le_of_ble_eq_true rfl) ?_
  intro p e s m below meth c ls C hr hlk hnm hl hP
  have hl : lv_has ls 9 [(0, .ref p0), (1, .int p1), (2, .int p2), (3, .int p3), (4, .int p4), (5, .int p5)] := hl
  generalize ([.ref p0, .int p1, .int p2, .int p3, .int p4, .int p5] : List Value).toArray = args
  have hx := C.1
  have hb := C.2.1
  unfold V_X12_areAlike at h
  refine lv_aload_n hx hb dX12_areAlike_0 rfl (lv_at hl 0 rfl) ?_
  refine lv_iload_n hx hb dX12_areAlike_1 rfl (lv_at hl 1 rfl) ?_
  refine lv_iconst (v := (0 : Int32)) hx hb dX12_areAlike_2 (by decide) ?_
  refine lv_aload_n hx hb dX12_areAlike_3 rfl (lv_at hl 0 rfl) ?_
  obtain ⟨g1, h⟩ := h
  obtain ⟨g2, h⟩ := h
  refine q_getR C hP (k := 36) (lay_X12 C.hA) rfl (by decide) g1 g2 (fl_X12_91 C.hA) dX12_areAlike_4 ?_
  refine lv_iload_n hx hb dX12_areAlike_7 rfl (lv_at hl 3 rfl) ?_
  obtain ⟨g3, h⟩ := h
  obtain ⟨g4, h⟩ := h
  refine q_iald C hP g3 g4 dX12_areAlike_8 ?_
  refine lv_aload_n hx hb dX12_areAlike_9 rfl (lv_at hl 0 rfl) ?_
  obtain ⟨g5, h⟩ := h
  refine q_getR C hP (k := 37) (lay_X12 C.hA) rfl (by decide) g1 g5 (fl_X12_94 C.hA) dX12_areAlike_10 ?_
  refine lv_iload_n hx hb dX12_areAlike_13 rfl (lv_at hl 3 rfl) ?_
  obtain ⟨g6, h⟩ := h
  obtain ⟨g7, h⟩ := h
  refine q_iald C hP g6 g7 dX12_areAlike_14 ?_
  refine lv_iload hx hb dX12_areAlike_15 (lv_at hl 4 rfl) ?_
  refine lv_iload hx hb dX12_areAlike_17 (lv_at hl 5 rfl) ?_
  refine lv_aload_n hx hb dX12_areAlike_19 rfl (lv_at hl 0 rfl) ?_
  obtain ⟨g8, h⟩ := h
  refine q_getR C hP (k := 6) (lay_X12 C.hA) rfl (by decide) g1 g8 (fl_X12_39 C.hA) dX12_areAlike_20 ?_
  refine lv_iload_n hx hb dX12_areAlike_23 rfl (lv_at hl 1 rfl) ?_
  obtain ⟨g9, h⟩ := h
  obtain ⟨g10, h⟩ := h
  refine q_iald C hP g9 g10 dX12_areAlike_24 ?_
  refine q_calv (q_runV C hP (c_X12_tellRow h) (cd_X12_tellRow C.hA) (ini_X12 C.hA) (ml_X12_339 C.hA) (im_X12_tellRow C.hA) (sl_X12_tellRow C.hA) g1 (by decide) rfl hd_X12_tellRow ⟨rfl, rfl⟩ ⟨Nat.le_of_ble_eq_true rfl, Nat.le_of_ble_eq_true rfl⟩ ⟨Nat.le_of_ble_eq_true rfl, Nat.le_of_ble_eq_true rfl⟩ hl.1 rfl (Nat.le_of_ble_eq_true rfl) dX12_areAlike_25) hP (fun u_25 H locs h hP => ?_)
  refine lv_aload_n hx hb dX12_areAlike_28 rfl (lv_at hl 0 rfl) ?_
  refine q_getI C hP (k := 26) (lay_X12 C.hA) rfl (by decide) g1 (fl_X12_313 C.hA) dX12_areAlike_29 ?_
  refine lv_topi (fun x6_32 ex6_32 => ?_)
  have h := h x6_32 ex6_32
  refine lv_istore (lv' := [(6, .int x6_32), (0, .ref p0), (1, .int p1), (2, .int p2), (3, .int p3), (4, .int p4), (5, .int p5)]) hx hb dX12_areAlike_32 hl (by decide) rfl (fun ls hl => ?_)
  refine lv_iconst (v := (0 : Int32)) hx hb dX12_areAlike_34 (by decide) ?_
  refine lv_istore (lv' := [(7, .int (0 : Int32)), (6, .int x6_32), (0, .ref p0), (1, .int p1), (2, .int p2), (3, .int p3), (4, .int p4), (5, .int p5)]) hx hb dX12_areAlike_35 hl (by decide) rfl (fun ls hl => ?_)
  obtain ⟨n, h⟩ := h
  exact l_X12_areAlike_37 C hr hlk n p0 p2 p3 p4 p5 x6_32 (0 : Int32) u_25 _ _ _ h (lv_sub hl [2, 4, 5, 6, 7, 1, 0] rfl) hP
-- X12_tellLikes
abbrev rm_X12_tellLikes : Room := { frames := 7, cells := 0, slots := 0, locals := 202 }
theorem hd_X12_tellLikes : yX12_tellLikes.cls ≠ "java/lang/invoke/MethodHandle" ∧ yX12_tellLikes.cls ≠ "java/lang/invoke/VarHandle" ∧ (parseMethodDescriptor yX12_tellLikes.desc).map (fun d => d.parameters.length) = some 2 := by decide +kernel
def V_X12_tellLikes_50 (G : Gx) (Q : Mm → Prop) (k_2 : Nat → Int32 → Int32 → Int32 → Mm → Prop) (k_13 : Nat → Int32 → Int32 → Int32 → Int32 → Mm → Prop) (x0 : Nat) (x1 : Int32) (x2 : Int32) (x3 : Int32) (x4 : Int32) (x5 : Int32) (u : Mm) : Prop :=
  kd G x0 = 12 ∧ (gR u x0 43) ≠ 0 ∧ kd G (gR u x0 43) = 13 ∧ vp_in (((6 : Int32) * x3) + x4) (ln G (gR u x0 43)) ∧ ∀ u_63 : Mm, u_63 = sI u (gR u x0 43) (((6 : Int32) * x3) + x4).toNatClampNeg x5 → ∀ x4_64 : Int32, x4_64 = x4 + (1 : Int32) → k_13 x0 x1 x2 x3 x4_64 u_63
def V_X12_tellLikes_23_B (G : Gx) (Q : Mm → Prop) (k_2 : Nat → Int32 → Int32 → Int32 → Mm → Prop) (k_13 : Nat → Int32 → Int32 → Int32 → Int32 → Mm → Prop) (k_23 : Nat → Int32 → Int32 → Int32 → Int32 → Int32 → Mm → Prop) (x0 : Nat) (x1 : Int32) (x2 : Int32) (x3 : Int32) (x4 : Int32) (x5 : Int32) (u : Mm) : Prop :=
  ((x4 ≤ x5 → V_X12_tellLikes_50 G Q k_2 k_13 x0 x1 x2 x3 x4 x5 u) ∧ (¬ x4 ≤ x5 → kd G x0 = 12 ∧ V_X12_areAlike G x0 x5 x4 x3 x1 x2 u (fun (v_38 : Int32) (u_38 : Mm) => ((v_38 = 0 → ∀ x5_44 : Int32, x5_44 = x5 + (1 : Int32) → k_23 x0 x1 x2 x3 x4 x5_44 u_38) ∧ (¬ v_38 = 0 → V_X12_tellLikes_50 G Q k_2 k_13 x0 x1 x2 x3 x4 x5 u_38)))))
def V_X12_tellLikes_23 (G : Gx) (Q : Mm → Prop) (k_2 : Nat → Int32 → Int32 → Int32 → Mm → Prop) (k_13 : Nat → Int32 → Int32 → Int32 → Int32 → Mm → Prop) : Nat → (Nat → Int32 → Int32 → Int32 → Int32 → Int32 → Mm → Prop)
  | 0 => fun _ _ _ _ _ _ _ => False
  | n + 1 => fun x0 x1 x2 x3 x4 x5 u => V_X12_tellLikes_23_B G Q k_2 k_13 (V_X12_tellLikes_23 G Q k_2 k_13 n) x0 x1 x2 x3 x4 x5 u
def V_X12_tellLikes_13_B (G : Gx) (Q : Mm → Prop) (k_2 : Nat → Int32 → Int32 → Int32 → Mm → Prop) (k_13 : Nat → Int32 → Int32 → Int32 → Int32 → Mm → Prop) (x0 : Nat) (x1 : Int32) (x2 : Int32) (x3 : Int32) (x4 : Int32) (u : Mm) : Prop :=
  (((6 : Int32) ≤ x4 → ∀ x3_70 : Int32, x3_70 = x3 + (1 : Int32) → k_2 x0 x1 x2 x3_70 u) ∧ (¬ (6 : Int32) ≤ x4 → ∃ n : Nat, V_X12_tellLikes_23 G Q k_2 k_13 n x0 x1 x2 x3 x4 (0 : Int32) u))
def V_X12_tellLikes_13 (G : Gx) (Q : Mm → Prop) (k_2 : Nat → Int32 → Int32 → Int32 → Mm → Prop) : Nat → (Nat → Int32 → Int32 → Int32 → Int32 → Mm → Prop)
  | 0 => fun _ _ _ _ _ _ => False
  | n + 1 => fun x0 x1 x2 x3 x4 u => V_X12_tellLikes_13_B G Q k_2 (V_X12_tellLikes_13 G Q k_2 n) x0 x1 x2 x3 x4 u
def V_X12_tellLikes_2_B (G : Gx) (Q : Mm → Prop) (k_2 : Nat → Int32 → Int32 → Int32 → Mm → Prop) (x0 : Nat) (x1 : Int32) (x2 : Int32) (x3 : Int32) (u : Mm) : Prop :=
  kd G x0 = 12 ∧ (((gI u x0 28) ≤ x3 → Q u) ∧ (¬ (gI u x0 28) ≤ x3 → ∃ n : Nat, V_X12_tellLikes_13 G Q k_2 n x0 x1 x2 x3 (0 : Int32) u))
def V_X12_tellLikes_2 (G : Gx) (Q : Mm → Prop) : Nat → (Nat → Int32 → Int32 → Int32 → Mm → Prop)
  | 0 => fun _ _ _ _ _ => False
  | n + 1 => fun x0 x1 x2 x3 u => V_X12_tellLikes_2_B G Q (V_X12_tellLikes_2 G Q n) x0 x1 x2 x3 u
def V_X12_tellLikes (G : Gx) (p0 : Nat) (p1 : Int32) (p2 : Int32) (u : Mm) (Q : Mm → Prop) : Prop :=
  ∃ n : Nat, V_X12_tellLikes_2 G Q n p0 p1 p2 (0 : Int32) u
set_option maxHeartbeats 4000000 in
set_option maxRecDepth 100000 in
theorem b_X12_tellLikes_50 {G : Gx} {Q : Mm → Prop} {p : Program} {l : Launch} {e : Env} {s : State} {m : MethodId} {args : Array Value} {below : List Frame} {meth : Method} {c : Code} (C : Cx G p s m c cX12_tellLikes RX12 6) (hr : meth.sig.returnType = none) (hlk : meth.locks = false) {k_2 : Nat → Int32 → Int32 → Int32 → Mm → Prop} (hk_2 : ∀ (x0 : Nat) (x1 : Int32) (x2 : Int32) (x3 : Int32) (u : Mm) (H : Heap) (locs : List Loc) (ls : Array Slot), k_2 x0 x1 x2 x3 u → lv_has ls 6 [(0, .ref x0), (1, .int x1), (2, .int x2), (3, .int x3)] → Hp G u s H locs → W p l e rm_X12_tellLikes s m args below meth c H locs 0 0 (MQ below (Ev G Q) args s 0 0 (ag G)) (F0 m 2 ls [])) {k_13 : Nat → Int32 → Int32 → Int32 → Int32 → Mm → Prop} (hk_13 : ∀ (x0 : Nat) (x1 : Int32) (x2 : Int32) (x3 : Int32) (x4 : Int32) (u : Mm) (H : Heap) (locs : List Loc) (ls : Array Slot), k_13 x0 x1 x2 x3 x4 u → lv_has ls 6 [(0, .ref x0), (1, .int x1), (2, .int x2), (3, .int x3), (4, .int x4)] → Hp G u s H locs → W p l e rm_X12_tellLikes s m args below meth c H locs 0 0 (MQ below (Ev G Q) args s 0 0 (ag G)) (F0 m 13 ls [])) {x0 : Nat} {x1 : Int32} {x2 : Int32} {x3 : Int32} {x4 : Int32} {x5 : Int32} {u : Mm} {H : Heap} {locs : List Loc} {ls : Array Slot} (h : V_X12_tellLikes_50 G Q k_2 k_13 x0 x1 x2 x3 x4 x5 u) (hl : lv_has ls 6 [(0, .ref x0), (1, .int x1), (2, .int x2), (3, .int x3), (4, .int x4), (5, .int x5)]) (hP : Hp G u s H locs) : W p l e rm_X12_tellLikes s m args below meth c H locs 0 0 (MQ below (Ev G Q) args s 0 0 (ag G)) (F0 m 50 ls []) := by
  have hx := C.1
  have hb := C.2.1
  unfold V_X12_tellLikes_50 at h
  refine lv_aload_n hx hb dX12_tellLikes_50 rfl (lv_at hl 0 rfl) ?_
  obtain ⟨g1, h⟩ := h
  obtain ⟨g2, h⟩ := h
  refine q_getR C hP (k := 43) (lay_X12 C.hA) rfl (by decide) g1 g2 (fl_X12_107 C.hA) dX12_tellLikes_51 ?_
  refine lv_bipush (v := (6 : Int32)) hx hb dX12_tellLikes_54 (by decide) ?_
  refine lv_iload_n hx hb dX12_tellLikes_56 rfl (lv_at hl 3 rfl) ?_
  refine lv_imul hx hb dX12_tellLikes_57 ?_
  refine lv_iload hx hb dX12_tellLikes_58 (lv_at hl 4 rfl) ?_
  refine lv_iadd hx hb dX12_tellLikes_60 ?_
  refine lv_iload hx hb dX12_tellLikes_61 (lv_at hl 5 rfl) ?_
  obtain ⟨g3, h⟩ := h
  obtain ⟨g4, h⟩ := h
  refine q_iast C hP g3 g4 dX12_tellLikes_63 (fun H locs hP => ?_)
  obtain ⟨u_63, eu_63, hP⟩ := Hp.nm hP
  have h := h u_63 eu_63
  obtain ⟨x4_64, ex4_64⟩ : ∃ y : Int32, y = x4 + (1 : Int32) := ⟨_, rfl⟩
  have h := h x4_64 ex4_64
  refine lv_iinc (v := x4_64) (lv' := [(4, .int x4_64), (0, .ref x0), (1, .int x1), (2, .int x2), (3, .int x3), (5, .int x5)]) hx hb dX12_tellLikes_64 hl (k := 4) rfl (by rw [ex4_64]; rfl) (by decide) rfl (fun ls hl => ?_)
  refine lv_goto (tgt := 13) hx hb dX12_tellLikes_67 (by decide) ?_
  exact hk_13 x0 x1 x2 x3 x4_64 u_63 _ _ _ h (lv_sub hl [1, 2, 3, 4, 0] rfl) hP
set_option maxHeartbeats 4000000 in
set_option maxRecDepth 100000 in
theorem b_X12_tellLikes_23 {G : Gx} {Q : Mm → Prop} {p : Program} {l : Launch} {e : Env} {s : State} {m : MethodId} {args : Array Value} {below : List Frame} {meth : Method} {c : Code} (C : Cx G p s m c cX12_tellLikes RX12 6) (hr : meth.sig.returnType = none) (hlk : meth.locks = false) {k_2 : Nat → Int32 → Int32 → Int32 → Mm → Prop} (hk_2 : ∀ (x0 : Nat) (x1 : Int32) (x2 : Int32) (x3 : Int32) (u : Mm) (H : Heap) (locs : List Loc) (ls : Array Slot), k_2 x0 x1 x2 x3 u → lv_has ls 6 [(0, .ref x0), (1, .int x1), (2, .int x2), (3, .int x3)] → Hp G u s H locs → W p l e rm_X12_tellLikes s m args below meth c H locs 0 0 (MQ below (Ev G Q) args s 0 0 (ag G)) (F0 m 2 ls [])) {k_13 : Nat → Int32 → Int32 → Int32 → Int32 → Mm → Prop} (hk_13 : ∀ (x0 : Nat) (x1 : Int32) (x2 : Int32) (x3 : Int32) (x4 : Int32) (u : Mm) (H : Heap) (locs : List Loc) (ls : Array Slot), k_13 x0 x1 x2 x3 x4 u → lv_has ls 6 [(0, .ref x0), (1, .int x1), (2, .int x2), (3, .int x3), (4, .int x4)] → Hp G u s H locs → W p l e rm_X12_tellLikes s m args below meth c H locs 0 0 (MQ below (Ev G Q) args s 0 0 (ag G)) (F0 m 13 ls [])) {k_23 : Nat → Int32 → Int32 → Int32 → Int32 → Int32 → Mm → Prop} (hk_23 : ∀ (x0 : Nat) (x1 : Int32) (x2 : Int32) (x3 : Int32) (x4 : Int32) (x5 : Int32) (u : Mm) (H : Heap) (locs : List Loc) (ls : Array Slot), k_23 x0 x1 x2 x3 x4 x5 u → lv_has ls 6 [(0, .ref x0), (1, .int x1), (2, .int x2), (3, .int x3), (4, .int x4), (5, .int x5)] → Hp G u s H locs → W p l e rm_X12_tellLikes s m args below meth c H locs 0 0 (MQ below (Ev G Q) args s 0 0 (ag G)) (F0 m 23 ls [])) {x0 : Nat} {x1 : Int32} {x2 : Int32} {x3 : Int32} {x4 : Int32} {x5 : Int32} {u : Mm} {H : Heap} {locs : List Loc} {ls : Array Slot} (h : V_X12_tellLikes_23_B G Q k_2 k_13 k_23 x0 x1 x2 x3 x4 x5 u) (hl : lv_has ls 6 [(0, .ref x0), (1, .int x1), (2, .int x2), (3, .int x3), (4, .int x4), (5, .int x5)]) (hP : Hp G u s H locs) : W p l e rm_X12_tellLikes s m args below meth c H locs 0 0 (MQ below (Ev G Q) args s 0 0 (ag G)) (F0 m 23 ls []) := by
  have hx := C.1
  have hb := C.2.1
  unfold V_X12_tellLikes_23_B at h
  refine lv_iload hx hb dX12_tellLikes_23 (lv_at hl 5 rfl) ?_
  refine lv_iload hx hb dX12_tellLikes_25 (lv_at hl 4 rfl) ?_
  refine lv_icmp_ge (tgt := 50) hx hb dX12_tellLikes_27 (by decide) (fun c27 => ?_) (fun c27 => ?_)
  · have h := h.1 c27
    exact b_X12_tellLikes_50 C hr hlk hk_2 hk_13 h (lv_sub hl [0, 1, 2, 3, 4, 5] rfl) hP
  · have h := h.2 c27
    refine lv_aload_n hx hb dX12_tellLikes_30 rfl (lv_at hl 0 rfl) ?_
    refine lv_iload hx hb dX12_tellLikes_31 (lv_at hl 5 rfl) ?_
    refine lv_iload hx hb dX12_tellLikes_33 (lv_at hl 4 rfl) ?_
    refine lv_iload_n hx hb dX12_tellLikes_35 rfl (lv_at hl 3 rfl) ?_
    refine lv_iload_n hx hb dX12_tellLikes_36 rfl (lv_at hl 1 rfl) ?_
    refine lv_iload_n hx hb dX12_tellLikes_37 rfl (lv_at hl 2 rfl) ?_
    obtain ⟨g1, h⟩ := h
    refine q_cali (q_runV C hP (c_X12_areAlike h) (cd_X12_areAlike C.hA) (ini_X12 C.hA) (ml_X12_376 C.hA) (im_X12_areAlike C.hA) (sl_X12_areAlike C.hA) g1 (by decide) rfl hd_X12_areAlike ⟨rfl, rfl⟩ ⟨Nat.le_of_ble_eq_true rfl, Nat.le_of_ble_eq_true rfl⟩ ⟨Nat.le_of_ble_eq_true rfl, Nat.le_of_ble_eq_true rfl⟩ hl.1 rfl (Nat.le_of_ble_eq_true rfl) dX12_tellLikes_38) hP (fun v_38 u_38 H locs h hP => ?_)
    refine lv_if_ne (tgt := 50) hx hb dX12_tellLikes_41 (by decide) (fun c41 => ?_) (fun c41 => ?_)
    · have h := h.2 c41
      exact b_X12_tellLikes_50 C hr hlk hk_2 hk_13 h (lv_sub hl [0, 1, 2, 3, 4, 5] rfl) hP
    · have h := h.1 c41
      obtain ⟨x5_44, ex5_44⟩ : ∃ y : Int32, y = x5 + (1 : Int32) := ⟨_, rfl⟩
      have h := h x5_44 ex5_44
      refine lv_iinc (v := x5_44) (lv' := [(5, .int x5_44), (0, .ref x0), (1, .int x1), (2, .int x2), (3, .int x3), (4, .int x4)]) hx hb dX12_tellLikes_44 hl (k := 5) rfl (by rw [ex5_44]; rfl) (by decide) rfl (fun ls hl => ?_)
      refine lv_goto (tgt := 23) hx hb dX12_tellLikes_47 (by decide) ?_
      exact hk_23 x0 x1 x2 x3 x4 x5_44 u_38 _ _ _ h (lv_sub hl [1, 2, 3, 4, 5, 0] rfl) hP
theorem l_X12_tellLikes_23 {G : Gx} {Q : Mm → Prop} {p : Program} {l : Launch} {e : Env} {s : State} {m : MethodId} {args : Array Value} {below : List Frame} {meth : Method} {c : Code} (C : Cx G p s m c cX12_tellLikes RX12 6) (hr : meth.sig.returnType = none) (hlk : meth.locks = false) {k_2 : Nat → Int32 → Int32 → Int32 → Mm → Prop} (hk_2 : ∀ (x0 : Nat) (x1 : Int32) (x2 : Int32) (x3 : Int32) (u : Mm) (H : Heap) (locs : List Loc) (ls : Array Slot), k_2 x0 x1 x2 x3 u → lv_has ls 6 [(0, .ref x0), (1, .int x1), (2, .int x2), (3, .int x3)] → Hp G u s H locs → W p l e rm_X12_tellLikes s m args below meth c H locs 0 0 (MQ below (Ev G Q) args s 0 0 (ag G)) (F0 m 2 ls [])) {k_13 : Nat → Int32 → Int32 → Int32 → Int32 → Mm → Prop} (hk_13 : ∀ (x0 : Nat) (x1 : Int32) (x2 : Int32) (x3 : Int32) (x4 : Int32) (u : Mm) (H : Heap) (locs : List Loc) (ls : Array Slot), k_13 x0 x1 x2 x3 x4 u → lv_has ls 6 [(0, .ref x0), (1, .int x1), (2, .int x2), (3, .int x3), (4, .int x4)] → Hp G u s H locs → W p l e rm_X12_tellLikes s m args below meth c H locs 0 0 (MQ below (Ev G Q) args s 0 0 (ag G)) (F0 m 13 ls [])) : ∀ (n : Nat) (x0 : Nat) (x1 : Int32) (x2 : Int32) (x3 : Int32) (x4 : Int32) (x5 : Int32) (u : Mm) (H : Heap) (locs : List Loc) (ls : Array Slot), V_X12_tellLikes_23 G Q k_2 k_13 n x0 x1 x2 x3 x4 x5 u → lv_has ls 6 [(0, .ref x0), (1, .int x1), (2, .int x2), (3, .int x3), (4, .int x4), (5, .int x5)] → Hp G u s H locs → W p l e rm_X12_tellLikes s m args below meth c H locs 0 0 (MQ below (Ev G Q) args s 0 0 (ag G)) (F0 m 23 ls []) := by
  intro n
  induction n with
  | zero => intro x0 x1 x2 x3 x4 x5 u H locs ls h; exact h.elim
  | succ n ih => intro x0 x1 x2 x3 x4 x5 u H locs ls h hl hP; exact b_X12_tellLikes_23 C hr hlk hk_2 hk_13 ih h hl hP
set_option maxHeartbeats 4000000 in
set_option maxRecDepth 100000 in
theorem b_X12_tellLikes_13 {G : Gx} {Q : Mm → Prop} {p : Program} {l : Launch} {e : Env} {s : State} {m : MethodId} {args : Array Value} {below : List Frame} {meth : Method} {c : Code} (C : Cx G p s m c cX12_tellLikes RX12 6) (hr : meth.sig.returnType = none) (hlk : meth.locks = false) {k_2 : Nat → Int32 → Int32 → Int32 → Mm → Prop} (hk_2 : ∀ (x0 : Nat) (x1 : Int32) (x2 : Int32) (x3 : Int32) (u : Mm) (H : Heap) (locs : List Loc) (ls : Array Slot), k_2 x0 x1 x2 x3 u → lv_has ls 6 [(0, .ref x0), (1, .int x1), (2, .int x2), (3, .int x3)] → Hp G u s H locs → W p l e rm_X12_tellLikes s m args below meth c H locs 0 0 (MQ below (Ev G Q) args s 0 0 (ag G)) (F0 m 2 ls [])) {k_13 : Nat → Int32 → Int32 → Int32 → Int32 → Mm → Prop} (hk_13 : ∀ (x0 : Nat) (x1 : Int32) (x2 : Int32) (x3 : Int32) (x4 : Int32) (u : Mm) (H : Heap) (locs : List Loc) (ls : Array Slot), k_13 x0 x1 x2 x3 x4 u → lv_has ls 6 [(0, .ref x0), (1, .int x1), (2, .int x2), (3, .int x3), (4, .int x4)] → Hp G u s H locs → W p l e rm_X12_tellLikes s m args below meth c H locs 0 0 (MQ below (Ev G Q) args s 0 0 (ag G)) (F0 m 13 ls [])) {x0 : Nat} {x1 : Int32} {x2 : Int32} {x3 : Int32} {x4 : Int32} {u : Mm} {H : Heap} {locs : List Loc} {ls : Array Slot} (h : V_X12_tellLikes_13_B G Q k_2 k_13 x0 x1 x2 x3 x4 u) (hl : lv_has ls 6 [(0, .ref x0), (1, .int x1), (2, .int x2), (3, .int x3), (4, .int x4)]) (hP : Hp G u s H locs) : W p l e rm_X12_tellLikes s m args below meth c H locs 0 0 (MQ below (Ev G Q) args s 0 0 (ag G)) (F0 m 13 ls []) := by
  have hx := C.1
  have hb := C.2.1
  unfold V_X12_tellLikes_13_B at h
  refine lv_iload hx hb dX12_tellLikes_13 (lv_at hl 4 rfl) ?_
  refine lv_bipush (v := (6 : Int32)) hx hb dX12_tellLikes_15 (by decide) ?_
  refine lv_icmp_ge (tgt := 70) hx hb dX12_tellLikes_17 (by decide) (fun c17 => ?_) (fun c17 => ?_)
  · have h := h.1 c17
    obtain ⟨x3_70, ex3_70⟩ : ∃ y : Int32, y = x3 + (1 : Int32) := ⟨_, rfl⟩
    have h := h x3_70 ex3_70
    refine lv_iinc (v := x3_70) (lv' := [(3, .int x3_70), (0, .ref x0), (1, .int x1), (2, .int x2), (4, .int x4)]) hx hb dX12_tellLikes_70 hl (k := 3) rfl (by rw [ex3_70]; rfl) (by decide) rfl (fun ls hl => ?_)
    refine lv_goto (tgt := 2) hx hb dX12_tellLikes_73 (by decide) ?_
    exact hk_2 x0 x1 x2 x3_70 u _ _ _ h (lv_sub hl [1, 2, 3, 0] rfl) hP
  · have h := h.2 c17
    refine lv_iconst (v := (0 : Int32)) hx hb dX12_tellLikes_20 (by decide) ?_
    refine lv_istore (lv' := [(5, .int (0 : Int32)), (0, .ref x0), (1, .int x1), (2, .int x2), (3, .int x3), (4, .int x4)]) hx hb dX12_tellLikes_21 hl (by decide) rfl (fun ls hl => ?_)
    obtain ⟨n, h⟩ := h
    exact l_X12_tellLikes_23 C hr hlk hk_2 hk_13 n x0 x1 x2 x3 x4 (0 : Int32) u _ _ _ h (lv_sub hl [1, 2, 3, 4, 5, 0] rfl) hP
theorem l_X12_tellLikes_13 {G : Gx} {Q : Mm → Prop} {p : Program} {l : Launch} {e : Env} {s : State} {m : MethodId} {args : Array Value} {below : List Frame} {meth : Method} {c : Code} (C : Cx G p s m c cX12_tellLikes RX12 6) (hr : meth.sig.returnType = none) (hlk : meth.locks = false) {k_2 : Nat → Int32 → Int32 → Int32 → Mm → Prop} (hk_2 : ∀ (x0 : Nat) (x1 : Int32) (x2 : Int32) (x3 : Int32) (u : Mm) (H : Heap) (locs : List Loc) (ls : Array Slot), k_2 x0 x1 x2 x3 u → lv_has ls 6 [(0, .ref x0), (1, .int x1), (2, .int x2), (3, .int x3)] → Hp G u s H locs → W p l e rm_X12_tellLikes s m args below meth c H locs 0 0 (MQ below (Ev G Q) args s 0 0 (ag G)) (F0 m 2 ls [])) : ∀ (n : Nat) (x0 : Nat) (x1 : Int32) (x2 : Int32) (x3 : Int32) (x4 : Int32) (u : Mm) (H : Heap) (locs : List Loc) (ls : Array Slot), V_X12_tellLikes_13 G Q k_2 n x0 x1 x2 x3 x4 u → lv_has ls 6 [(0, .ref x0), (1, .int x1), (2, .int x2), (3, .int x3), (4, .int x4)] → Hp G u s H locs → W p l e rm_X12_tellLikes s m args below meth c H locs 0 0 (MQ below (Ev G Q) args s 0 0 (ag G)) (F0 m 13 ls []) := by
  intro n
  induction n with
  | zero => intro x0 x1 x2 x3 x4 u H locs ls h; exact h.elim
  | succ n ih => intro x0 x1 x2 x3 x4 u H locs ls h hl hP; exact b_X12_tellLikes_13 C hr hlk hk_2 ih h hl hP
set_option maxHeartbeats 4000000 in
set_option maxRecDepth 100000 in
theorem b_X12_tellLikes_2 {G : Gx} {Q : Mm → Prop} {p : Program} {l : Launch} {e : Env} {s : State} {m : MethodId} {args : Array Value} {below : List Frame} {meth : Method} {c : Code} (C : Cx G p s m c cX12_tellLikes RX12 6) (hr : meth.sig.returnType = none) (hlk : meth.locks = false) {k_2 : Nat → Int32 → Int32 → Int32 → Mm → Prop} (hk_2 : ∀ (x0 : Nat) (x1 : Int32) (x2 : Int32) (x3 : Int32) (u : Mm) (H : Heap) (locs : List Loc) (ls : Array Slot), k_2 x0 x1 x2 x3 u → lv_has ls 6 [(0, .ref x0), (1, .int x1), (2, .int x2), (3, .int x3)] → Hp G u s H locs → W p l e rm_X12_tellLikes s m args below meth c H locs 0 0 (MQ below (Ev G Q) args s 0 0 (ag G)) (F0 m 2 ls [])) {x0 : Nat} {x1 : Int32} {x2 : Int32} {x3 : Int32} {u : Mm} {H : Heap} {locs : List Loc} {ls : Array Slot} (h : V_X12_tellLikes_2_B G Q k_2 x0 x1 x2 x3 u) (hl : lv_has ls 6 [(0, .ref x0), (1, .int x1), (2, .int x2), (3, .int x3)]) (hP : Hp G u s H locs) : W p l e rm_X12_tellLikes s m args below meth c H locs 0 0 (MQ below (Ev G Q) args s 0 0 (ag G)) (F0 m 2 ls []) := by
  have hx := C.1
  have hb := C.2.1
  unfold V_X12_tellLikes_2_B at h
  refine lv_iload_n hx hb dX12_tellLikes_2 rfl (lv_at hl 3 rfl) ?_
  refine lv_aload_n hx hb dX12_tellLikes_3 rfl (lv_at hl 0 rfl) ?_
  obtain ⟨g1, h⟩ := h
  refine q_getI C hP (k := 28) (lay_X12 C.hA) rfl (by decide) g1 (fl_X12_258 C.hA) dX12_tellLikes_4 ?_
  refine lv_icmp_ge (tgt := 76) hx hb dX12_tellLikes_7 (by decide) (fun c7 => ?_) (fun c7 => ?_)
  · have h := h.1 c7
    exact q_vret C hr hlk hP h (by decide) (by decide) dX12_tellLikes_76
  · have h := h.2 c7
    refine lv_iconst (v := (0 : Int32)) hx hb dX12_tellLikes_10 (by decide) ?_
    refine lv_istore (lv' := [(4, .int (0 : Int32)), (0, .ref x0), (1, .int x1), (2, .int x2), (3, .int x3)]) hx hb dX12_tellLikes_11 hl (by decide) rfl (fun ls hl => ?_)
    obtain ⟨n, h⟩ := h
    exact l_X12_tellLikes_13 C hr hlk hk_2 n x0 x1 x2 x3 (0 : Int32) u _ _ _ h (lv_sub hl [1, 2, 3, 4, 0] rfl) hP
theorem l_X12_tellLikes_2 {G : Gx} {Q : Mm → Prop} {p : Program} {l : Launch} {e : Env} {s : State} {m : MethodId} {args : Array Value} {below : List Frame} {meth : Method} {c : Code} (C : Cx G p s m c cX12_tellLikes RX12 6) (hr : meth.sig.returnType = none) (hlk : meth.locks = false) : ∀ (n : Nat) (x0 : Nat) (x1 : Int32) (x2 : Int32) (x3 : Int32) (u : Mm) (H : Heap) (locs : List Loc) (ls : Array Slot), V_X12_tellLikes_2 G Q n x0 x1 x2 x3 u → lv_has ls 6 [(0, .ref x0), (1, .int x1), (2, .int x2), (3, .int x3)] → Hp G u s H locs → W p l e rm_X12_tellLikes s m args below meth c H locs 0 0 (MQ below (Ev G Q) args s 0 0 (ag G)) (F0 m 2 ls []) := by
  intro n
  induction n with
  | zero => intro x0 x1 x2 x3 u H locs ls h; exact h.elim
  | succ n ih => intro x0 x1 x2 x3 u H locs ls h hl hP; exact b_X12_tellLikes_2 C hr hlk ih h hl hP
set_option maxHeartbeats 4000000 in
set_option maxRecDepth 100000 in
theorem c_X12_tellLikes {l : Launch} {G : Gx} {p0 : Nat} {p1 : Int32} {p2 : Int32} {u : Mm} {Q : Mm → Prop} (h : V_X12_tellLikes G p0 p1 p2 u Q) : Met l yX12_tellLikes [.code yX12_tellLikes cX12_tellLikes 6 none] rm_X12_tellLikes (va_Pc [.ref p0, .int p1, .int p2] (Wd G u)) (Ev G Q) 0 0 (ag G) := by
  refine q_met (by decide) (Nat.le_of_ble_eq_true rfl) ?_
  intro p e s m below meth c ls C hr hlk hnm hl hP
  have hl : lv_has ls 6 [(0, .ref p0), (1, .int p1), (2, .int p2)] := hl
  generalize ([.ref p0, .int p1, .int p2] : List Value).toArray = args
  have hx := C.1
  have hb := C.2.1
  unfold V_X12_tellLikes at h
  refine lv_iconst (v := (0 : Int32)) hx hb dX12_tellLikes_0 (by decide) ?_
  refine lv_istore_n (lv' := [(3, .int (0 : Int32)), (0, .ref p0), (1, .int p1), (2, .int p2)]) hx hb dX12_tellLikes_1 rfl hl (by decide) rfl (fun ls hl => ?_)
  obtain ⟨n, h⟩ := h
  exact l_X12_tellLikes_2 C hr hlk n p0 p1 p2 (0 : Int32) u _ _ _ h (lv_sub hl [1, 2, 3, 0] rfl) hP
-- X12_clapsBy
abbrev rm_X12_clapsBy : Room := { frames := 1, cells := 0, slots := 0, locals := 13 }
theorem hd_X12_clapsBy : yX12_clapsBy.cls ≠ "java/lang/invoke/MethodHandle" ∧ yX12_clapsBy.cls ≠ "java/lang/invoke/VarHandle" ∧ (parseMethodDescriptor yX12_clapsBy.desc).map (fun d => d.parameters.length) = some 2 := by decide +kernel
def V_X12_clapsBy_62 (G : Gx) (Q : Int32 → Mm → Prop) (k_5 : Nat → Int32 → Int32 → Int32 → Int32 → Mm → Prop) (k_18 : Nat → Int32 → Int32 → Int32 → Int32 → Int32 → Int32 → Mm → Prop) (x0 : Nat) (x1 : Int32) (x2 : Int32) (x3 : Int32) (x4 : Int32) (x6 : Int32) (t0 : Int32) (t1 : Int32) (u : Mm) : Prop :=
  ∀ x5_63 : Int32, x5_63 = (t0 ||| t1) → ∀ x6_65 : Int32, x6_65 = x6 + (1 : Int32) → k_18 x0 x1 x2 x3 x4 x5_63 x6_65 u
def V_X12_clapsBy_61 (G : Gx) (Q : Int32 → Mm → Prop) (k_5 : Nat → Int32 → Int32 → Int32 → Int32 → Mm → Prop) (k_18 : Nat → Int32 → Int32 → Int32 → Int32 → Int32 → Int32 → Mm → Prop) (x0 : Nat) (x1 : Int32) (x2 : Int32) (x3 : Int32) (x4 : Int32) (x6 : Int32) (t0 : Int32) (u : Mm) : Prop :=
  V_X12_clapsBy_62 G Q k_5 k_18 x0 x1 x2 x3 x4 x6 t0 (0 : Int32) u
def V_X12_clapsBy_18_B (G : Gx) (Q : Int32 → Mm → Prop) (k_5 : Nat → Int32 → Int32 → Int32 → Int32 → Mm → Prop) (k_18 : Nat → Int32 → Int32 → Int32 → Int32 → Int32 → Int32 → Mm → Prop) (x0 : Nat) (x1 : Int32) (x2 : Int32) (x3 : Int32) (x4 : Int32) (x5 : Int32) (x6 : Int32) (u : Mm) : Prop :=
  (((6 : Int32) ≤ x6 → ((x5 = x1 → Q (-1 : Int32) u) ∧ (¬ x5 = x1 → kd G x0 = 12 ∧ (gR u x0 44) ≠ 0 ∧ kd G (gR u x0 44) = 13 ∧ vp_in x5 (ln G (gR u x0 44)) ∧ (((gI u (gR u x0 44) x5.toNatClampNeg) = (-1 : Int32) → Q (-1 : Int32) u) ∧ (¬ (gI u (gR u x0 44) x5.toNatClampNeg) = (-1 : Int32) → ∀ x3_101 : Int32, x3_101 = (mx x3 (gI u (gR u x0 44) x5.toNatClampNeg)) → ∀ x4_102 : Int32, x4_102 = x4 + (1 : Int32) → k_5 x0 x1 x2 x3_101 x4_102 u))))) ∧ (¬ (6 : Int32) ≤ x6 → ((((shr x1 x6) &&& (1 : Int32)) = (1 : Int32) → kd G x0 = 12 ∧ (gR u x0 43) ≠ 0 ∧ kd G (gR u x0 43) = 13 ∧ vp_in (((6 : Int32) * x2) + x6) (ln G (gR u x0 43)) ∧ (((gI u (gR u x0 43) (((6 : Int32) * x2) + x6).toNatClampNeg) = x4 → V_X12_clapsBy_62 G Q k_5 k_18 x0 x1 x2 x3 x4 x6 x5 (shl (1 : Int32) x6) u) ∧ (¬ (gI u (gR u x0 43) (((6 : Int32) * x2) + x6).toNatClampNeg) = x4 → V_X12_clapsBy_61 G Q k_5 k_18 x0 x1 x2 x3 x4 x6 x5 u))) ∧ (¬ ((shr x1 x6) &&& (1 : Int32)) = (1 : Int32) → V_X12_clapsBy_61 G Q k_5 k_18 x0 x1 x2 x3 x4 x6 x5 u))))
def V_X12_clapsBy_18 (G : Gx) (Q : Int32 → Mm → Prop) (k_5 : Nat → Int32 → Int32 → Int32 → Int32 → Mm → Prop) : Nat → (Nat → Int32 → Int32 → Int32 → Int32 → Int32 → Int32 → Mm → Prop)
  | 0 => fun _ _ _ _ _ _ _ _ => False
  | n + 1 => fun x0 x1 x2 x3 x4 x5 x6 u => V_X12_clapsBy_18_B G Q k_5 (V_X12_clapsBy_18 G Q k_5 n) x0 x1 x2 x3 x4 x5 x6 u
def V_X12_clapsBy_5_B (G : Gx) (Q : Int32 → Mm → Prop) (k_5 : Nat → Int32 → Int32 → Int32 → Int32 → Mm → Prop) (x0 : Nat) (x1 : Int32) (x2 : Int32) (x3 : Int32) (x4 : Int32) (u : Mm) : Prop :=
  (((6 : Int32) ≤ x4 → Q (x3 + (1 : Int32)) u) ∧ (¬ (6 : Int32) ≤ x4 → ∃ n : Nat, V_X12_clapsBy_18 G Q k_5 n x0 x1 x2 x3 x4 (0 : Int32) (0 : Int32) u))
def V_X12_clapsBy_5 (G : Gx) (Q : Int32 → Mm → Prop) : Nat → (Nat → Int32 → Int32 → Int32 → Int32 → Mm → Prop)
  | 0 => fun _ _ _ _ _ _ => False
  | n + 1 => fun x0 x1 x2 x3 x4 u => V_X12_clapsBy_5_B G Q (V_X12_clapsBy_5 G Q n) x0 x1 x2 x3 x4 u
def V_X12_clapsBy (G : Gx) (p0 : Nat) (p1 : Int32) (p2 : Int32) (u : Mm) (Q : Int32 → Mm → Prop) : Prop :=
  ∃ n : Nat, V_X12_clapsBy_5 G Q n p0 p1 p2 (0 : Int32) (0 : Int32) u
set_option maxHeartbeats 4000000 in
set_option maxRecDepth 100000 in
theorem b_X12_clapsBy_62 {G : Gx} {Q : Int32 → Mm → Prop} {p : Program} {l : Launch} {e : Env} {s : State} {m : MethodId} {args : Array Value} {below : List Frame} {meth : Method} {c : Code} (C : Cx G p s m c cX12_clapsBy RX12 7) (hr : meth.sig.returnType = (some .int)) (hlk : meth.locks = false) {k_5 : Nat → Int32 → Int32 → Int32 → Int32 → Mm → Prop} (hk_5 : ∀ (x0 : Nat) (x1 : Int32) (x2 : Int32) (x3 : Int32) (x4 : Int32) (u : Mm) (H : Heap) (locs : List Loc) (ls : Array Slot), k_5 x0 x1 x2 x3 x4 u → lv_has ls 7 [(0, .ref x0), (1, .int x1), (2, .int x2), (3, .int x3), (4, .int x4)] → Hp G u s H locs → W p l e rm_X12_clapsBy s m args below meth c H locs 0 0 (MQ below (Ei G Q) args s 0 0 (ag G)) (F0 m 5 ls [])) {k_18 : Nat → Int32 → Int32 → Int32 → Int32 → Int32 → Int32 → Mm → Prop} (hk_18 : ∀ (x0 : Nat) (x1 : Int32) (x2 : Int32) (x3 : Int32) (x4 : Int32) (x5 : Int32) (x6 : Int32) (u : Mm) (H : Heap) (locs : List Loc) (ls : Array Slot), k_18 x0 x1 x2 x3 x4 x5 x6 u → lv_has ls 7 [(0, .ref x0), (1, .int x1), (2, .int x2), (3, .int x3), (4, .int x4), (5, .int x5), (6, .int x6)] → Hp G u s H locs → W p l e rm_X12_clapsBy s m args below meth c H locs 0 0 (MQ below (Ei G Q) args s 0 0 (ag G)) (F0 m 18 ls [])) {x0 : Nat} {x1 : Int32} {x2 : Int32} {x3 : Int32} {x4 : Int32} {x6 : Int32} {t0 : Int32} {t1 : Int32} {u : Mm} {H : Heap} {locs : List Loc} {ls : Array Slot} (h : V_X12_clapsBy_62 G Q k_5 k_18 x0 x1 x2 x3 x4 x6 t0 t1 u) (hl : lv_has ls 7 [(0, .ref x0), (1, .int x1), (2, .int x2), (3, .int x3), (4, .int x4), (6, .int x6)]) (hP : Hp G u s H locs) : W p l e rm_X12_clapsBy s m args below meth c H locs 0 0 (MQ below (Ei G Q) args s 0 0 (ag G)) (F0 m 62 ls [.int t1, .int t0]) := by
  have hx := C.1
  have hb := C.2.1
  unfold V_X12_clapsBy_62 at h
  refine lv_ior hx hb dX12_clapsBy_62 ?_
  refine lv_topi (fun x5_63 ex5_63 => ?_)
  have h := h x5_63 ex5_63
  refine lv_istore (lv' := [(5, .int x5_63), (0, .ref x0), (1, .int x1), (2, .int x2), (3, .int x3), (4, .int x4), (6, .int x6)]) hx hb dX12_clapsBy_63 hl (by decide) rfl (fun ls hl => ?_)
  obtain ⟨x6_65, ex6_65⟩ : ∃ y : Int32, y = x6 + (1 : Int32) := ⟨_, rfl⟩
  have h := h x6_65 ex6_65
  refine lv_iinc (v := x6_65) (lv' := [(6, .int x6_65), (5, .int x5_63), (0, .ref x0), (1, .int x1), (2, .int x2), (3, .int x3), (4, .int x4)]) hx hb dX12_clapsBy_65 hl (k := 6) rfl (by rw [ex6_65]; rfl) (by decide) rfl (fun ls hl => ?_)
  refine lv_goto (tgt := 18) hx hb dX12_clapsBy_68 (by decide) ?_
  exact hk_18 x0 x1 x2 x3 x4 x5_63 x6_65 u _ _ _ h (lv_sub hl [2, 3, 4, 5, 6, 1, 0] rfl) hP
set_option maxHeartbeats 4000000 in
set_option maxRecDepth 100000 in
theorem b_X12_clapsBy_61 {G : Gx} {Q : Int32 → Mm → Prop} {p : Program} {l : Launch} {e : Env} {s : State} {m : MethodId} {args : Array Value} {below : List Frame} {meth : Method} {c : Code} (C : Cx G p s m c cX12_clapsBy RX12 7) (hr : meth.sig.returnType = (some .int)) (hlk : meth.locks = false) {k_5 : Nat → Int32 → Int32 → Int32 → Int32 → Mm → Prop} (hk_5 : ∀ (x0 : Nat) (x1 : Int32) (x2 : Int32) (x3 : Int32) (x4 : Int32) (u : Mm) (H : Heap) (locs : List Loc) (ls : Array Slot), k_5 x0 x1 x2 x3 x4 u → lv_has ls 7 [(0, .ref x0), (1, .int x1), (2, .int x2), (3, .int x3), (4, .int x4)] → Hp G u s H locs → W p l e rm_X12_clapsBy s m args below meth c H locs 0 0 (MQ below (Ei G Q) args s 0 0 (ag G)) (F0 m 5 ls [])) {k_18 : Nat → Int32 → Int32 → Int32 → Int32 → Int32 → Int32 → Mm → Prop} (hk_18 : ∀ (x0 : Nat) (x1 : Int32) (x2 : Int32) (x3 : Int32) (x4 : Int32) (x5 : Int32) (x6 : Int32) (u : Mm) (H : Heap) (locs : List Loc) (ls : Array Slot), k_18 x0 x1 x2 x3 x4 x5 x6 u → lv_has ls 7 [(0, .ref x0), (1, .int x1), (2, .int x2), (3, .int x3), (4, .int x4), (5, .int x5), (6, .int x6)] → Hp G u s H locs → W p l e rm_X12_clapsBy s m args below meth c H locs 0 0 (MQ below (Ei G Q) args s 0 0 (ag G)) (F0 m 18 ls [])) {x0 : Nat} {x1 : Int32} {x2 : Int32} {x3 : Int32} {x4 : Int32} {x6 : Int32} {t0 : Int32} {u : Mm} {H : Heap} {locs : List Loc} {ls : Array Slot} (h : V_X12_clapsBy_61 G Q k_5 k_18 x0 x1 x2 x3 x4 x6 t0 u) (hl : lv_has ls 7 [(0, .ref x0), (1, .int x1), (2, .int x2), (3, .int x3), (4, .int x4), (6, .int x6)]) (hP : Hp G u s H locs) : W p l e rm_X12_clapsBy s m args below meth c H locs 0 0 (MQ below (Ei G Q) args s 0 0 (ag G)) (F0 m 61 ls [.int t0]) := by
  have hx := C.1
  have hb := C.2.1
  unfold V_X12_clapsBy_61 at h
  refine lv_iconst (v := (0 : Int32)) hx hb dX12_clapsBy_61 (by decide) ?_
  exact b_X12_clapsBy_62 C hr hlk hk_5 hk_18 h (lv_sub hl [0, 1, 2, 3, 4, 5] rfl) hP
set_option maxHeartbeats 4000000 in
set_option maxRecDepth 100000 in
theorem b_X12_clapsBy_18 {G : Gx} {Q : Int32 → Mm → Prop} {p : Program} {l : Launch} {e : Env} {s : State} {m : MethodId} {args : Array Value} {below : List Frame} {meth : Method} {c : Code} (C : Cx G p s m c cX12_clapsBy RX12 7) (hr : meth.sig.returnType = (some .int)) (hlk : meth.locks = false) {k_5 : Nat → Int32 → Int32 → Int32 → Int32 → Mm → Prop} (hk_5 : ∀ (x0 : Nat) (x1 : Int32) (x2 : Int32) (x3 : Int32) (x4 : Int32) (u : Mm) (H : Heap) (locs : List Loc) (ls : Array Slot), k_5 x0 x1 x2 x3 x4 u → lv_has ls 7 [(0, .ref x0), (1, .int x1), (2, .int x2), (3, .int x3), (4, .int x4)] → Hp G u s H locs → W p l e rm_X12_clapsBy s m args below meth c H locs 0 0 (MQ below (Ei G Q) args s 0 0 (ag G)) (F0 m 5 ls [])) {k_18 : Nat → Int32 → Int32 → Int32 → Int32 → Int32 → Int32 → Mm → Prop} (hk_18 : ∀ (x0 : Nat) (x1 : Int32) (x2 : Int32) (x3 : Int32) (x4 : Int32) (x5 : Int32) (x6 : Int32) (u : Mm) (H : Heap) (locs : List Loc) (ls : Array Slot), k_18 x0 x1 x2 x3 x4 x5 x6 u → lv_has ls 7 [(0, .ref x0), (1, .int x1), (2, .int x2), (3, .int x3), (4, .int x4), (5, .int x5), (6, .int x6)] → Hp G u s H locs → W p l e rm_X12_clapsBy s m args below meth c H locs 0 0 (MQ below (Ei G Q) args s 0 0 (ag G)) (F0 m 18 ls [])) {x0 : Nat} {x1 : Int32} {x2 : Int32} {x3 : Int32} {x4 : Int32} {x5 : Int32} {x6 : Int32} {u : Mm} {H : Heap} {locs : List Loc} {ls : Array Slot} (h : V_X12_clapsBy_18_B G Q k_5 k_18 x0 x1 x2 x3 x4 x5 x6 u) (hl : lv_has ls 7 [(0, .ref x0), (1, .int x1), (2, .int x2), (3, .int x3), (4, .int x4), (5, .int x5), (6, .int x6)]) (hP : Hp G u s H locs) : W p l e rm_X12_clapsBy s m args below meth c H locs 0 0 (MQ below (Ei G Q) args s 0 0 (ag G)) (F0 m 18 ls []) := by
  have hx := C.1
  have hb := C.2.1
  unfold V_X12_clapsBy_18_B at h
  refine lv_iload hx hb dX12_clapsBy_18 (lv_at hl 6 rfl) ?_
  refine lv_bipush (v := (6 : Int32)) hx hb dX12_clapsBy_20 (by decide) ?_
  refine lv_icmp_ge (tgt := 71) hx hb dX12_clapsBy_22 (by decide) (fun c22 => ?_) (fun c22 => ?_)
  · have h := h.1 c22
    refine lv_iload hx hb dX12_clapsBy_71 (lv_at hl 5 rfl) ?_
    refine lv_iload_n hx hb dX12_clapsBy_73 rfl (lv_at hl 1 rfl) ?_
    refine lv_icmp_eq (tgt := 88) hx hb dX12_clapsBy_74 (by decide) (fun c74 => ?_) (fun c74 => ?_)
    · have h := h.1 c74
      refine lv_iconst (v := (-1 : Int32)) hx hb dX12_clapsBy_88 (by decide) ?_
      exact q_iret C hr hlk hP h (by decide) (by decide) dX12_clapsBy_89
    · have h := h.2 c74
      refine lv_aload_n hx hb dX12_clapsBy_77 rfl (lv_at hl 0 rfl) ?_
      obtain ⟨g1, h⟩ := h
      obtain ⟨g2, h⟩ := h
      refine q_getR C hP (k := 44) (lay_X12 C.hA) rfl (by decide) g1 g2 (fl_X12_110 C.hA) dX12_clapsBy_78 ?_
      refine lv_iload hx hb dX12_clapsBy_81 (lv_at hl 5 rfl) ?_
      obtain ⟨g3, h⟩ := h
      obtain ⟨g4, h⟩ := h
      refine q_iald C hP g3 g4 dX12_clapsBy_83 ?_
      refine lv_iconst (v := (-1 : Int32)) hx hb dX12_clapsBy_84 (by decide) ?_
      refine lv_icmp_ne (tgt := 90) hx hb dX12_clapsBy_85 (by decide) (fun c85 => ?_) (fun c85 => ?_)
      · have h := h.2 c85
        refine lv_iload_n hx hb dX12_clapsBy_90 rfl (lv_at hl 3 rfl) ?_
        refine lv_aload_n hx hb dX12_clapsBy_91 rfl (lv_at hl 0 rfl) ?_
        refine q_getR C hP (k := 44) (lay_X12 C.hA) rfl (by decide) g1 g2 (fl_X12_110 C.hA) dX12_clapsBy_92 ?_
        refine lv_iload hx hb dX12_clapsBy_95 (lv_at hl 5 rfl) ?_
        refine q_iald C hP g3 g4 dX12_clapsBy_97 ?_
        refine va_mmax hx hb (C.2.2.2.1.trans hl.1.symm) C.2.2.1 (ml_X12_264 C.hA) (st_J9_max_7cf53 C.hA) (ini_J9 C.hA) (cd_J9_max_7cf53 C.hA) (Nat.le_of_ble_eq_true rfl) (Nat.le_of_ble_eq_true rfl) (Nat.le_of_ble_eq_true rfl) (Nat.le_of_ble_eq_true rfl) dX12_clapsBy_98 ?_
        refine lv_topi (fun x3_101 ex3_101 => ?_)
        have h := h x3_101 ex3_101
        refine lv_istore_n (lv' := [(3, .int x3_101), (0, .ref x0), (1, .int x1), (2, .int x2), (4, .int x4), (5, .int x5), (6, .int x6)]) hx hb dX12_clapsBy_101 rfl hl (by decide) rfl (fun ls hl => ?_)
        obtain ⟨x4_102, ex4_102⟩ : ∃ y : Int32, y = x4 + (1 : Int32) := ⟨_, rfl⟩
        have h := h x4_102 ex4_102
        refine lv_iinc (v := x4_102) (lv' := [(4, .int x4_102), (3, .int x3_101), (0, .ref x0), (1, .int x1), (2, .int x2), (5, .int x5), (6, .int x6)]) hx hb dX12_clapsBy_102 hl (k := 4) rfl (by rw [ex4_102]; rfl) (by decide) rfl (fun ls hl => ?_)
        refine lv_goto (tgt := 5) hx hb dX12_clapsBy_105 (by decide) ?_
        exact hk_5 x0 x1 x2 x3_101 x4_102 u _ _ _ h (lv_sub hl [2, 3, 4, 1, 0] rfl) hP
      · have h := h.1 c85
        refine lv_iconst (v := (-1 : Int32)) hx hb dX12_clapsBy_88 (by decide) ?_
        exact q_iret C hr hlk hP h (by decide) (by decide) dX12_clapsBy_89
  · have h := h.2 c22
    refine lv_iload hx hb dX12_clapsBy_25 (lv_at hl 5 rfl) ?_
    refine lv_iload_n hx hb dX12_clapsBy_27 rfl (lv_at hl 1 rfl) ?_
    refine lv_iload hx hb dX12_clapsBy_28 (lv_at hl 6 rfl) ?_
    refine lv_ishr hx hb dX12_clapsBy_30 ?_
    refine lv_iconst (v := (1 : Int32)) hx hb dX12_clapsBy_31 (by decide) ?_
    refine lv_iand hx hb dX12_clapsBy_32 ?_
    refine lv_iconst (v := (1 : Int32)) hx hb dX12_clapsBy_33 (by decide) ?_
    refine lv_icmp_ne (tgt := 61) hx hb dX12_clapsBy_34 (by decide) (fun c34 => ?_) (fun c34 => ?_)
    · have h := h.2 c34
      exact b_X12_clapsBy_61 C hr hlk hk_5 hk_18 h (lv_sub hl [0, 1, 2, 3, 4, 6] rfl) hP
    · have h := h.1 c34
      refine lv_aload_n hx hb dX12_clapsBy_37 rfl (lv_at hl 0 rfl) ?_
      obtain ⟨g5, h⟩ := h
      obtain ⟨g6, h⟩ := h
      refine q_getR C hP (k := 43) (lay_X12 C.hA) rfl (by decide) g5 g6 (fl_X12_107 C.hA) dX12_clapsBy_38 ?_
      refine lv_bipush (v := (6 : Int32)) hx hb dX12_clapsBy_41 (by decide) ?_
      refine lv_iload_n hx hb dX12_clapsBy_43 rfl (lv_at hl 2 rfl) ?_
      refine lv_imul hx hb dX12_clapsBy_44 ?_
      refine lv_iload hx hb dX12_clapsBy_45 (lv_at hl 6 rfl) ?_
      refine lv_iadd hx hb dX12_clapsBy_47 ?_
      obtain ⟨g7, h⟩ := h
      obtain ⟨g8, h⟩ := h
      refine q_iald C hP g7 g8 dX12_clapsBy_48 ?_
      refine lv_iload hx hb dX12_clapsBy_49 (lv_at hl 4 rfl) ?_
      refine lv_icmp_ne (tgt := 61) hx hb dX12_clapsBy_51 (by decide) (fun c51 => ?_) (fun c51 => ?_)
      · have h := h.2 c51
        exact b_X12_clapsBy_61 C hr hlk hk_5 hk_18 h (lv_sub hl [0, 1, 2, 3, 4, 6] rfl) hP
      · have h := h.1 c51
        refine lv_iconst (v := (1 : Int32)) hx hb dX12_clapsBy_54 (by decide) ?_
        refine lv_iload hx hb dX12_clapsBy_55 (lv_at hl 6 rfl) ?_
        refine lv_ishl hx hb dX12_clapsBy_57 ?_
        refine lv_goto (tgt := 62) hx hb dX12_clapsBy_58 (by decide) ?_
        exact b_X12_clapsBy_62 C hr hlk hk_5 hk_18 h (lv_sub hl [0, 1, 2, 3, 4, 6] rfl) hP
theorem l_X12_clapsBy_18 {G : Gx} {Q : Int32 → Mm → Prop} {p : Program} {l : Launch} {e : Env} {s : State} {m : MethodId} {args : Array Value} {below : List Frame} {meth : Method} {c : Code} (C : Cx G p s m c cX12_clapsBy RX12 7) (hr : meth.sig.returnType = (some .int)) (hlk : meth.locks = false) {k_5 : Nat → Int32 → Int32 → Int32 → Int32 → Mm → Prop} (hk_5 : ∀ (x0 : Nat) (x1 : Int32) (x2 : Int32) (x3 : Int32) (x4 : Int32) (u : Mm) (H : Heap) (locs : List Loc) (ls : Array Slot), k_5 x0 x1 x2 x3 x4 u → lv_has ls 7 [(0, .ref x0), (1, .int x1), (2, .int x2), (3, .int x3), (4, .int x4)] → Hp G u s H locs → W p l e rm_X12_clapsBy s m args below meth c H locs 0 0 (MQ below (Ei G Q) args s 0 0 (ag G)) (F0 m 5 ls [])) : ∀ (n : Nat) (x0 : Nat) (x1 : Int32) (x2 : Int32) (x3 : Int32) (x4 : Int32) (x5 : Int32) (x6 : Int32) (u : Mm) (H : Heap) (locs : List Loc) (ls : Array Slot), V_X12_clapsBy_18 G Q k_5 n x0 x1 x2 x3 x4 x5 x6 u → lv_has ls 7 [(0, .ref x0), (1, .int x1), (2, .int x2), (3, .int x3), (4, .int x4), (5, .int x5), (6, .int x6)] → Hp G u s H locs → W p l e rm_X12_clapsBy s m args below meth c H locs 0 0 (MQ below (Ei G Q) args s 0 0 (ag G)) (F0 m 18 ls []) := by
  intro n
  induction n with
  | zero => intro x0 x1 x2 x3 x4 x5 x6 u H locs ls h; exact h.elim
  | succ n ih => intro x0 x1 x2 x3 x4 x5 x6 u H locs ls h hl hP; exact b_X12_clapsBy_18 C hr hlk hk_5 ih h hl hP
set_option maxHeartbeats 4000000 in
set_option maxRecDepth 100000 in
theorem b_X12_clapsBy_5 {G : Gx} {Q : Int32 → Mm → Prop} {p : Program} {l : Launch} {e : Env} {s : State} {m : MethodId} {args : Array Value} {below : List Frame} {meth : Method} {c : Code} (C : Cx G p s m c cX12_clapsBy RX12 7) (hr : meth.sig.returnType = (some .int)) (hlk : meth.locks = false) {k_5 : Nat → Int32 → Int32 → Int32 → Int32 → Mm → Prop} (hk_5 : ∀ (x0 : Nat) (x1 : Int32) (x2 : Int32) (x3 : Int32) (x4 : Int32) (u : Mm) (H : Heap) (locs : List Loc) (ls : Array Slot), k_5 x0 x1 x2 x3 x4 u → lv_has ls 7 [(0, .ref x0), (1, .int x1), (2, .int x2), (3, .int x3), (4, .int x4)] → Hp G u s H locs → W p l e rm_X12_clapsBy s m args below meth c H locs 0 0 (MQ below (Ei G Q) args s 0 0 (ag G)) (F0 m 5 ls [])) {x0 : Nat} {x1 : Int32} {x2 : Int32} {x3 : Int32} {x4 : Int32} {u : Mm} {H : Heap} {locs : List Loc} {ls : Array Slot} (h : V_X12_clapsBy_5_B G Q k_5 x0 x1 x2 x3 x4 u) (hl : lv_has ls 7 [(0, .ref x0), (1, .int x1), (2, .int x2), (3, .int x3), (4, .int x4)]) (hP : Hp G u s H locs) : W p l e rm_X12_clapsBy s m args below meth c H locs 0 0 (MQ below (Ei G Q) args s 0 0 (ag G)) (F0 m 5 ls []) := by
  have hx := C.1
  have hb := C.2.1
  unfold V_X12_clapsBy_5_B at h
  refine lv_iload hx hb dX12_clapsBy_5 (lv_at hl 4 rfl) ?_
  refine lv_bipush (v := (6 : Int32)) hx hb dX12_clapsBy_7 (by decide) ?_
  refine lv_icmp_ge (tgt := 108) hx hb dX12_clapsBy_9 (by decide) (fun c9 => ?_) (fun c9 => ?_)
  · have h := h.1 c9
    refine lv_iload_n hx hb dX12_clapsBy_108 rfl (lv_at hl 3 rfl) ?_
    refine lv_iconst (v := (1 : Int32)) hx hb dX12_clapsBy_109 (by decide) ?_
    refine lv_iadd hx hb dX12_clapsBy_110 ?_
    exact q_iret C hr hlk hP h (by decide) (by decide) dX12_clapsBy_111
  · have h := h.2 c9
    refine lv_iconst (v := (0 : Int32)) hx hb dX12_clapsBy_12 (by decide) ?_
    refine lv_istore (lv' := [(5, .int (0 : Int32)), (0, .ref x0), (1, .int x1), (2, .int x2), (3, .int x3), (4, .int x4)]) hx hb dX12_clapsBy_13 hl (by decide) rfl (fun ls hl => ?_)
    refine lv_iconst (v := (0 : Int32)) hx hb dX12_clapsBy_15 (by decide) ?_
    refine lv_istore (lv' := [(6, .int (0 : Int32)), (5, .int (0 : Int32)), (0, .ref x0), (1, .int x1), (2, .int x2), (3, .int x3), (4, .int x4)]) hx hb dX12_clapsBy_16 hl (by decide) rfl (fun ls hl => ?_)
    obtain ⟨n, h⟩ := h
    exact l_X12_clapsBy_18 C hr hlk hk_5 n x0 x1 x2 x3 x4 (0 : Int32) (0 : Int32) u _ _ _ h (lv_sub hl [2, 3, 4, 5, 6, 1, 0] rfl) hP
theorem l_X12_clapsBy_5 {G : Gx} {Q : Int32 → Mm → Prop} {p : Program} {l : Launch} {e : Env} {s : State} {m : MethodId} {args : Array Value} {below : List Frame} {meth : Method} {c : Code} (C : Cx G p s m c cX12_clapsBy RX12 7) (hr : meth.sig.returnType = (some .int)) (hlk : meth.locks = false) : ∀ (n : Nat) (x0 : Nat) (x1 : Int32) (x2 : Int32) (x3 : Int32) (x4 : Int32) (u : Mm) (H : Heap) (locs : List Loc) (ls : Array Slot), V_X12_clapsBy_5 G Q n x0 x1 x2 x3 x4 u → lv_has ls 7 [(0, .ref x0), (1, .int x1), (2, .int x2), (3, .int x3), (4, .int x4)] → Hp G u s H locs → W p l e rm_X12_clapsBy s m args below meth c H locs 0 0 (MQ below (Ei G Q) args s 0 0 (ag G)) (F0 m 5 ls []) := by
  intro n
  induction n with
  | zero => intro x0 x1 x2 x3 x4 u H locs ls h; exact h.elim
  | succ n ih => intro x0 x1 x2 x3 x4 u H locs ls h hl hP; exact b_X12_clapsBy_5 C hr hlk ih h hl hP
set_option maxHeartbeats 4000000 in
set_option maxRecDepth 100000 in
theorem c_X12_clapsBy {l : Launch} {G : Gx} {p0 : Nat} {p1 : Int32} {p2 : Int32} {u : Mm} {Q : Int32 → Mm → Prop} (h : V_X12_clapsBy G p0 p1 p2 u Q) : Met l yX12_clapsBy [.code yX12_clapsBy cX12_clapsBy 7 (some .int)] rm_X12_clapsBy (va_Pc [.ref p0, .int p1, .int p2] (Wd G u)) (Ei G Q) 0 0 (ag G) := by
  refine q_met (by decide) (Nat.le_of_ble_eq_true rfl) ?_
  intro p e s m below meth c ls C hr hlk hnm hl hP
  have hl : lv_has ls 7 [(0, .ref p0), (1, .int p1), (2, .int p2)] := hl
  generalize ([.ref p0, .int p1, .int p2] : List Value).toArray = args
  have hx := C.1
  have hb := C.2.1
  unfold V_X12_clapsBy at h
  refine lv_iconst (v := (0 : Int32)) hx hb dX12_clapsBy_0 (by decide) ?_
  refine lv_istore_n (lv' := [(3, .int (0 : Int32)), (0, .ref p0), (1, .int p1), (2, .int p2)]) hx hb dX12_clapsBy_1 rfl hl (by decide) rfl (fun ls hl => ?_)
  refine lv_iconst (v := (0 : Int32)) hx hb dX12_clapsBy_2 (by decide) ?_
  refine lv_istore (lv' := [(4, .int (0 : Int32)), (3, .int (0 : Int32)), (0, .ref p0), (1, .int p1), (2, .int p2)]) hx hb dX12_clapsBy_3 hl (by decide) rfl (fun ls hl => ?_)
  obtain ⟨n, h⟩ := h
  exact l_X12_clapsBy_5 C hr hlk n p0 p1 p2 (0 : Int32) (0 : Int32) u _ _ _ h (lv_sub hl [2, 3, 4, 1, 0] rfl) hP
-- X12_next
abbrev rm_X12_next : Room := { frames := 8, cells := 0, slots := 0, locals := 227 }
theorem hd_X12_next : yX12_next.cls ≠ "java/lang/invoke/MethodHandle" ∧ yX12_next.cls ≠ "java/lang/invoke/VarHandle" ∧ (parseMethodDescriptor yX12_next.desc).map (fun d => d.parameters.length) = some 4 := by decide +kernel
def V_X12_next_176 (G : Gx) (Q : Int32 → Mm → Prop) (k_64 : Nat → Int32 → Int32 → Int32 → Int32 → Mm → Prop) (x0 : Nat) (x1 : Int32) (x4 : Int32) (x5 : Int32) (x6 : Int32) (u : Mm) : Prop :=
  ∀ x6_176 : Int32, x6_176 = x6 + (1 : Int32) → k_64 x0 x1 x4 x5 x6_176 u
def V_X12_next_170 (G : Gx) (Q : Int32 → Mm → Prop) (k_64 : Nat → Int32 → Int32 → Int32 → Int32 → Mm → Prop) (k_97 : Nat → Int32 → Int32 → Int32 → Int32 → Int32 → Mm → Prop) (x0 : Nat) (x1 : Int32) (x4 : Int32) (x5 : Int32) (x6 : Int32) (x7 : Int32) (u : Mm) : Prop :=
  ∀ x7_170 : Int32, x7_170 = x7 + (1 : Int32) → k_97 x0 x1 x4 x5 x6 x7_170 u
def V_X12_next_157 (G : Gx) (Q : Int32 → Mm → Prop) (k_64 : Nat → Int32 → Int32 → Int32 → Int32 → Mm → Prop) (k_97 : Nat → Int32 → Int32 → Int32 → Int32 → Int32 → Mm → Prop) (x0 : Nat) (x1 : Int32) (x4 : Int32) (x6 : Int32) (x7 : Int32) (x8 : Int32) (u : Mm) : Prop :=
  kd G x0 = 12 ∧ (gR u x0 44) ≠ 0 ∧ kd G (gR u x0 44) = 13 ∧ vp_in x6 (ln G (gR u x0 44)) ∧ ∀ u_165 : Mm, u_165 = sI u (gR u x0 44) x6.toNatClampNeg x8 → V_X12_next_170 G Q k_64 k_97 x0 x1 x4 x7 x6 x7 u_165
def V_X12_next_97_B (G : Gx) (Q : Int32 → Mm → Prop) (k_64 : Nat → Int32 → Int32 → Int32 → Int32 → Mm → Prop) (k_97 : Nat → Int32 → Int32 → Int32 → Int32 → Int32 → Mm → Prop) (x0 : Nat) (x1 : Int32) (x4 : Int32) (x5 : Int32) (x6 : Int32) (x7 : Int32) (u : Mm) : Prop :=
  kd G x0 = 12 ∧ (((gI u x0 28) ≤ x7 → V_X12_next_176 G Q k_64 x0 x1 x4 x5 x6 u) ∧ (¬ (gI u x0 28) ≤ x7 → V_X12_bitsOf G x6 u (fun (v_108 : Int32) (u_108 : Mm) => ((v_108 ≤ (1 : Int32) → V_X12_next_176 G Q k_64 x0 x1 x4 x5 x6 u_108) ∧ (¬ v_108 ≤ (1 : Int32) → V_X12_clapsBy G x0 x6 x7 u_108 (fun (v_120 : Int32) (u_120 : Mm) => ((v_120 = (-1 : Int32) → V_X12_next_170 G Q k_64 k_97 x0 x1 x4 x5 x6 x7 u_120) ∧ (¬ v_120 = (-1 : Int32) → (gR u_120 x0 44) ≠ 0 ∧ kd G (gR u_120 x0 44) = 13 ∧ vp_in x6 (ln G (gR u_120 x0 44)) ∧ (((gI u_120 (gR u_120 x0 44) x6.toNatClampNeg) = (-1 : Int32) → V_X12_next_157 G Q k_64 k_97 x0 x1 x4 x6 x7 v_120 u_120) ∧ (¬ (gI u_120 (gR u_120 x0 44) x6.toNatClampNeg) = (-1 : Int32) → ((v_120 < (gI u_120 (gR u_120 x0 44) x6.toNatClampNeg) → V_X12_next_157 G Q k_64 k_97 x0 x1 x4 x6 x7 v_120 u_120) ∧ (¬ v_120 < (gI u_120 (gR u_120 x0 44) x6.toNatClampNeg) → V_X12_next_170 G Q k_64 k_97 x0 x1 x4 x5 x6 x7 u_120))))))))))))
def V_X12_next_97 (G : Gx) (Q : Int32 → Mm → Prop) (k_64 : Nat → Int32 → Int32 → Int32 → Int32 → Mm → Prop) : Nat → (Nat → Int32 → Int32 → Int32 → Int32 → Int32 → Mm → Prop)
  | 0 => fun _ _ _ _ _ _ _ => False
  | n + 1 => fun x0 x1 x4 x5 x6 x7 u => V_X12_next_97_B G Q k_64 (V_X12_next_97 G Q k_64 n) x0 x1 x4 x5 x6 x7 u
def V_X12_next_90 (G : Gx) (Q : Int32 → Mm → Prop) (k_64 : Nat → Int32 → Int32 → Int32 → Int32 → Mm → Prop) (x0 : Nat) (x1 : Int32) (x4 : Int32) (x6 : Int32) (t0 : Nat) (t1 : Int32) (t2 : Int32) (u : Mm) : Prop :=
  kd G t0 = 13 ∧ vp_in t1 (ln G t0) ∧ ∀ u_90 : Mm, u_90 = sI u t0 t1.toNatClampNeg t2 → ∃ n : Nat, V_X12_next_97 G Q k_64 n x0 x1 x4 (-1 : Int32) x6 (0 : Int32) u_90
def V_X12_next_64_B (G : Gx) (Q : Int32 → Mm → Prop) (k_64 : Nat → Int32 → Int32 → Int32 → Int32 → Mm → Prop) (x0 : Nat) (x1 : Int32) (x4 : Int32) (x5 : Int32) (x6 : Int32) (u : Mm) : Prop :=
  ((x1 < x6 → ((x4 = 0 → kd G x0 = 12 ∧ (gR u x0 44) ≠ 0 ∧ kd G (gR u x0 44) = 13 ∧ vp_in x1 (ln G (gR u x0 44)) ∧ Q (gI u (gR u x0 44) x1.toNatClampNeg) u) ∧ (¬ x4 = 0 → Q x5 u))) ∧ (¬ x1 < x6 → kd G x0 = 12 ∧ (gR u x0 44) ≠ 0 ∧ V_X12_bitsOf G x6 u (fun (v_78 : Int32) (u_78 : Mm) => (((2 : Int32) ≤ v_78 → V_X12_next_90 G Q k_64 x0 x1 x4 x6 (gR u x0 44) x6 (-1 : Int32) u_78) ∧ (¬ (2 : Int32) ≤ v_78 → V_X12_next_90 G Q k_64 x0 x1 x4 x6 (gR u x0 44) x6 (0 : Int32) u_78)))))
def V_X12_next_64 (G : Gx) (Q : Int32 → Mm → Prop) : Nat → (Nat → Int32 → Int32 → Int32 → Int32 → Mm → Prop)
  | 0 => fun _ _ _ _ _ _ => False
  | n + 1 => fun x0 x1 x4 x5 x6 u => V_X12_next_64_B G Q (V_X12_next_64 G Q n) x0 x1 x4 x5 x6 u
def V_X12_next_30 (G : Gx) (Q : Int32 → Mm → Prop) (x0 : Nat) (u : Mm) : Prop :=
  kd G x0 = 12 ∧ V_X12_fail G x0 (1 : Int32) u (fun (v_32 : Int32) (u_32 : Mm) => Q v_32 u_32)
def V_X12_next (G : Gx) (p0 : Nat) (p1 : Int32) (p2 : Int32) (p3 : Int32) (p4 : Int32) (u : Mm) (Q : Int32 → Mm → Prop) : Prop :=
  kd G p0 = 12 ∧ ∀ u_2 : Mm, u_2 = sI u p0 1 (0 : Int32) → V_X12_isYear G p2 u_2 (fun (v_6 : Int32) (u_6 : Mm) => ((v_6 = 0 → V_X12_next_30 G Q p0 u_6) ∧ (¬ v_6 = 0 → V_X12_isTone G p3 u_6 (fun (v_13 : Int32) (u_13 : Mm) => ((v_13 = 0 → V_X12_next_30 G Q p0 u_13) ∧ (¬ v_13 = 0 → ((p4 < 0 → V_X12_next_30 G Q p0 u_13) ∧ (¬ p4 < 0 → ((p4 ≤ (1 : Int32) → V_X12_isIn G p1 (0 : Int32) (63 : Int32) u_13 (fun (v_40 : Int32) (u_40 : Mm) => ((v_40 = 0 → V_X12_fail G p0 (2 : Int32) u_40 (fun (v_48 : Int32) (u_48 : Mm) => Q v_48 u_48)) ∧ (¬ v_40 = 0 → V_X12_tellLikes G p0 p2 p3 u_40 (fun (u_55 : Mm) => ∃ n : Nat, V_X12_next_64 G Q n p0 p1 p4 (-1 : Int32) (0 : Int32) u_55))))) ∧ (¬ p4 ≤ (1 : Int32) → V_X12_next_30 G Q p0 u_13))))))))))
set_option maxHeartbeats 4000000 in
set_option maxRecDepth 100000 in
theorem b_X12_next_176 {G : Gx} {Q : Int32 → Mm → Prop} {p : Program} {l : Launch} {e : Env} {s : State} {m : MethodId} {args : Array Value} {below : List Frame} {meth : Method} {c : Code} (C : Cx G p s m c cX12_next RX12 9) (hr : meth.sig.returnType = (some .int)) (hlk : meth.locks = false) {k_64 : Nat → Int32 → Int32 → Int32 → Int32 → Mm → Prop} (hk_64 : ∀ (x0 : Nat) (x1 : Int32) (x4 : Int32) (x5 : Int32) (x6 : Int32) (u : Mm) (H : Heap) (locs : List Loc) (ls : Array Slot), k_64 x0 x1 x4 x5 x6 u → lv_has ls 9 [(0, .ref x0), (1, .int x1), (4, .int x4), (5, .int x5), (6, .int x6)] → Hp G u s H locs → W p l e rm_X12_next s m args below meth c H locs 0 0 (MQ below (Ei G Q) args s 0 0 (ag G)) (F0 m 64 ls [])) {x0 : Nat} {x1 : Int32} {x4 : Int32} {x5 : Int32} {x6 : Int32} {u : Mm} {H : Heap} {locs : List Loc} {ls : Array Slot} (h : V_X12_next_176 G Q k_64 x0 x1 x4 x5 x6 u) (hl : lv_has ls 9 [(0, .ref x0), (1, .int x1), (4, .int x4), (5, .int x5), (6, .int x6)]) (hP : Hp G u s H locs) : W p l e rm_X12_next s m args below meth c H locs 0 0 (MQ below (Ei G Q) args s 0 0 (ag G)) (F0 m 176 ls []) := by
  have hx := C.1
  have hb := C.2.1
  unfold V_X12_next_176 at h
  obtain ⟨x6_176, ex6_176⟩ : ∃ y : Int32, y = x6 + (1 : Int32) := ⟨_, rfl⟩
  have h := h x6_176 ex6_176
  refine lv_iinc (v := x6_176) (lv' := [(6, .int x6_176), (0, .ref x0), (1, .int x1), (4, .int x4), (5, .int x5)]) hx hb dX12_next_176 hl (k := 4) rfl (by rw [ex6_176]; rfl) (by decide) rfl (fun ls hl => ?_)
  refine lv_goto (tgt := 64) hx hb dX12_next_179 (by decide) ?_
  exact hk_64 x0 x1 x4 x5 x6_176 u _ _ _ h (lv_sub hl [1, 2, 3, 4, 0] rfl) hP
set_option maxHeartbeats 4000000 in
set_option maxRecDepth 100000 in
theorem b_X12_next_170 {G : Gx} {Q : Int32 → Mm → Prop} {p : Program} {l : Launch} {e : Env} {s : State} {m : MethodId} {args : Array Value} {below : List Frame} {meth : Method} {c : Code} (C : Cx G p s m c cX12_next RX12 9) (hr : meth.sig.returnType = (some .int)) (hlk : meth.locks = false) {k_64 : Nat → Int32 → Int32 → Int32 → Int32 → Mm → Prop} (hk_64 : ∀ (x0 : Nat) (x1 : Int32) (x4 : Int32) (x5 : Int32) (x6 : Int32) (u : Mm) (H : Heap) (locs : List Loc) (ls : Array Slot), k_64 x0 x1 x4 x5 x6 u → lv_has ls 9 [(0, .ref x0), (1, .int x1), (4, .int x4), (5, .int x5), (6, .int x6)] → Hp G u s H locs → W p l e rm_X12_next s m args below meth c H locs 0 0 (MQ below (Ei G Q) args s 0 0 (ag G)) (F0 m 64 ls [])) {k_97 : Nat → Int32 → Int32 → Int32 → Int32 → Int32 → Mm → Prop} (hk_97 : ∀ (x0 : Nat) (x1 : Int32) (x4 : Int32) (x5 : Int32) (x6 : Int32) (x7 : Int32) (u : Mm) (H : Heap) (locs : List Loc) (ls : Array Slot), k_97 x0 x1 x4 x5 x6 x7 u → lv_has ls 9 [(0, .ref x0), (1, .int x1), (4, .int x4), (5, .int x5), (6, .int x6), (7, .int x7)] → Hp G u s H locs → W p l e rm_X12_next s m args below meth c H locs 0 0 (MQ below (Ei G Q) args s 0 0 (ag G)) (F0 m 97 ls [])) {x0 : Nat} {x1 : Int32} {x4 : Int32} {x5 : Int32} {x6 : Int32} {x7 : Int32} {u : Mm} {H : Heap} {locs : List Loc} {ls : Array Slot} (h : V_X12_next_170 G Q k_64 k_97 x0 x1 x4 x5 x6 x7 u) (hl : lv_has ls 9 [(0, .ref x0), (1, .int x1), (4, .int x4), (5, .int x5), (6, .int x6), (7, .int x7)]) (hP : Hp G u s H locs) : W p l e rm_X12_next s m args below meth c H locs 0 0 (MQ below (Ei G Q) args s 0 0 (ag G)) (F0 m 170 ls []) := by
  have hx := C.1
  have hb := C.2.1
  unfold V_X12_next_170 at h
  obtain ⟨x7_170, ex7_170⟩ : ∃ y : Int32, y = x7 + (1 : Int32) := ⟨_, rfl⟩
  have h := h x7_170 ex7_170
  refine lv_iinc (v := x7_170) (lv' := [(7, .int x7_170), (0, .ref x0), (1, .int x1), (4, .int x4), (5, .int x5), (6, .int x6)]) hx hb dX12_next_170 hl (k := 5) rfl (by rw [ex7_170]; rfl) (by decide) rfl (fun ls hl => ?_)
  refine lv_goto (tgt := 97) hx hb dX12_next_173 (by decide) ?_
  exact hk_97 x0 x1 x4 x5 x6 x7_170 u _ _ _ h (lv_sub hl [1, 2, 3, 4, 5, 0] rfl) hP
set_option maxHeartbeats 4000000 in
set_option maxRecDepth 100000 in
theorem b_X12_next_157 {G : Gx} {Q : Int32 → Mm → Prop} {p : Program} {l : Launch} {e : Env} {s : State} {m : MethodId} {args : Array Value} {below : List Frame} {meth : Method} {c : Code} (C : Cx G p s m c cX12_next RX12 9) (hr : meth.sig.returnType = (some .int)) (hlk : meth.locks = false) {k_64 : Nat → Int32 → Int32 → Int32 → Int32 → Mm → Prop} (hk_64 : ∀ (x0 : Nat) (x1 : Int32) (x4 : Int32) (x5 : Int32) (x6 : Int32) (u : Mm) (H : Heap) (locs : List Loc) (ls : Array Slot), k_64 x0 x1 x4 x5 x6 u → lv_has ls 9 [(0, .ref x0), (1, .int x1), (4, .int x4), (5, .int x5), (6, .int x6)] → Hp G u s H locs → W p l e rm_X12_next s m args below meth c H locs 0 0 (MQ below (Ei G Q) args s 0 0 (ag G)) (F0 m 64 ls [])) {k_97 : Nat → Int32 → Int32 → Int32 → Int32 → Int32 → Mm → Prop} (hk_97 : ∀ (x0 : Nat) (x1 : Int32) (x4 : Int32) (x5 : Int32) (x6 : Int32) (x7 : Int32) (u : Mm) (H : Heap) (locs : List Loc) (ls : Array Slot), k_97 x0 x1 x4 x5 x6 x7 u → lv_has ls 9 [(0, .ref x0), (1, .int x1), (4, .int x4), (5, .int x5), (6, .int x6), (7, .int x7)] → Hp G u s H locs → W p l e rm_X12_next s m args below meth c H locs 0 0 (MQ below (Ei G Q) args s 0 0 (ag G)) (F0 m 97 ls [])) {x0 : Nat} {x1 : Int32} {x4 : Int32} {x6 : Int32} {x7 : Int32} {x8 : Int32} {u : Mm} {H : Heap} {locs : List Loc} {ls : Array Slot} (h : V_X12_next_157 G Q k_64 k_97 x0 x1 x4 x6 x7 x8 u) (hl : lv_has ls 9 [(0, .ref x0), (1, .int x1), (4, .int x4), (6, .int x6), (7, .int x7), (8, .int x8)]) (hP : Hp G u s H locs) : W p l e rm_X12_next s m args below meth c H locs 0 0 (MQ below (Ei G Q) args s 0 0 (ag G)) (F0 m 157 ls []) := by
  have hx := C.1
  have hb := C.2.1
  unfold V_X12_next_157 at h
  refine lv_aload_n hx hb dX12_next_157 rfl (lv_at hl 0 rfl) ?_
  obtain ⟨g1, h⟩ := h
  obtain ⟨g2, h⟩ := h
  refine q_getR C hP (k := 44) (lay_X12 C.hA) rfl (by decide) g1 g2 (fl_X12_110 C.hA) dX12_next_158 ?_
  refine lv_iload hx hb dX12_next_161 (lv_at hl 3 rfl) ?_
  refine lv_iload hx hb dX12_next_163 (lv_at hl 5 rfl) ?_
  obtain ⟨g3, h⟩ := h
  obtain ⟨g4, h⟩ := h
  refine q_iast C hP g3 g4 dX12_next_165 (fun H locs hP => ?_)
  obtain ⟨u_165, eu_165, hP⟩ := Hp.nm hP
  have h := h u_165 eu_165
  refine lv_iload hx hb dX12_next_166 (lv_at hl 4 rfl) ?_
  refine lv_istore (lv' := [(5, .int x7), (0, .ref x0), (1, .int x1), (4, .int x4), (6, .int x6), (7, .int x7), (8, .int x8)]) hx hb dX12_next_168 hl (by decide) rfl (fun ls hl => ?_)
  exact b_X12_next_170 C hr hlk hk_64 hk_97 h (lv_sub hl [1, 2, 3, 0, 4, 5] rfl) hP
set_option maxHeartbeats 4000000 in
set_option maxRecDepth 100000 in
theorem b_X12_next_97 {G : Gx} {Q : Int32 → Mm → Prop} {p : Program} {l : Launch} {e : Env} {s : State} {m : MethodId} {args : Array Value} {below : List Frame} {meth : Method} {c : Code} (C : Cx G p s m c cX12_next RX12 9) (hr : meth.sig.returnType = (some .int)) (hlk : meth.locks = false) {k_64 : Nat → Int32 → Int32 → Int32 → Int32 → Mm → Prop} (hk_64 : ∀ (x0 : Nat) (x1 : Int32) (x4 : Int32) (x5 : Int32) (x6 : Int32) (u : Mm) (H : Heap) (locs : List Loc) (ls : Array Slot), k_64 x0 x1 x4 x5 x6 u → lv_has ls 9 [(0, .ref x0), (1, .int x1), (4, .int x4), (5, .int x5), (6, .int x6)] → Hp G u s H locs → W p l e rm_X12_next s m args below meth c H locs 0 0 (MQ below (Ei G Q) args s 0 0 (ag G)) (F0 m 64 ls [])) {k_97 : Nat → Int32 → Int32 → Int32 → Int32 → Int32 → Mm → Prop} (hk_97 : ∀ (x0 : Nat) (x1 : Int32) (x4 : Int32) (x5 : Int32) (x6 : Int32) (x7 : Int32) (u : Mm) (H : Heap) (locs : List Loc) (ls : Array Slot), k_97 x0 x1 x4 x5 x6 x7 u → lv_has ls 9 [(0, .ref x0), (1, .int x1), (4, .int x4), (5, .int x5), (6, .int x6), (7, .int x7)] → Hp G u s H locs → W p l e rm_X12_next s m args below meth c H locs 0 0 (MQ below (Ei G Q) args s 0 0 (ag G)) (F0 m 97 ls [])) {x0 : Nat} {x1 : Int32} {x4 : Int32} {x5 : Int32} {x6 : Int32} {x7 : Int32} {u : Mm} {H : Heap} {locs : List Loc} {ls : Array Slot} (h : V_X12_next_97_B G Q k_64 k_97 x0 x1 x4 x5 x6 x7 u) (hl : lv_has ls 9 [(0, .ref x0), (1, .int x1), (4, .int x4), (5, .int x5), (6, .int x6), (7, .int x7)]) (hP : Hp G u s H locs) : W p l e rm_X12_next s m args below meth c H locs 0 0 (MQ below (Ei G Q) args s 0 0 (ag G)) (F0 m 97 ls []) := by
  have hx := C.1
  have hb := C.2.1
  unfold V_X12_next_97_B at h
  refine lv_iload hx hb dX12_next_97 (lv_at hl 5 rfl) ?_
  refine lv_aload_n hx hb dX12_next_99 rfl (lv_at hl 0 rfl) ?_
  obtain ⟨g1, h⟩ := h
  refine q_getI C hP (k := 28) (lay_X12 C.hA) rfl (by decide) g1 (fl_X12_258 C.hA) dX12_next_100 ?_
  refine lv_icmp_ge (tgt := 176) hx hb dX12_next_103 (by decide) (fun c103 => ?_) (fun c103 => ?_)
  · have h := h.1 c103
    exact b_X12_next_176 C hr hlk hk_64 h (lv_sub hl [0, 1, 2, 3, 4] rfl) hP
  · have h := h.2 c103
    refine lv_iload hx hb dX12_next_106 (lv_at hl 4 rfl) ?_
    refine q_cali (q_runS C hP (c_X12_bitsOf h) (cd_X12_bitsOf C.hA) (ini_X12 C.hA) (ml_X12_354 C.hA) (st_X12_bitsOf C.hA) hd_X12_bitsOf ⟨rfl, rfl⟩ ⟨Nat.le_of_ble_eq_true rfl, Nat.le_of_ble_eq_true rfl⟩ ⟨Nat.le_of_ble_eq_true rfl, Nat.le_of_ble_eq_true rfl⟩ hl.1 rfl (Nat.le_of_ble_eq_true rfl) dX12_next_108) hP (fun v_108 u_108 H locs h hP => ?_)
    refine lv_iconst (v := (1 : Int32)) hx hb dX12_next_111 (by decide) ?_
    refine lv_icmp_le (tgt := 176) hx hb dX12_next_112 (by decide) (fun c112 => ?_) (fun c112 => ?_)
    · have h := h.1 c112
      exact b_X12_next_176 C hr hlk hk_64 h (lv_sub hl [0, 1, 2, 3, 4] rfl) hP
    · have h := h.2 c112
      refine lv_aload_n hx hb dX12_next_115 rfl (lv_at hl 0 rfl) ?_
      refine lv_iload hx hb dX12_next_116 (lv_at hl 4 rfl) ?_
      refine lv_iload hx hb dX12_next_118 (lv_at hl 5 rfl) ?_
      refine q_cali (q_runV C hP (c_X12_clapsBy h) (cd_X12_clapsBy C.hA) (ini_X12 C.hA) (ml_X12_383 C.hA) (im_X12_clapsBy C.hA) (sl_X12_clapsBy C.hA) g1 (by decide) rfl hd_X12_clapsBy ⟨rfl, rfl⟩ ⟨Nat.le_of_ble_eq_true rfl, Nat.le_of_ble_eq_true rfl⟩ ⟨Nat.le_of_ble_eq_true rfl, Nat.le_of_ble_eq_true rfl⟩ hl.1 rfl (Nat.le_of_ble_eq_true rfl) dX12_next_120) hP (fun v_120 u_120 H locs h hP => ?_)
      refine lv_istore (lv' := [(8, .int v_120), (0, .ref x0), (1, .int x1), (4, .int x4), (5, .int x5), (6, .int x6), (7, .int x7)]) hx hb dX12_next_123 hl (by decide) rfl (fun ls hl => ?_)
      refine lv_iload hx hb dX12_next_125 (lv_at hl 0 rfl) ?_
      refine lv_iconst (v := (-1 : Int32)) hx hb dX12_next_127 (by decide) ?_
      refine lv_icmp_eq (tgt := 170) hx hb dX12_next_128 (by decide) (fun c128 => ?_) (fun c128 => ?_)
      · have h := h.1 c128
        exact b_X12_next_170 C hr hlk hk_64 hk_97 h (lv_sub hl [1, 2, 3, 4, 5, 6] rfl) hP
      · have h := h.2 c128
        refine lv_aload_n hx hb dX12_next_131 rfl (lv_at hl 1 rfl) ?_
        obtain ⟨g2, h⟩ := h
        refine q_getR C hP (k := 44) (lay_X12 C.hA) rfl (by decide) g1 g2 (fl_X12_110 C.hA) dX12_next_132 ?_
        refine lv_iload hx hb dX12_next_135 (lv_at hl 5 rfl) ?_
        obtain ⟨g3, h⟩ := h
        obtain ⟨g4, h⟩ := h
        refine q_iald C hP g3 g4 dX12_next_137 ?_
        refine lv_iconst (v := (-1 : Int32)) hx hb dX12_next_138 (by decide) ?_
        refine lv_icmp_eq (tgt := 157) hx hb dX12_next_139 (by decide) (fun c139 => ?_) (fun c139 => ?_)
        · have h := h.1 c139
          exact b_X12_next_157 C hr hlk hk_64 hk_97 h (lv_sub hl [1, 2, 3, 5, 6, 0] rfl) hP
        · have h := h.2 c139
          refine lv_iload hx hb dX12_next_142 (lv_at hl 0 rfl) ?_
          refine lv_aload_n hx hb dX12_next_144 rfl (lv_at hl 1 rfl) ?_
          refine q_getR C hP (k := 44) (lay_X12 C.hA) rfl (by decide) g1 g2 (fl_X12_110 C.hA) dX12_next_145 ?_
          refine lv_iload hx hb dX12_next_148 (lv_at hl 5 rfl) ?_
          refine q_iald C hP g3 g4 dX12_next_150 ?_
          refine lv_icmp_lt (tgt := 157) hx hb dX12_next_151 (by decide) (fun c151 => ?_) (fun c151 => ?_)
          · have h := h.1 c151
            exact b_X12_next_157 C hr hlk hk_64 hk_97 h (lv_sub hl [1, 2, 3, 5, 6, 0] rfl) hP
          · have h := h.2 c151
            refine lv_goto (tgt := 170) hx hb dX12_next_154 (by decide) ?_
            exact b_X12_next_170 C hr hlk hk_64 hk_97 h (lv_sub hl [1, 2, 3, 4, 5, 6] rfl) hP
theorem l_X12_next_97 {G : Gx} {Q : Int32 → Mm → Prop} {p : Program} {l : Launch} {e : Env} {s : State} {m : MethodId} {args : Array Value} {below : List Frame} {meth : Method} {c : Code} (C : Cx G p s m c cX12_next RX12 9) (hr : meth.sig.returnType = (some .int)) (hlk : meth.locks = false) {k_64 : Nat → Int32 → Int32 → Int32 → Int32 → Mm → Prop} (hk_64 : ∀ (x0 : Nat) (x1 : Int32) (x4 : Int32) (x5 : Int32) (x6 : Int32) (u : Mm) (H : Heap) (locs : List Loc) (ls : Array Slot), k_64 x0 x1 x4 x5 x6 u → lv_has ls 9 [(0, .ref x0), (1, .int x1), (4, .int x4), (5, .int x5), (6, .int x6)] → Hp G u s H locs → W p l e rm_X12_next s m args below meth c H locs 0 0 (MQ below (Ei G Q) args s 0 0 (ag G)) (F0 m 64 ls [])) : ∀ (n : Nat) (x0 : Nat) (x1 : Int32) (x4 : Int32) (x5 : Int32) (x6 : Int32) (x7 : Int32) (u : Mm) (H : Heap) (locs : List Loc) (ls : Array Slot), V_X12_next_97 G Q k_64 n x0 x1 x4 x5 x6 x7 u → lv_has ls 9 [(0, .ref x0), (1, .int x1), (4, .int x4), (5, .int x5), (6, .int x6), (7, .int x7)] → Hp G u s H locs → W p l e rm_X12_next s m args below meth c H locs 0 0 (MQ below (Ei G Q) args s 0 0 (ag G)) (F0 m 97 ls []) := by
  intro n
  induction n with
  | zero => intro x0 x1 x4 x5 x6 x7 u H locs ls h; exact h.elim
  | succ n ih => intro x0 x1 x4 x5 x6 x7 u H locs ls h hl hP; exact b_X12_next_97 C hr hlk hk_64 ih h hl hP
set_option maxHeartbeats 4000000 in
set_option maxRecDepth 100000 in
theorem b_X12_next_90 {G : Gx} {Q : Int32 → Mm → Prop} {p : Program} {l : Launch} {e : Env} {s : State} {m : MethodId} {args : Array Value} {below : List Frame} {meth : Method} {c : Code} (C : Cx G p s m c cX12_next RX12 9) (hr : meth.sig.returnType = (some .int)) (hlk : meth.locks = false) {k_64 : Nat → Int32 → Int32 → Int32 → Int32 → Mm → Prop} (hk_64 : ∀ (x0 : Nat) (x1 : Int32) (x4 : Int32) (x5 : Int32) (x6 : Int32) (u : Mm) (H : Heap) (locs : List Loc) (ls : Array Slot), k_64 x0 x1 x4 x5 x6 u → lv_has ls 9 [(0, .ref x0), (1, .int x1), (4, .int x4), (5, .int x5), (6, .int x6)] → Hp G u s H locs → W p l e rm_X12_next s m args below meth c H locs 0 0 (MQ below (Ei G Q) args s 0 0 (ag G)) (F0 m 64 ls [])) {x0 : Nat} {x1 : Int32} {x4 : Int32} {x6 : Int32} {t0 : Nat} {t1 : Int32} {t2 : Int32} {u : Mm} {H : Heap} {locs : List Loc} {ls : Array Slot} (h : V_X12_next_90 G Q k_64 x0 x1 x4 x6 t0 t1 t2 u) (hl : lv_has ls 9 [(0, .ref x0), (1, .int x1), (4, .int x4), (6, .int x6)]) (hP : Hp G u s H locs) : W p l e rm_X12_next s m args below meth c H locs 0 0 (MQ below (Ei G Q) args s 0 0 (ag G)) (F0 m 90 ls [.int t2, .int t1, .ref t0]) := by
  have hx := C.1
  have hb := C.2.1
  unfold V_X12_next_90 at h
  obtain ⟨g1, h⟩ := h
  obtain ⟨g2, h⟩ := h
  refine q_iast C hP g1 g2 dX12_next_90 (fun H locs hP => ?_)
  obtain ⟨u_90, eu_90, hP⟩ := Hp.nm hP
  have h := h u_90 eu_90
  refine lv_iconst (v := (-1 : Int32)) hx hb dX12_next_91 (by decide) ?_
  refine lv_istore (lv' := [(5, .int (-1 : Int32)), (0, .ref x0), (1, .int x1), (4, .int x4), (6, .int x6)]) hx hb dX12_next_92 hl (by decide) rfl (fun ls hl => ?_)
  refine lv_iconst (v := (0 : Int32)) hx hb dX12_next_94 (by decide) ?_
  refine lv_istore (lv' := [(7, .int (0 : Int32)), (5, .int (-1 : Int32)), (0, .ref x0), (1, .int x1), (4, .int x4), (6, .int x6)]) hx hb dX12_next_95 hl (by decide) rfl (fun ls hl => ?_)
  obtain ⟨n, h⟩ := h
  exact l_X12_next_97 C hr hlk hk_64 n x0 x1 x4 (-1 : Int32) x6 (0 : Int32) u_90 _ _ _ h (lv_sub hl [2, 3, 4, 1, 5, 0] rfl) hP
set_option maxHeartbeats 4000000 in
set_option maxRecDepth 100000 in
theorem b_X12_next_64 {G : Gx} {Q : Int32 → Mm → Prop} {p : Program} {l : Launch} {e : Env} {s : State} {m : MethodId} {args : Array Value} {below : List Frame} {meth : Method} {c : Code} (C : Cx G p s m c cX12_next RX12 9) (hr : meth.sig.returnType = (some .int)) (hlk : meth.locks = false) {k_64 : Nat → Int32 → Int32 → Int32 → Int32 → Mm → Prop} (hk_64 : ∀ (x0 : Nat) (x1 : Int32) (x4 : Int32) (x5 : Int32) (x6 : Int32) (u : Mm) (H : Heap) (locs : List Loc) (ls : Array Slot), k_64 x0 x1 x4 x5 x6 u → lv_has ls 9 [(0, .ref x0), (1, .int x1), (4, .int x4), (5, .int x5), (6, .int x6)] → Hp G u s H locs → W p l e rm_X12_next s m args below meth c H locs 0 0 (MQ below (Ei G Q) args s 0 0 (ag G)) (F0 m 64 ls [])) {x0 : Nat} {x1 : Int32} {x4 : Int32} {x5 : Int32} {x6 : Int32} {u : Mm} {H : Heap} {locs : List Loc} {ls : Array Slot} (h : V_X12_next_64_B G Q k_64 x0 x1 x4 x5 x6 u) (hl : lv_has ls 9 [(0, .ref x0), (1, .int x1), (4, .int x4), (5, .int x5), (6, .int x6)]) (hP : Hp G u s H locs) : W p l e rm_X12_next s m args below meth c H locs 0 0 (MQ below (Ei G Q) args s 0 0 (ag G)) (F0 m 64 ls []) := by
  have hx := C.1
  have hb := C.2.1
  unfold V_X12_next_64_B at h
  refine lv_iload hx hb dX12_next_64 (lv_at hl 4 rfl) ?_
  refine lv_iload_n hx hb dX12_next_66 rfl (lv_at hl 1 rfl) ?_
  refine lv_icmp_gt (tgt := 182) hx hb dX12_next_67 (by decide) (fun c67 => ?_) (fun c67 => ?_)
  · have h := h.1 c67
    refine lv_iload hx hb dX12_next_182 (lv_at hl 2 rfl) ?_
    refine lv_if_ne (tgt := 196) hx hb dX12_next_184 (by decide) (fun c184 => ?_) (fun c184 => ?_)
    · have h := h.2 c184
      refine lv_iload hx hb dX12_next_196 (lv_at hl 3 rfl) ?_
      exact q_iret C hr hlk hP h (by decide) (by decide) dX12_next_198
    · have h := h.1 c184
      refine lv_aload_n hx hb dX12_next_187 rfl (lv_at hl 0 rfl) ?_
      obtain ⟨g1, h⟩ := h
      obtain ⟨g2, h⟩ := h
      refine q_getR C hP (k := 44) (lay_X12 C.hA) rfl (by decide) g1 g2 (fl_X12_110 C.hA) dX12_next_188 ?_
      refine lv_iload_n hx hb dX12_next_191 rfl (lv_at hl 1 rfl) ?_
      obtain ⟨g3, h⟩ := h
      obtain ⟨g4, h⟩ := h
      refine q_iald C hP g3 g4 dX12_next_192 ?_
      refine lv_goto (tgt := 198) hx hb dX12_next_193 (by decide) ?_
      exact q_iret C hr hlk hP h (by decide) (by decide) dX12_next_198
  · have h := h.2 c67
    refine lv_aload_n hx hb dX12_next_70 rfl (lv_at hl 0 rfl) ?_
    obtain ⟨g5, h⟩ := h
    obtain ⟨g6, h⟩ := h
    refine q_getR C hP (k := 44) (lay_X12 C.hA) rfl (by decide) g5 g6 (fl_X12_110 C.hA) dX12_next_71 ?_
    refine lv_iload hx hb dX12_next_74 (lv_at hl 4 rfl) ?_
    refine lv_iload hx hb dX12_next_76 (lv_at hl 4 rfl) ?_
    refine q_cali (q_runS C hP (c_X12_bitsOf h) (cd_X12_bitsOf C.hA) (ini_X12 C.hA) (ml_X12_354 C.hA) (st_X12_bitsOf C.hA) hd_X12_bitsOf ⟨rfl, rfl⟩ ⟨Nat.le_of_ble_eq_true rfl, Nat.le_of_ble_eq_true rfl⟩ ⟨Nat.le_of_ble_eq_true rfl, Nat.le_of_ble_eq_true rfl⟩ hl.1 rfl (Nat.le_of_ble_eq_true rfl) dX12_next_78) hP (fun v_78 u_78 H locs h hP => ?_)
    refine lv_iconst (v := (2 : Int32)) hx hb dX12_next_81 (by decide) ?_
    refine lv_icmp_ge (tgt := 89) hx hb dX12_next_82 (by decide) (fun c82 => ?_) (fun c82 => ?_)
    · have h := h.1 c82
      refine lv_iconst (v := (-1 : Int32)) hx hb dX12_next_89 (by decide) ?_
      exact b_X12_next_90 C hr hlk hk_64 h (lv_sub hl [0, 1, 2, 4] rfl) hP
    · have h := h.2 c82
      refine lv_iconst (v := (0 : Int32)) hx hb dX12_next_85 (by decide) ?_
      refine lv_goto (tgt := 90) hx hb dX12_next_86 (by decide) ?_
      exact b_X12_next_90 C hr hlk hk_64 h (lv_sub hl [0, 1, 2, 4] rfl) hP
theorem l_X12_next_64 {G : Gx} {Q : Int32 → Mm → Prop} {p : Program} {l : Launch} {e : Env} {s : State} {m : MethodId} {args : Array Value} {below : List Frame} {meth : Method} {c : Code} (C : Cx G p s m c cX12_next RX12 9) (hr : meth.sig.returnType = (some .int)) (hlk : meth.locks = false) : ∀ (n : Nat) (x0 : Nat) (x1 : Int32) (x4 : Int32) (x5 : Int32) (x6 : Int32) (u : Mm) (H : Heap) (locs : List Loc) (ls : Array Slot), V_X12_next_64 G Q n x0 x1 x4 x5 x6 u → lv_has ls 9 [(0, .ref x0), (1, .int x1), (4, .int x4), (5, .int x5), (6, .int x6)] → Hp G u s H locs → W p l e rm_X12_next s m args below meth c H locs 0 0 (MQ below (Ei G Q) args s 0 0 (ag G)) (F0 m 64 ls []) := by
  intro n
  induction n with
  | zero => intro x0 x1 x4 x5 x6 u H locs ls h; exact h.elim
  | succ n ih => intro x0 x1 x4 x5 x6 u H locs ls h hl hP; exact b_X12_next_64 C hr hlk ih h hl hP
set_option maxHeartbeats 4000000 in
set_option maxRecDepth 100000 in
theorem b_X12_next_30 {G : Gx} {Q : Int32 → Mm → Prop} {p : Program} {l : Launch} {e : Env} {s : State} {m : MethodId} {args : Array Value} {below : List Frame} {meth : Method} {c : Code} (C : Cx G p s m c cX12_next RX12 9) (hr : meth.sig.returnType = (some .int)) (hlk : meth.locks = false) {x0 : Nat} {u : Mm} {H : Heap} {locs : List Loc} {ls : Array Slot} (h : V_X12_next_30 G Q x0 u) (hl : lv_has ls 9 [(0, .ref x0)]) (hP : Hp G u s H locs) : W p l e rm_X12_next s m args below meth c H locs 0 0 (MQ below (Ei G Q) args s 0 0 (ag G)) (F0 m 30 ls []) := by
  have hx := C.1
  have hb := C.2.1
  unfold V_X12_next_30 at h
  refine lv_aload_n hx hb dX12_next_30 rfl (lv_at hl 0 rfl) ?_
  refine lv_iconst (v := (1 : Int32)) hx hb dX12_next_31 (by decide) ?_
  obtain ⟨g1, h⟩ := h
  refine q_cali (q_runV C hP (c_X12_fail h) (cd_X12_fail C.hA) (ini_X12 C.hA) (ml_X12_249 C.hA) (im_X12_fail C.hA) (sl_X12_fail C.hA) g1 (by decide) rfl hd_X12_fail ⟨rfl, rfl⟩ ⟨Nat.le_of_ble_eq_true rfl, Nat.le_of_ble_eq_true rfl⟩ ⟨Nat.le_of_ble_eq_true rfl, Nat.le_of_ble_eq_true rfl⟩ hl.1 rfl (Nat.le_of_ble_eq_true rfl) dX12_next_32) hP (fun v_32 u_32 H locs h hP => ?_)
  exact q_iret C hr hlk hP h (by decide) (by decide) dX12_next_35
set_option maxHeartbeats 4000000 in
set_option maxRecDepth 100000 in
theorem c_X12_next {l : Launch} {G : Gx} {p0 : Nat} {p1 : Int32} {p2 : Int32} {p3 : Int32} {p4 : Int32} {u : Mm} {Q : Int32 → Mm → Prop} (h : V_X12_next G p0 p1 p2 p3 p4 u Q) : Met l yX12_next [.code yX12_next cX12_next 9 (some .int)] rm_X12_next (va_Pc [.ref p0, .int p1, .int p2, .int p3, .int p4] (Wd G u)) (Ei G Q) 0 0 (ag G) := by
  refine q_met (by decide) (Nat.le_of_ble_eq_true rfl) ?_
  intro p e s m below meth c ls C hr hlk hnm hl hP
  have hl : lv_has ls 9 [(0, .ref p0), (1, .int p1), (2, .int p2), (3, .int p3), (4, .int p4)] := hl
  generalize ([.ref p0, .int p1, .int p2, .int p3, .int p4] : List Value).toArray = args
  have hx := C.1
  have hb := C.2.1
  unfold V_X12_next at h
  refine lv_aload_n hx hb dX12_next_0 rfl (lv_at hl 0 rfl) ?_
  refine lv_iconst (v := (0 : Int32)) hx hb dX12_next_1 (by decide) ?_
  obtain ⟨g1, h⟩ := h
  refine q_putI C hP (k := 1) tyX12_ok nmX12 (lay_X12 C.hA) rfl (by decide) rfl rfl rfl rfl g1 (fl_X12_147 C.hA) dX12_next_2 (fun H locs hP => ?_)
  obtain ⟨u_2, eu_2, hP⟩ := Hp.nm hP
  have h := h u_2 eu_2
  refine lv_iload_n hx hb dX12_next_5 rfl (lv_at hl 2 rfl) ?_
  refine q_cali (q_runS C hP (c_X12_isYear h) (cd_X12_isYear C.hA) (ini_X12 C.hA) (ml_X12_333 C.hA) (st_X12_isYear C.hA) hd_X12_isYear ⟨rfl, rfl⟩ ⟨Nat.le_of_ble_eq_true rfl, Nat.le_of_ble_eq_true rfl⟩ ⟨Nat.le_of_ble_eq_true rfl, Nat.le_of_ble_eq_true rfl⟩ hl.1 rfl (Nat.le_of_ble_eq_true rfl) dX12_next_6) hP (fun v_6 u_6 H locs h hP => ?_)
  refine lv_if_eq (tgt := 30) hx hb dX12_next_9 (by decide) (fun c9 => ?_) (fun c9 => ?_)
  · have h := h.1 c9
    exact b_X12_next_30 C hr hlk h (lv_sub hl [0] rfl) hP
  · have h := h.2 c9
    refine lv_iload_n hx hb dX12_next_12 rfl (lv_at hl 3 rfl) ?_
    refine q_cali (q_runS C hP (c_X12_isTone h) (cd_X12_isTone C.hA) (ini_X12 C.hA) (ml_X12_336 C.hA) (st_X12_isTone C.hA) hd_X12_isTone ⟨rfl, rfl⟩ ⟨Nat.le_of_ble_eq_true rfl, Nat.le_of_ble_eq_true rfl⟩ ⟨Nat.le_of_ble_eq_true rfl, Nat.le_of_ble_eq_true rfl⟩ hl.1 rfl (Nat.le_of_ble_eq_true rfl) dX12_next_13) hP (fun v_13 u_13 H locs h hP => ?_)
    refine lv_if_eq (tgt := 30) hx hb dX12_next_16 (by decide) (fun c16 => ?_) (fun c16 => ?_)
    · have h := h.1 c16
      exact b_X12_next_30 C hr hlk h (lv_sub hl [0] rfl) hP
    · have h := h.2 c16
      refine lv_iload hx hb dX12_next_19 (lv_at hl 4 rfl) ?_
      refine lv_if_lt (tgt := 30) hx hb dX12_next_21 (by decide) (fun c21 => ?_) (fun c21 => ?_)
      · have h := h.1 c21
        exact b_X12_next_30 C hr hlk h (lv_sub hl [0] rfl) hP
      · have h := h.2 c21
        refine lv_iload hx hb dX12_next_24 (lv_at hl 4 rfl) ?_
        refine lv_iconst (v := (1 : Int32)) hx hb dX12_next_26 (by decide) ?_
        refine lv_icmp_le (tgt := 36) hx hb dX12_next_27 (by decide) (fun c27 => ?_) (fun c27 => ?_)
        · have h := h.1 c27
          refine lv_iload_n hx hb dX12_next_36 rfl (lv_at hl 1 rfl) ?_
          refine lv_iconst (v := (0 : Int32)) hx hb dX12_next_37 (by decide) ?_
          refine lv_bipush (v := (63 : Int32)) hx hb dX12_next_38 (by decide) ?_
          refine q_cali (q_runS C hP (c_X12_isIn h) (cd_X12_isIn C.hA) (ini_X12 C.hA) (ml_X12_150 C.hA) (st_X12_isIn C.hA) hd_X12_isIn ⟨rfl, rfl⟩ ⟨Nat.le_of_ble_eq_true rfl, Nat.le_of_ble_eq_true rfl⟩ ⟨Nat.le_of_ble_eq_true rfl, Nat.le_of_ble_eq_true rfl⟩ hl.1 rfl (Nat.le_of_ble_eq_true rfl) dX12_next_40) hP (fun v_40 u_40 H locs h hP => ?_)
          refine lv_if_ne (tgt := 52) hx hb dX12_next_43 (by decide) (fun c43 => ?_) (fun c43 => ?_)
          · have h := h.2 c43
            refine lv_aload_n hx hb dX12_next_52 rfl (lv_at hl 0 rfl) ?_
            refine lv_iload_n hx hb dX12_next_53 rfl (lv_at hl 2 rfl) ?_
            refine lv_iload_n hx hb dX12_next_54 rfl (lv_at hl 3 rfl) ?_
            refine q_calv (q_runV C hP (c_X12_tellLikes h) (cd_X12_tellLikes C.hA) (ini_X12 C.hA) (ml_X12_379 C.hA) (im_X12_tellLikes C.hA) (sl_X12_tellLikes C.hA) g1 (by decide) rfl hd_X12_tellLikes ⟨rfl, rfl⟩ ⟨Nat.le_of_ble_eq_true rfl, Nat.le_of_ble_eq_true rfl⟩ ⟨Nat.le_of_ble_eq_true rfl, Nat.le_of_ble_eq_true rfl⟩ hl.1 rfl (Nat.le_of_ble_eq_true rfl) dX12_next_55) hP (fun u_55 H locs h hP => ?_)
            refine lv_iconst (v := (-1 : Int32)) hx hb dX12_next_58 (by decide) ?_
            refine lv_istore (lv' := [(5, .int (-1 : Int32)), (0, .ref p0), (1, .int p1), (2, .int p2), (3, .int p3), (4, .int p4)]) hx hb dX12_next_59 hl (by decide) rfl (fun ls hl => ?_)
            refine lv_iconst (v := (0 : Int32)) hx hb dX12_next_61 (by decide) ?_
            refine lv_istore (lv' := [(6, .int (0 : Int32)), (5, .int (-1 : Int32)), (0, .ref p0), (1, .int p1), (2, .int p2), (3, .int p3), (4, .int p4)]) hx hb dX12_next_62 hl (by decide) rfl (fun ls hl => ?_)
            obtain ⟨n, h⟩ := h
            exact l_X12_next_64 C hr hlk n p0 p1 p4 (-1 : Int32) (0 : Int32) u_55 _ _ _ h (lv_sub hl [2, 3, 6, 1, 0] rfl) hP
          · have h := h.1 c43
            refine lv_aload_n hx hb dX12_next_46 rfl (lv_at hl 0 rfl) ?_
            refine lv_iconst (v := (2 : Int32)) hx hb dX12_next_47 (by decide) ?_
            refine q_cali (q_runV C hP (c_X12_fail h) (cd_X12_fail C.hA) (ini_X12 C.hA) (ml_X12_249 C.hA) (im_X12_fail C.hA) (sl_X12_fail C.hA) g1 (by decide) rfl hd_X12_fail ⟨rfl, rfl⟩ ⟨Nat.le_of_ble_eq_true rfl, Nat.le_of_ble_eq_true rfl⟩ ⟨Nat.le_of_ble_eq_true rfl, Nat.le_of_ble_eq_true rfl⟩ hl.1 rfl (Nat.le_of_ble_eq_true rfl) dX12_next_48) hP (fun v_48 u_48 H locs h hP => ?_)
            exact q_iret C hr hlk hP h (by decide) (by decide) dX12_next_51
        · have h := h.2 c27
          exact b_X12_next_30 C hr hlk h (lv_sub hl [0] rfl) hP
-- X12_far
abbrev rm_X12_far : Room := { frames := 1, cells := 0, slots := 0, locals := 23 }
theorem hd_X12_far : yX12_far.cls ≠ "java/lang/invoke/MethodHandle" ∧ yX12_far.cls ≠ "java/lang/invoke/VarHandle" ∧ (parseMethodDescriptor yX12_far.desc).map (fun d => d.parameters.length) = some 4 := by decide +kernel
def V_X12_far (G : Gx) (p0 : Int32) (p1 : Int32) (p2 : Int32) (p3 : Int32) (u : Mm) (Q : Int32 → Mm → Prop) : Prop :=
  V_X12_root G ((10000 : Int32) * (((p2 - p0) * (p2 - p0)) + ((p3 - p1) * (p3 - p1)))) u (fun (v_19 : Int32) (u_19 : Mm) => Q v_19 u_19)
set_option maxHeartbeats 4000000 in
set_option maxRecDepth 100000 in
theorem c_X12_far {l : Launch} {G : Gx} {p0 : Int32} {p1 : Int32} {p2 : Int32} {p3 : Int32} {u : Mm} {Q : Int32 → Mm → Prop} (h : V_X12_far G p0 p1 p2 p3 u Q) : Met l yX12_far [.code yX12_far cX12_far 4 (some .int)] rm_X12_far (va_Pc [.int p0, .int p1, .int p2, .int p3] (Wd G u)) (Ei G Q) 0 0 (ag G) := by
  refine q_met (by decide) (Nat.le_of_ble_eq_true rfl) ?_
  intro p e s m below meth c ls C hr hlk hnm hl hP
  have hl : lv_has ls 4 [(0, .int p0), (1, .int p1), (2, .int p2), (3, .int p3)] := hl
  generalize ([.int p0, .int p1, .int p2, .int p3] : List Value).toArray = args
  have hx := C.1
  have hb := C.2.1
  unfold V_X12_far at h
  refine lv_sipush (v := (10000 : Int32)) hx hb dX12_far_0 (by decide) ?_
  refine lv_iload_n hx hb dX12_far_3 rfl (lv_at hl 2 rfl) ?_
  refine lv_iload_n hx hb dX12_far_4 rfl (lv_at hl 0 rfl) ?_
  refine lv_isub hx hb dX12_far_5 ?_
  refine lv_iload_n hx hb dX12_far_6 rfl (lv_at hl 2 rfl) ?_
  refine lv_iload_n hx hb dX12_far_7 rfl (lv_at hl 0 rfl) ?_
  refine lv_isub hx hb dX12_far_8 ?_
  refine lv_imul hx hb dX12_far_9 ?_
  refine lv_iload_n hx hb dX12_far_10 rfl (lv_at hl 3 rfl) ?_
  refine lv_iload_n hx hb dX12_far_11 rfl (lv_at hl 1 rfl) ?_
  refine lv_isub hx hb dX12_far_12 ?_
  refine lv_iload_n hx hb dX12_far_13 rfl (lv_at hl 3 rfl) ?_
  refine lv_iload_n hx hb dX12_far_14 rfl (lv_at hl 1 rfl) ?_
  refine lv_isub hx hb dX12_far_15 ?_
  refine lv_imul hx hb dX12_far_16 ?_
  refine lv_iadd hx hb dX12_far_17 ?_
  refine lv_imul hx hb dX12_far_18 ?_
  refine q_cali (q_runS C hP (c_X12_root h) (cd_X12_root C.hA) (ini_X12 C.hA) (ml_X12_310 C.hA) (st_X12_root C.hA) hd_X12_root ⟨rfl, rfl⟩ ⟨Nat.le_of_ble_eq_true rfl, Nat.le_of_ble_eq_true rfl⟩ ⟨Nat.le_of_ble_eq_true rfl, Nat.le_of_ble_eq_true rfl⟩ hl.1 rfl (Nat.le_of_ble_eq_true rfl) dX12_far_19) hP (fun v_19 u_19 H locs h hP => ?_)
  exact q_iret C hr hlk hP h (by decide) (by decide) dX12_far_22
-- X12_tellThief
abbrev rm_X12_tellThief : Room := { frames := 5, cells := 0, slots := 0, locals := 146 }
theorem hd_X12_tellThief : yX12_tellThief.cls ≠ "java/lang/invoke/MethodHandle" ∧ yX12_tellThief.cls ≠ "java/lang/invoke/VarHandle" ∧ (parseMethodDescriptor yX12_tellThief.desc).map (fun d => d.parameters.length) = some 5 := by decide +kernel
def V_X12_tellThief_197 (G : Gx) (Q : Mm → Prop) (k_36 : Nat → Int32 → Int32 → Int32 → Int32 → Int32 → Int32 → Int32 → Mm → Prop) (x0 : Nat) (x1 : Int32) (x2 : Int32) (x3 : Int32) (x4 : Int32) (x5 : Int32) (x6 : Int32) (x7 : Int32) (u : Mm) : Prop :=
  ∀ x7_197 : Int32, x7_197 = x7 + (1 : Int32) → k_36 x0 x1 x2 x3 x4 x5 x6 x7_197 u
def V_X12_tellThief_160 (G : Gx) (Q : Mm → Prop) (k_36 : Nat → Int32 → Int32 → Int32 → Int32 → Int32 → Int32 → Int32 → Mm → Prop) (x0 : Nat) (x1 : Int32) (x2 : Int32) (x3 : Int32) (x4 : Int32) (x5 : Int32) (x6 : Int32) (x7 : Int32) (x9 : Int32) (t0 : Int32) (u : Mm) : Prop :=
  V_X12_far G x2 x3 x9 t0 u (fun (v_169 : Int32) (u_169 : Mm) => V_X12_far G x9 t0 x4 x5 u_169 (fun (v_180 : Int32) (u_180 : Mm) => kd G x0 = 12 ∧ (gR u_180 x0 6) ≠ 0 ∧ kd G (gR u_180 x0 6) = 13 ∧ vp_in x1 (ln G (gR u_180 x0 6)) ∧ ¬ (gI u_180 (gR u_180 x0 6) x1.toNatClampNeg) = 0 ∧ V_X12_lay G x0 (((v_169 + v_180) / (gI u_180 (gR u_180 x0 6) x1.toNatClampNeg)) - x6) u_180 (fun (u_194 : Mm) => V_X12_tellThief_197 G Q k_36 x0 x1 x2 x3 x4 x5 x6 x7 u_194)))
def V_X12_tellThief_120 (G : Gx) (Q : Mm → Prop) (k_36 : Nat → Int32 → Int32 → Int32 → Int32 → Int32 → Int32 → Int32 → Mm → Prop) (x0 : Nat) (x1 : Int32) (x2 : Int32) (x3 : Int32) (x4 : Int32) (x5 : Int32) (x6 : Int32) (x7 : Int32) (x8 : Int32) (t0 : Int32) (u : Mm) : Prop :=
  ((x7 < (8 : Int32) → ((x8 = 0 → V_X12_tellThief_160 G Q k_36 x0 x1 x2 x3 x4 x5 x6 x7 t0 x3 u) ∧ (¬ x8 = 0 → kd G x0 = 12 ∧ V_X12_ofWall G x0 x1 x7 (1 : Int32) u (fun (v_153 : Int32) (u_153 : Mm) => V_X12_tellThief_160 G Q k_36 x0 x1 x2 x3 x4 x5 x6 x7 t0 v_153 u_153)))) ∧ (¬ x7 < (8 : Int32) → kd G x0 = 12 ∧ V_X12_ofBarn G x0 x1 (x7 - (8 : Int32)) (1 : Int32) u (fun (v_137 : Int32) (u_137 : Mm) => V_X12_tellThief_160 G Q k_36 x0 x1 x2 x3 x4 x5 x6 x7 t0 v_137 u_137)))
def V_X12_tellThief_80 (G : Gx) (Q : Mm → Prop) (k_36 : Nat → Int32 → Int32 → Int32 → Int32 → Int32 → Int32 → Int32 → Mm → Prop) (x0 : Nat) (x1 : Int32) (x2 : Int32) (x3 : Int32) (x4 : Int32) (x5 : Int32) (x6 : Int32) (x7 : Int32) (t0 : Int32) (u : Mm) : Prop :=
  ((x7 < (8 : Int32) → ((t0 = 0 → kd G x0 = 12 ∧ V_X12_ofWall G x0 x1 x7 (1 : Int32) u (fun (v_117 : Int32) (u_117 : Mm) => V_X12_tellThief_120 G Q k_36 x0 x1 x2 x3 x4 x5 x6 x7 t0 v_117 u_117)) ∧ (¬ t0 = 0 → V_X12_tellThief_120 G Q k_36 x0 x1 x2 x3 x4 x5 x6 x7 t0 x2 u))) ∧ (¬ x7 < (8 : Int32) → kd G x0 = 12 ∧ V_X12_ofBarn G x0 x1 (x7 - (8 : Int32)) (0 : Int32) u (fun (v_97 : Int32) (u_97 : Mm) => V_X12_tellThief_120 G Q k_36 x0 x1 x2 x3 x4 x5 x6 x7 t0 v_97 u_97)))
def V_X12_tellThief_79 (G : Gx) (Q : Mm → Prop) (k_36 : Nat → Int32 → Int32 → Int32 → Int32 → Int32 → Int32 → Int32 → Mm → Prop) (x0 : Nat) (x1 : Int32) (x2 : Int32) (x3 : Int32) (x4 : Int32) (x5 : Int32) (x6 : Int32) (x7 : Int32) (u : Mm) : Prop :=
  V_X12_tellThief_80 G Q k_36 x0 x1 x2 x3 x4 x5 x6 x7 (0 : Int32) u
def V_X12_tellThief_36_B (G : Gx) (Q : Mm → Prop) (k_36 : Nat → Int32 → Int32 → Int32 → Int32 → Int32 → Int32 → Int32 → Mm → Prop) (x0 : Nat) (x1 : Int32) (x2 : Int32) (x3 : Int32) (x4 : Int32) (x5 : Int32) (x6 : Int32) (x7 : Int32) (u : Mm) : Prop :=
  (((16 : Int32) ≤ x7 → Q u) ∧ (¬ (16 : Int32) ≤ x7 → kd G x0 = 12 ∧ V_X12_isHeard G x0 x1 x7 u (fun (v_47 : Int32) (u_47 : Mm) => ((v_47 = 0 → V_X12_tellThief_197 G Q k_36 x0 x1 x2 x3 x4 x5 x6 x7 u_47) ∧ (¬ v_47 = 0 → (((8 : Int32) ≤ x7 → V_X12_tellThief_79 G Q k_36 x0 x1 x2 x3 x4 x5 x6 x7 u_47) ∧ (¬ (8 : Int32) ≤ x7 → V_X12_ofWall G x0 x1 x7 (0 : Int32) u_47 (fun (v_68 : Int32) (u_68 : Mm) => ((v_68 = (1 : Int32) → V_X12_tellThief_80 G Q k_36 x0 x1 x2 x3 x4 x5 x6 x7 (1 : Int32) u_68) ∧ (¬ v_68 = (1 : Int32) → V_X12_tellThief_79 G Q k_36 x0 x1 x2 x3 x4 x5 x6 x7 u_68))))))))))
def V_X12_tellThief_36 (G : Gx) (Q : Mm → Prop) : Nat → (Nat → Int32 → Int32 → Int32 → Int32 → Int32 → Int32 → Int32 → Mm → Prop)
  | 0 => fun _ _ _ _ _ _ _ _ _ => False
  | n + 1 => fun x0 x1 x2 x3 x4 x5 x6 x7 u => V_X12_tellThief_36_B G Q (V_X12_tellThief_36 G Q n) x0 x1 x2 x3 x4 x5 x6 x7 u
def V_X12_tellThief (G : Gx) (p0 : Nat) (p1 : Int32) (p2 : Int32) (p3 : Int32) (p4 : Int32) (p5 : Int32) (u : Mm) (Q : Mm → Prop) : Prop :=
  kd G p0 = 12 ∧ V_X12_tellEchoes G p0 p1 (0 : Int32) p2 p3 (0 : Int32) (0 : Int32) u (fun (u_7 : Mm) => ∀ u_12 : Mm, u_12 = sI u_7 p0 26 (0 : Int32) → V_X12_far G p2 p3 p4 p5 u_12 (fun (v_21 : Int32) (u_21 : Mm) => (gR u_21 p0 6) ≠ 0 ∧ kd G (gR u_21 p0 6) = 13 ∧ vp_in p1 (ln G (gR u_21 p0 6)) ∧ ¬ (gI u_21 (gR u_21 p0 6) p1.toNatClampNeg) = 0 ∧ ∀ x6_31 : Int32, x6_31 = (v_21 / (gI u_21 (gR u_21 p0 6) p1.toNatClampNeg)) → ∃ n : Nat, V_X12_tellThief_36 G Q n p0 p1 p2 p3 p4 p5 x6_31 (0 : Int32) u_21))
set_option maxHeartbeats 4000000 in
set_option maxRecDepth 100000 in
theorem b_X12_tellThief_197 {G : Gx} {Q : Mm → Prop} {p : Program} {l : Launch} {e : Env} {s : State} {m : MethodId} {args : Array Value} {below : List Frame} {meth : Method} {c : Code} (C : Cx G p s m c cX12_tellThief RX12 11) (hr : meth.sig.returnType = none) (hlk : meth.locks = false) {k_36 : Nat → Int32 → Int32 → Int32 → Int32 → Int32 → Int32 → Int32 → Mm → Prop} (hk_36 : ∀ (x0 : Nat) (x1 : Int32) (x2 : Int32) (x3 : Int32) (x4 : Int32) (x5 : Int32) (x6 : Int32) (x7 : Int32) (u : Mm) (H : Heap) (locs : List Loc) (ls : Array Slot), k_36 x0 x1 x2 x3 x4 x5 x6 x7 u → lv_has ls 11 [(0, .ref x0), (1, .int x1), (2, .int x2), (3, .int x3), (4, .int x4), (5, .int x5), (6, .int x6), (7, .int x7)] → Hp G u s H locs → W p l e rm_X12_tellThief s m args below meth c H locs 0 0 (MQ below (Ev G Q) args s 0 0 (ag G)) (F0 m 36 ls [])) {x0 : Nat} {x1 : Int32} {x2 : Int32} {x3 : Int32} {x4 : Int32} {x5 : Int32} {x6 : Int32} {x7 : Int32} {u : Mm} {H : Heap} {locs : List Loc} {ls : Array Slot} (h : V_X12_tellThief_197 G Q k_36 x0 x1 x2 x3 x4 x5 x6 x7 u) (hl : lv_has ls 11 [(0, .ref x0), (1, .int x1), (2, .int x2), (3, .int x3), (4, .int x4), (5, .int x5), (6, .int x6), (7, .int x7)]) (hP : Hp G u s H locs) : W p l e rm_X12_tellThief s m args below meth c H locs 0 0 (MQ below (Ev G Q) args s 0 0 (ag G)) (F0 m 197 ls []) := by
  have hx := C.1
  have hb := C.2.1
  unfold V_X12_tellThief_197 at h
  obtain ⟨x7_197, ex7_197⟩ : ∃ y : Int32, y = x7 + (1 : Int32) := ⟨_, rfl⟩
  have h := h x7_197 ex7_197
  refine lv_iinc (v := x7_197) (lv' := [(7, .int x7_197), (0, .ref x0), (1, .int x1), (2, .int x2), (3, .int x3), (4, .int x4), (5, .int x5), (6, .int x6)]) hx hb dX12_tellThief_197 hl (k := 7) rfl (by rw [ex7_197]; rfl) (by decide) rfl (fun ls hl => ?_)
  refine lv_goto (tgt := 36) hx hb dX12_tellThief_200 (by decide) ?_
  exact hk_36 x0 x1 x2 x3 x4 x5 x6 x7_197 u _ _ _ h (lv_sub hl [1, 2, 3, 4, 5, 6, 7, 0] rfl) hP
set_option maxHeartbeats 4000000 in
set_option maxRecDepth 100000 in
theorem b_X12_tellThief_160 {G : Gx} {Q : Mm → Prop} {p : Program} {l : Launch} {e : Env} {s : State} {m : MethodId} {args : Array Value} {below : List Frame} {meth : Method} {c : Code} (C : Cx G p s m c cX12_tellThief RX12 11) (hr : meth.sig.returnType = none) (hlk : meth.locks = false) {k_36 : Nat → Int32 → Int32 → Int32 → Int32 → Int32 → Int32 → Int32 → Mm → Prop} (hk_36 : ∀ (x0 : Nat) (x1 : Int32) (x2 : Int32) (x3 : Int32) (x4 : Int32) (x5 : Int32) (x6 : Int32) (x7 : Int32) (u : Mm) (H : Heap) (locs : List Loc) (ls : Array Slot), k_36 x0 x1 x2 x3 x4 x5 x6 x7 u → lv_has ls 11 [(0, .ref x0), (1, .int x1), (2, .int x2), (3, .int x3), (4, .int x4), (5, .int x5), (6, .int x6), (7, .int x7)] → Hp G u s H locs → W p l e rm_X12_tellThief s m args below meth c H locs 0 0 (MQ below (Ev G Q) args s 0 0 (ag G)) (F0 m 36 ls [])) {x0 : Nat} {x1 : Int32} {x2 : Int32} {x3 : Int32} {x4 : Int32} {x5 : Int32} {x6 : Int32} {x7 : Int32} {x9 : Int32} {t0 : Int32} {u : Mm} {H : Heap} {locs : List Loc} {ls : Array Slot} (h : V_X12_tellThief_160 G Q k_36 x0 x1 x2 x3 x4 x5 x6 x7 x9 t0 u) (hl : lv_has ls 11 [(0, .ref x0), (1, .int x1), (2, .int x2), (3, .int x3), (4, .int x4), (5, .int x5), (6, .int x6), (7, .int x7), (9, .int x9)]) (hP : Hp G u s H locs) : W p l e rm_X12_tellThief s m args below meth c H locs 0 0 (MQ below (Ev G Q) args s 0 0 (ag G)) (F0 m 160 ls [.int t0]) := by
  have hx := C.1
  have hb := C.2.1
  unfold V_X12_tellThief_160 at h
  refine lv_istore (lv' := [(10, .int t0), (0, .ref x0), (1, .int x1), (2, .int x2), (3, .int x3), (4, .int x4), (5, .int x5), (6, .int x6), (7, .int x7), (9, .int x9)]) hx hb dX12_tellThief_160 hl (by decide) rfl (fun ls hl => ?_)
  refine lv_aload_n hx hb dX12_tellThief_162 rfl (lv_at hl 1 rfl) ?_
  refine lv_iload_n hx hb dX12_tellThief_163 rfl (lv_at hl 3 rfl) ?_
  refine lv_iload_n hx hb dX12_tellThief_164 rfl (lv_at hl 4 rfl) ?_
  refine lv_iload hx hb dX12_tellThief_165 (lv_at hl 9 rfl) ?_
  refine lv_iload hx hb dX12_tellThief_167 (lv_at hl 0 rfl) ?_
  refine q_cali (q_runS C hP (c_X12_far h) (cd_X12_far C.hA) (ini_X12 C.hA) (ml_X12_386 C.hA) (st_X12_far C.hA) hd_X12_far ⟨rfl, rfl⟩ ⟨Nat.le_of_ble_eq_true rfl, Nat.le_of_ble_eq_true rfl⟩ ⟨Nat.le_of_ble_eq_true rfl, Nat.le_of_ble_eq_true rfl⟩ hl.1 rfl (Nat.le_of_ble_eq_true rfl) dX12_tellThief_169) hP (fun v_169 u_169 H locs h hP => ?_)
  refine lv_iload hx hb dX12_tellThief_172 (lv_at hl 9 rfl) ?_
  refine lv_iload hx hb dX12_tellThief_174 (lv_at hl 0 rfl) ?_
  refine lv_iload hx hb dX12_tellThief_176 (lv_at hl 5 rfl) ?_
  refine lv_iload hx hb dX12_tellThief_178 (lv_at hl 6 rfl) ?_
  refine q_cali (q_runS C hP (c_X12_far h) (cd_X12_far C.hA) (ini_X12 C.hA) (ml_X12_386 C.hA) (st_X12_far C.hA) hd_X12_far ⟨rfl, rfl⟩ ⟨Nat.le_of_ble_eq_true rfl, Nat.le_of_ble_eq_true rfl⟩ ⟨Nat.le_of_ble_eq_true rfl, Nat.le_of_ble_eq_true rfl⟩ hl.1 rfl (Nat.le_of_ble_eq_true rfl) dX12_tellThief_180) hP (fun v_180 u_180 H locs h hP => ?_)
  refine lv_iadd hx hb dX12_tellThief_183 ?_
  refine lv_aload_n hx hb dX12_tellThief_184 rfl (lv_at hl 1 rfl) ?_
  obtain ⟨g1, h⟩ := h
  obtain ⟨g2, h⟩ := h
  refine q_getR C hP (k := 6) (lay_X12 C.hA) rfl (by decide) g1 g2 (fl_X12_39 C.hA) dX12_tellThief_185 ?_
  refine lv_iload_n hx hb dX12_tellThief_188 rfl (lv_at hl 2 rfl) ?_
  obtain ⟨g3, h⟩ := h
  obtain ⟨g4, h⟩ := h
  refine q_iald C hP g3 g4 dX12_tellThief_189 ?_
  obtain ⟨g5, h⟩ := h
  refine lv_idiv hx hb dX12_tellThief_190 g5 ?_
  refine lv_iload hx hb dX12_tellThief_191 (lv_at hl 7 rfl) ?_
  refine lv_isub hx hb dX12_tellThief_193 ?_
  refine q_calv (q_runV C hP (c_X12_lay h) (cd_X12_lay C.hA) (ini_X12 C.hA) (ml_X12_327 C.hA) (im_X12_lay C.hA) (sl_X12_lay C.hA) g1 (by decide) rfl hd_X12_lay ⟨rfl, rfl⟩ ⟨Nat.le_of_ble_eq_true rfl, Nat.le_of_ble_eq_true rfl⟩ ⟨Nat.le_of_ble_eq_true rfl, Nat.le_of_ble_eq_true rfl⟩ hl.1 rfl (Nat.le_of_ble_eq_true rfl) dX12_tellThief_194) hP (fun u_194 H locs h hP => ?_)
  exact b_X12_tellThief_197 C hr hlk hk_36 h (lv_sub hl [1, 2, 3, 4, 5, 6, 7, 8] rfl) hP
set_option maxHeartbeats 4000000 in
set_option maxRecDepth 100000 in
theorem b_X12_tellThief_120 {G : Gx} {Q : Mm → Prop} {p : Program} {l : Launch} {e : Env} {s : State} {m : MethodId} {args : Array Value} {below : List Frame} {meth : Method} {c : Code} (C : Cx G p s m c cX12_tellThief RX12 11) (hr : meth.sig.returnType = none) (hlk : meth.locks = false) {k_36 : Nat → Int32 → Int32 → Int32 → Int32 → Int32 → Int32 → Int32 → Mm → Prop} (hk_36 : ∀ (x0 : Nat) (x1 : Int32) (x2 : Int32) (x3 : Int32) (x4 : Int32) (x5 : Int32) (x6 : Int32) (x7 : Int32) (u : Mm) (H : Heap) (locs : List Loc) (ls : Array Slot), k_36 x0 x1 x2 x3 x4 x5 x6 x7 u → lv_has ls 11 [(0, .ref x0), (1, .int x1), (2, .int x2), (3, .int x3), (4, .int x4), (5, .int x5), (6, .int x6), (7, .int x7)] → Hp G u s H locs → W p l e rm_X12_tellThief s m args below meth c H locs 0 0 (MQ below (Ev G Q) args s 0 0 (ag G)) (F0 m 36 ls [])) {x0 : Nat} {x1 : Int32} {x2 : Int32} {x3 : Int32} {x4 : Int32} {x5 : Int32} {x6 : Int32} {x7 : Int32} {x8 : Int32} {t0 : Int32} {u : Mm} {H : Heap} {locs : List Loc} {ls : Array Slot} (h : V_X12_tellThief_120 G Q k_36 x0 x1 x2 x3 x4 x5 x6 x7 x8 t0 u) (hl : lv_has ls 11 [(0, .ref x0), (1, .int x1), (2, .int x2), (3, .int x3), (4, .int x4), (5, .int x5), (6, .int x6), (7, .int x7), (8, .int x8)]) (hP : Hp G u s H locs) : W p l e rm_X12_tellThief s m args below meth c H locs 0 0 (MQ below (Ev G Q) args s 0 0 (ag G)) (F0 m 120 ls [.int t0]) := by
  have hx := C.1
  have hb := C.2.1
  unfold V_X12_tellThief_120 at h
  refine lv_istore (lv' := [(9, .int t0), (0, .ref x0), (1, .int x1), (2, .int x2), (3, .int x3), (4, .int x4), (5, .int x5), (6, .int x6), (7, .int x7), (8, .int x8)]) hx hb dX12_tellThief_120 hl (by decide) rfl (fun ls hl => ?_)
  refine lv_iload hx hb dX12_tellThief_122 (lv_at hl 8 rfl) ?_
  refine lv_bipush (v := (8 : Int32)) hx hb dX12_tellThief_124 (by decide) ?_
  refine lv_icmp_lt (tgt := 143) hx hb dX12_tellThief_126 (by decide) (fun c126 => ?_) (fun c126 => ?_)
  · have h := h.1 c126
    refine lv_iload hx hb dX12_tellThief_143 (lv_at hl 9 rfl) ?_
    refine lv_if_eq (tgt := 159) hx hb dX12_tellThief_145 (by decide) (fun c145 => ?_) (fun c145 => ?_)
    · have h := h.1 c145
      refine lv_iload_n hx hb dX12_tellThief_159 rfl (lv_at hl 4 rfl) ?_
      exact b_X12_tellThief_160 C hr hlk hk_36 h (lv_sub hl [1, 2, 3, 4, 5, 6, 7, 8, 0] rfl) hP
    · have h := h.2 c145
      refine lv_aload_n hx hb dX12_tellThief_148 rfl (lv_at hl 1 rfl) ?_
      refine lv_iload_n hx hb dX12_tellThief_149 rfl (lv_at hl 2 rfl) ?_
      refine lv_iload hx hb dX12_tellThief_150 (lv_at hl 8 rfl) ?_
      refine lv_iconst (v := (1 : Int32)) hx hb dX12_tellThief_152 (by decide) ?_
      obtain ⟨g1, h⟩ := h
      refine q_cali (q_runV C hP (c_X12_ofWall h) (cd_X12_ofWall C.hA) (ini_X12 C.hA) (ml_X12_275 C.hA) (im_X12_ofWall C.hA) (sl_X12_ofWall C.hA) g1 (by decide) rfl hd_X12_ofWall ⟨rfl, rfl⟩ ⟨Nat.le_of_ble_eq_true rfl, Nat.le_of_ble_eq_true rfl⟩ ⟨Nat.le_of_ble_eq_true rfl, Nat.le_of_ble_eq_true rfl⟩ hl.1 rfl (Nat.le_of_ble_eq_true rfl) dX12_tellThief_153) hP (fun v_153 u_153 H locs h hP => ?_)
      refine lv_goto (tgt := 160) hx hb dX12_tellThief_156 (by decide) ?_
      exact b_X12_tellThief_160 C hr hlk hk_36 h (lv_sub hl [1, 2, 3, 4, 5, 6, 7, 8, 0] rfl) hP
  · have h := h.2 c126
    refine lv_aload_n hx hb dX12_tellThief_129 rfl (lv_at hl 1 rfl) ?_
    refine lv_iload_n hx hb dX12_tellThief_130 rfl (lv_at hl 2 rfl) ?_
    refine lv_iload hx hb dX12_tellThief_131 (lv_at hl 8 rfl) ?_
    refine lv_bipush (v := (8 : Int32)) hx hb dX12_tellThief_133 (by decide) ?_
    refine lv_isub hx hb dX12_tellThief_135 ?_
    refine lv_iconst (v := (1 : Int32)) hx hb dX12_tellThief_136 (by decide) ?_
    obtain ⟨g2, h⟩ := h
    refine q_cali (q_runV C hP (c_X12_ofBarn h) (cd_X12_ofBarn C.hA) (ini_X12 C.hA) (ml_X12_289 C.hA) (im_X12_ofBarn C.hA) (sl_X12_ofBarn C.hA) g2 (by decide) rfl hd_X12_ofBarn ⟨rfl, rfl⟩ ⟨Nat.le_of_ble_eq_true rfl, Nat.le_of_ble_eq_true rfl⟩ ⟨Nat.le_of_ble_eq_true rfl, Nat.le_of_ble_eq_true rfl⟩ hl.1 rfl (Nat.le_of_ble_eq_true rfl) dX12_tellThief_137) hP (fun v_137 u_137 H locs h hP => ?_)
    refine lv_goto (tgt := 160) hx hb dX12_tellThief_140 (by decide) ?_
    exact b_X12_tellThief_160 C hr hlk hk_36 h (lv_sub hl [1, 2, 3, 4, 5, 6, 7, 8, 0] rfl) hP
set_option maxHeartbeats 4000000 in
set_option maxRecDepth 100000 in
theorem b_X12_tellThief_80 {G : Gx} {Q : Mm → Prop} {p : Program} {l : Launch} {e : Env} {s : State} {m : MethodId} {args : Array Value} {below : List Frame} {meth : Method} {c : Code} (C : Cx G p s m c cX12_tellThief RX12 11) (hr : meth.sig.returnType = none) (hlk : meth.locks = false) {k_36 : Nat → Int32 → Int32 → Int32 → Int32 → Int32 → Int32 → Int32 → Mm → Prop} (hk_36 : ∀ (x0 : Nat) (x1 : Int32) (x2 : Int32) (x3 : Int32) (x4 : Int32) (x5 : Int32) (x6 : Int32) (x7 : Int32) (u : Mm) (H : Heap) (locs : List Loc) (ls : Array Slot), k_36 x0 x1 x2 x3 x4 x5 x6 x7 u → lv_has ls 11 [(0, .ref x0), (1, .int x1), (2, .int x2), (3, .int x3), (4, .int x4), (5, .int x5), (6, .int x6), (7, .int x7)] → Hp G u s H locs → W p l e rm_X12_tellThief s m args below meth c H locs 0 0 (MQ below (Ev G Q) args s 0 0 (ag G)) (F0 m 36 ls [])) {x0 : Nat} {x1 : Int32} {x2 : Int32} {x3 : Int32} {x4 : Int32} {x5 : Int32} {x6 : Int32} {x7 : Int32} {t0 : Int32} {u : Mm} {H : Heap} {locs : List Loc} {ls : Array Slot} (h : V_X12_tellThief_80 G Q k_36 x0 x1 x2 x3 x4 x5 x6 x7 t0 u) (hl : lv_has ls 11 [(0, .ref x0), (1, .int x1), (2, .int x2), (3, .int x3), (4, .int x4), (5, .int x5), (6, .int x6), (7, .int x7)]) (hP : Hp G u s H locs) : W p l e rm_X12_tellThief s m args below meth c H locs 0 0 (MQ below (Ev G Q) args s 0 0 (ag G)) (F0 m 80 ls [.int t0]) := by
  have hx := C.1
  have hb := C.2.1
  unfold V_X12_tellThief_80 at h
  refine lv_istore (lv' := [(8, .int t0), (0, .ref x0), (1, .int x1), (2, .int x2), (3, .int x3), (4, .int x4), (5, .int x5), (6, .int x6), (7, .int x7)]) hx hb dX12_tellThief_80 hl (by decide) rfl (fun ls hl => ?_)
  refine lv_iload hx hb dX12_tellThief_82 (lv_at hl 8 rfl) ?_
  refine lv_bipush (v := (8 : Int32)) hx hb dX12_tellThief_84 (by decide) ?_
  refine lv_icmp_lt (tgt := 103) hx hb dX12_tellThief_86 (by decide) (fun c86 => ?_) (fun c86 => ?_)
  · have h := h.1 c86
    refine lv_iload hx hb dX12_tellThief_103 (lv_at hl 0 rfl) ?_
    refine lv_if_eq (tgt := 112) hx hb dX12_tellThief_105 (by decide) (fun c105 => ?_) (fun c105 => ?_)
    · have h := h.1 c105
      refine lv_aload_n hx hb dX12_tellThief_112 rfl (lv_at hl 1 rfl) ?_
      refine lv_iload_n hx hb dX12_tellThief_113 rfl (lv_at hl 2 rfl) ?_
      refine lv_iload hx hb dX12_tellThief_114 (lv_at hl 8 rfl) ?_
      refine lv_iconst (v := (1 : Int32)) hx hb dX12_tellThief_116 (by decide) ?_
      obtain ⟨g1, h⟩ := h
      refine q_cali (q_runV C hP (c_X12_ofWall h) (cd_X12_ofWall C.hA) (ini_X12 C.hA) (ml_X12_275 C.hA) (im_X12_ofWall C.hA) (sl_X12_ofWall C.hA) g1 (by decide) rfl hd_X12_ofWall ⟨rfl, rfl⟩ ⟨Nat.le_of_ble_eq_true rfl, Nat.le_of_ble_eq_true rfl⟩ ⟨Nat.le_of_ble_eq_true rfl, Nat.le_of_ble_eq_true rfl⟩ hl.1 rfl (Nat.le_of_ble_eq_true rfl) dX12_tellThief_117) hP (fun v_117 u_117 H locs h hP => ?_)
      exact b_X12_tellThief_120 C hr hlk hk_36 h (lv_sub hl [1, 2, 3, 4, 5, 6, 7, 8, 0] rfl) hP
    · have h := h.2 c105
      refine lv_iload_n hx hb dX12_tellThief_108 rfl (lv_at hl 3 rfl) ?_
      refine lv_goto (tgt := 120) hx hb dX12_tellThief_109 (by decide) ?_
      exact b_X12_tellThief_120 C hr hlk hk_36 h (lv_sub hl [1, 2, 3, 4, 5, 6, 7, 8, 0] rfl) hP
  · have h := h.2 c86
    refine lv_aload_n hx hb dX12_tellThief_89 rfl (lv_at hl 1 rfl) ?_
    refine lv_iload_n hx hb dX12_tellThief_90 rfl (lv_at hl 2 rfl) ?_
    refine lv_iload hx hb dX12_tellThief_91 (lv_at hl 8 rfl) ?_
    refine lv_bipush (v := (8 : Int32)) hx hb dX12_tellThief_93 (by decide) ?_
    refine lv_isub hx hb dX12_tellThief_95 ?_
    refine lv_iconst (v := (0 : Int32)) hx hb dX12_tellThief_96 (by decide) ?_
    obtain ⟨g2, h⟩ := h
    refine q_cali (q_runV C hP (c_X12_ofBarn h) (cd_X12_ofBarn C.hA) (ini_X12 C.hA) (ml_X12_289 C.hA) (im_X12_ofBarn C.hA) (sl_X12_ofBarn C.hA) g2 (by decide) rfl hd_X12_ofBarn ⟨rfl, rfl⟩ ⟨Nat.le_of_ble_eq_true rfl, Nat.le_of_ble_eq_true rfl⟩ ⟨Nat.le_of_ble_eq_true rfl, Nat.le_of_ble_eq_true rfl⟩ hl.1 rfl (Nat.le_of_ble_eq_true rfl) dX12_tellThief_97) hP (fun v_97 u_97 H locs h hP => ?_)
    refine lv_goto (tgt := 120) hx hb dX12_tellThief_100 (by decide) ?_
    exact b_X12_tellThief_120 C hr hlk hk_36 h (lv_sub hl [1, 2, 3, 4, 5, 6, 7, 8, 0] rfl) hP
set_option maxHeartbeats 4000000 in
set_option maxRecDepth 100000 in
theorem b_X12_tellThief_79 {G : Gx} {Q : Mm → Prop} {p : Program} {l : Launch} {e : Env} {s : State} {m : MethodId} {args : Array Value} {below : List Frame} {meth : Method} {c : Code} (C : Cx G p s m c cX12_tellThief RX12 11) (hr : meth.sig.returnType = none) (hlk : meth.locks = false) {k_36 : Nat → Int32 → Int32 → Int32 → Int32 → Int32 → Int32 → Int32 → Mm → Prop} (hk_36 : ∀ (x0 : Nat) (x1 : Int32) (x2 : Int32) (x3 : Int32) (x4 : Int32) (x5 : Int32) (x6 : Int32) (x7 : Int32) (u : Mm) (H : Heap) (locs : List Loc) (ls : Array Slot), k_36 x0 x1 x2 x3 x4 x5 x6 x7 u → lv_has ls 11 [(0, .ref x0), (1, .int x1), (2, .int x2), (3, .int x3), (4, .int x4), (5, .int x5), (6, .int x6), (7, .int x7)] → Hp G u s H locs → W p l e rm_X12_tellThief s m args below meth c H locs 0 0 (MQ below (Ev G Q) args s 0 0 (ag G)) (F0 m 36 ls [])) {x0 : Nat} {x1 : Int32} {x2 : Int32} {x3 : Int32} {x4 : Int32} {x5 : Int32} {x6 : Int32} {x7 : Int32} {u : Mm} {H : Heap} {locs : List Loc} {ls : Array Slot} (h : V_X12_tellThief_79 G Q k_36 x0 x1 x2 x3 x4 x5 x6 x7 u) (hl : lv_has ls 11 [(0, .ref x0), (1, .int x1), (2, .int x2), (3, .int x3), (4, .int x4), (5, .int x5), (6, .int x6), (7, .int x7)]) (hP : Hp G u s H locs) : W p l e rm_X12_tellThief s m args below meth c H locs 0 0 (MQ below (Ev G Q) args s 0 0 (ag G)) (F0 m 79 ls []) := by
  have hx := C.1
  have hb := C.2.1
  unfold V_X12_tellThief_79 at h
  refine lv_iconst (v := (0 : Int32)) hx hb dX12_tellThief_79 (by decide) ?_
  exact b_X12_tellThief_80 C hr hlk hk_36 h (lv_sub hl [0, 1, 2, 3, 4, 5, 6, 7] rfl) hP
set_option maxHeartbeats 4000000 in
set_option maxRecDepth 100000 in
theorem b_X12_tellThief_36 {G : Gx} {Q : Mm → Prop} {p : Program} {l : Launch} {e : Env} {s : State} {m : MethodId} {args : Array Value} {below : List Frame} {meth : Method} {c : Code} (C : Cx G p s m c cX12_tellThief RX12 11) (hr : meth.sig.returnType = none) (hlk : meth.locks = false) {k_36 : Nat → Int32 → Int32 → Int32 → Int32 → Int32 → Int32 → Int32 → Mm → Prop} (hk_36 : ∀ (x0 : Nat) (x1 : Int32) (x2 : Int32) (x3 : Int32) (x4 : Int32) (x5 : Int32) (x6 : Int32) (x7 : Int32) (u : Mm) (H : Heap) (locs : List Loc) (ls : Array Slot), k_36 x0 x1 x2 x3 x4 x5 x6 x7 u → lv_has ls 11 [(0, .ref x0), (1, .int x1), (2, .int x2), (3, .int x3), (4, .int x4), (5, .int x5), (6, .int x6), (7, .int x7)] → Hp G u s H locs → W p l e rm_X12_tellThief s m args below meth c H locs 0 0 (MQ below (Ev G Q) args s 0 0 (ag G)) (F0 m 36 ls [])) {x0 : Nat} {x1 : Int32} {x2 : Int32} {x3 : Int32} {x4 : Int32} {x5 : Int32} {x6 : Int32} {x7 : Int32} {u : Mm} {H : Heap} {locs : List Loc} {ls : Array Slot} (h : V_X12_tellThief_36_B G Q k_36 x0 x1 x2 x3 x4 x5 x6 x7 u) (hl : lv_has ls 11 [(0, .ref x0), (1, .int x1), (2, .int x2), (3, .int x3), (4, .int x4), (5, .int x5), (6, .int x6), (7, .int x7)]) (hP : Hp G u s H locs) : W p l e rm_X12_tellThief s m args below meth c H locs 0 0 (MQ below (Ev G Q) args s 0 0 (ag G)) (F0 m 36 ls []) := by
  have hx := C.1
  have hb := C.2.1
  unfold V_X12_tellThief_36_B at h
  refine lv_iload hx hb dX12_tellThief_36 (lv_at hl 7 rfl) ?_
  refine lv_bipush (v := (16 : Int32)) hx hb dX12_tellThief_38 (by decide) ?_
  refine lv_icmp_ge (tgt := 203) hx hb dX12_tellThief_40 (by decide) (fun c40 => ?_) (fun c40 => ?_)
  · have h := h.1 c40
    exact q_vret C hr hlk hP h (by decide) (by decide) dX12_tellThief_203
  · have h := h.2 c40
    refine lv_aload_n hx hb dX12_tellThief_43 rfl (lv_at hl 0 rfl) ?_
    refine lv_iload_n hx hb dX12_tellThief_44 rfl (lv_at hl 1 rfl) ?_
    refine lv_iload hx hb dX12_tellThief_45 (lv_at hl 7 rfl) ?_
    obtain ⟨g1, h⟩ := h
    refine q_cali (q_runV C hP (c_X12_isHeard h) (cd_X12_isHeard C.hA) (ini_X12 C.hA) (ml_X12_320 C.hA) (im_X12_isHeard C.hA) (sl_X12_isHeard C.hA) g1 (by decide) rfl hd_X12_isHeard ⟨rfl, rfl⟩ ⟨Nat.le_of_ble_eq_true rfl, Nat.le_of_ble_eq_true rfl⟩ ⟨Nat.le_of_ble_eq_true rfl, Nat.le_of_ble_eq_true rfl⟩ hl.1 rfl (Nat.le_of_ble_eq_true rfl) dX12_tellThief_47) hP (fun v_47 u_47 H locs h hP => ?_)
    refine lv_if_ne (tgt := 56) hx hb dX12_tellThief_50 (by decide) (fun c50 => ?_) (fun c50 => ?_)
    · have h := h.2 c50
      refine lv_iload hx hb dX12_tellThief_56 (lv_at hl 7 rfl) ?_
      refine lv_bipush (v := (8 : Int32)) hx hb dX12_tellThief_58 (by decide) ?_
      refine lv_icmp_ge (tgt := 79) hx hb dX12_tellThief_60 (by decide) (fun c60 => ?_) (fun c60 => ?_)
      · have h := h.1 c60
        exact b_X12_tellThief_79 C hr hlk hk_36 h (lv_sub hl [0, 1, 2, 3, 4, 5, 6, 7] rfl) hP
      · have h := h.2 c60
        refine lv_aload_n hx hb dX12_tellThief_63 rfl (lv_at hl 0 rfl) ?_
        refine lv_iload_n hx hb dX12_tellThief_64 rfl (lv_at hl 1 rfl) ?_
        refine lv_iload hx hb dX12_tellThief_65 (lv_at hl 7 rfl) ?_
        refine lv_iconst (v := (0 : Int32)) hx hb dX12_tellThief_67 (by decide) ?_
        refine q_cali (q_runV C hP (c_X12_ofWall h) (cd_X12_ofWall C.hA) (ini_X12 C.hA) (ml_X12_275 C.hA) (im_X12_ofWall C.hA) (sl_X12_ofWall C.hA) g1 (by decide) rfl hd_X12_ofWall ⟨rfl, rfl⟩ ⟨Nat.le_of_ble_eq_true rfl, Nat.le_of_ble_eq_true rfl⟩ ⟨Nat.le_of_ble_eq_true rfl, Nat.le_of_ble_eq_true rfl⟩ hl.1 rfl (Nat.le_of_ble_eq_true rfl) dX12_tellThief_68) hP (fun v_68 u_68 H locs h hP => ?_)
        refine lv_iconst (v := (1 : Int32)) hx hb dX12_tellThief_71 (by decide) ?_
        refine lv_icmp_ne (tgt := 79) hx hb dX12_tellThief_72 (by decide) (fun c72 => ?_) (fun c72 => ?_)
        · have h := h.2 c72
          exact b_X12_tellThief_79 C hr hlk hk_36 h (lv_sub hl [0, 1, 2, 3, 4, 5, 6, 7] rfl) hP
        · have h := h.1 c72
          refine lv_iconst (v := (1 : Int32)) hx hb dX12_tellThief_75 (by decide) ?_
          refine lv_goto (tgt := 80) hx hb dX12_tellThief_76 (by decide) ?_
          exact b_X12_tellThief_80 C hr hlk hk_36 h (lv_sub hl [0, 1, 2, 3, 4, 5, 6, 7] rfl) hP
    · have h := h.1 c50
      refine lv_goto (tgt := 197) hx hb dX12_tellThief_53 (by decide) ?_
      exact b_X12_tellThief_197 C hr hlk hk_36 h (lv_sub hl [0, 1, 2, 3, 4, 5, 6, 7] rfl) hP
theorem l_X12_tellThief_36 {G : Gx} {Q : Mm → Prop} {p : Program} {l : Launch} {e : Env} {s : State} {m : MethodId} {args : Array Value} {below : List Frame} {meth : Method} {c : Code} (C : Cx G p s m c cX12_tellThief RX12 11) (hr : meth.sig.returnType = none) (hlk : meth.locks = false) : ∀ (n : Nat) (x0 : Nat) (x1 : Int32) (x2 : Int32) (x3 : Int32) (x4 : Int32) (x5 : Int32) (x6 : Int32) (x7 : Int32) (u : Mm) (H : Heap) (locs : List Loc) (ls : Array Slot), V_X12_tellThief_36 G Q n x0 x1 x2 x3 x4 x5 x6 x7 u → lv_has ls 11 [(0, .ref x0), (1, .int x1), (2, .int x2), (3, .int x3), (4, .int x4), (5, .int x5), (6, .int x6), (7, .int x7)] → Hp G u s H locs → W p l e rm_X12_tellThief s m args below meth c H locs 0 0 (MQ below (Ev G Q) args s 0 0 (ag G)) (F0 m 36 ls []) := by
  intro n
  induction n with
  | zero => intro x0 x1 x2 x3 x4 x5 x6 x7 u H locs ls h; exact h.elim
  | succ n ih => intro x0 x1 x2 x3 x4 x5 x6 x7 u H locs ls h hl hP; exact b_X12_tellThief_36 C hr hlk ih h hl hP
set_option maxHeartbeats 4000000 in
set_option maxRecDepth 100000 in
theorem c_X12_tellThief {l : Launch} {G : Gx} {p0 : Nat} {p1 : Int32} {p2 : Int32} {p3 : Int32} {p4 : Int32} {p5 : Int32} {u : Mm} {Q : Mm → Prop} (h : V_X12_tellThief G p0 p1 p2 p3 p4 p5 u Q) : Met l yX12_tellThief [.code yX12_tellThief cX12_tellThief 11 none] rm_X12_tellThief (va_Pc [.ref p0, .int p1, .int p2, .int p3, .int p4, .int p5] (Wd G u)) (Ev G Q) 0 0 (ag G) := by
  refine q_met (by decide) (Nat.le_of_ble_eq_true rfl) ?_
  intro p e s m below meth c ls C hr hlk hnm hl hP
  have hl : lv_has ls 11 [(0, .ref p0), (1, .int p1), (2, .int p2), (3, .int p3), (4, .int p4), (5, .int p5)] := hl
  generalize ([.ref p0, .int p1, .int p2, .int p3, .int p4, .int p5] : List Value).toArray = args
  have hx := C.1
  have hb := C.2.1
  unfold V_X12_tellThief at h
  refine lv_aload_n hx hb dX12_tellThief_0 rfl (lv_at hl 0 rfl) ?_
  refine lv_iload_n hx hb dX12_tellThief_1 rfl (lv_at hl 1 rfl) ?_
  refine lv_iconst (v := (0 : Int32)) hx hb dX12_tellThief_2 (by decide) ?_
  refine lv_iload_n hx hb dX12_tellThief_3 rfl (lv_at hl 2 rfl) ?_
  refine lv_iload_n hx hb dX12_tellThief_4 rfl (lv_at hl 3 rfl) ?_
  refine lv_iconst (v := (0 : Int32)) hx hb dX12_tellThief_5 (by decide) ?_
  refine lv_iconst (v := (0 : Int32)) hx hb dX12_tellThief_6 (by decide) ?_
  obtain ⟨g1, h⟩ := h
  refine q_calv (q_runV C hP (c_X12_tellEchoes h) (cd_X12_tellEchoes C.hA) (ini_X12 C.hA) (ml_X12_316 C.hA) (im_X12_tellEchoes C.hA) (sl_X12_tellEchoes C.hA) g1 (by decide) rfl hd_X12_tellEchoes ⟨rfl, rfl⟩ ⟨Nat.le_of_ble_eq_true rfl, Nat.le_of_ble_eq_true rfl⟩ ⟨Nat.le_of_ble_eq_true rfl, Nat.le_of_ble_eq_true rfl⟩ hl.1 rfl (Nat.le_of_ble_eq_true rfl) dX12_tellThief_7) hP (fun u_7 H locs h hP => ?_)
  refine lv_aload_n hx hb dX12_tellThief_10 rfl (lv_at hl 0 rfl) ?_
  refine lv_iconst (v := (0 : Int32)) hx hb dX12_tellThief_11 (by decide) ?_
  refine q_putI C hP (k := 26) tyX12_ok nmX12 (lay_X12 C.hA) rfl (by decide) rfl rfl rfl rfl g1 (fl_X12_313 C.hA) dX12_tellThief_12 (fun H locs hP => ?_)
  obtain ⟨u_12, eu_12, hP⟩ := Hp.nm hP
  have h := h u_12 eu_12
  refine lv_iload_n hx hb dX12_tellThief_15 rfl (lv_at hl 2 rfl) ?_
  refine lv_iload_n hx hb dX12_tellThief_16 rfl (lv_at hl 3 rfl) ?_
  refine lv_iload hx hb dX12_tellThief_17 (lv_at hl 4 rfl) ?_
  refine lv_iload hx hb dX12_tellThief_19 (lv_at hl 5 rfl) ?_
  refine q_cali (q_runS C hP (c_X12_far h) (cd_X12_far C.hA) (ini_X12 C.hA) (ml_X12_386 C.hA) (st_X12_far C.hA) hd_X12_far ⟨rfl, rfl⟩ ⟨Nat.le_of_ble_eq_true rfl, Nat.le_of_ble_eq_true rfl⟩ ⟨Nat.le_of_ble_eq_true rfl, Nat.le_of_ble_eq_true rfl⟩ hl.1 rfl (Nat.le_of_ble_eq_true rfl) dX12_tellThief_21) hP (fun v_21 u_21 H locs h hP => ?_)
  refine lv_aload_n hx hb dX12_tellThief_24 rfl (lv_at hl 0 rfl) ?_
  obtain ⟨g2, h⟩ := h
  refine q_getR C hP (k := 6) (lay_X12 C.hA) rfl (by decide) g1 g2 (fl_X12_39 C.hA) dX12_tellThief_25 ?_
  refine lv_iload_n hx hb dX12_tellThief_28 rfl (lv_at hl 1 rfl) ?_
  obtain ⟨g3, h⟩ := h
  obtain ⟨g4, h⟩ := h
  refine q_iald C hP g3 g4 dX12_tellThief_29 ?_
  obtain ⟨g5, h⟩ := h
  refine lv_idiv hx hb dX12_tellThief_30 g5 ?_
  refine lv_topi (fun x6_31 ex6_31 => ?_)
  have h := h x6_31 ex6_31
  refine lv_istore (lv' := [(6, .int x6_31), (0, .ref p0), (1, .int p1), (2, .int p2), (3, .int p3), (4, .int p4), (5, .int p5)]) hx hb dX12_tellThief_31 hl (by decide) rfl (fun ls hl => ?_)
  refine lv_iconst (v := (0 : Int32)) hx hb dX12_tellThief_33 (by decide) ?_
  refine lv_istore (lv' := [(7, .int (0 : Int32)), (6, .int x6_31), (0, .ref p0), (1, .int p1), (2, .int p2), (3, .int p3), (4, .int p4), (5, .int p5)]) hx hb dX12_tellThief_34 hl (by decide) rfl (fun ls hl => ?_)
  obtain ⟨n, h⟩ := h
  exact l_X12_tellThief_36 C hr hlk n p0 p1 p2 p3 p4 p5 x6_31 (0 : Int32) u_21 _ _ _ h (lv_sub hl [2, 3, 4, 5, 6, 7, 1, 0] rfl) hP
-- X12_knows
abbrev rm_X12_knows : Room := { frames := 6, cells := 0, slots := 0, locals := 176 }
theorem hd_X12_knows : yX12_knows.cls ≠ "java/lang/invoke/MethodHandle" ∧ yX12_knows.cls ≠ "java/lang/invoke/VarHandle" ∧ (parseMethodDescriptor yX12_knows.desc).map (fun d => d.parameters.length) = some 5 := by decide +kernel
def V_X12_knows_189 (G : Gx) (Q : Int32 → Mm → Prop) (k_89 : Nat → Int32 → Int32 → Int32 → Int32 → Int32 → Int32 → Mm → Prop) (x0 : Nat) (x1 : Int32) (x4 : Int32) (x5 : Int32) (x6 : Int32) (x8 : Int32) (t0 : Int32) (t1 : Int32) (u : Mm) : Prop :=
  ∀ x7_190 : Int32, x7_190 = (t0 + t1) → ∀ x8_192 : Int32, x8_192 = x8 + (1 : Int32) → k_89 x0 x1 x4 x5 x6 x7_190 x8_192 u
def V_X12_knows_177 (G : Gx) (Q : Int32 → Mm → Prop) (k_89 : Nat → Int32 → Int32 → Int32 → Int32 → Int32 → Int32 → Mm → Prop) (x0 : Nat) (x1 : Int32) (x4 : Int32) (x5 : Int32) (x6 : Int32) (x7 : Int32) (x8 : Int32) (x9 : Int32) (u : Mm) : Prop :=
  ((x9 = 0 → V_X12_knows_189 G Q k_89 x0 x1 x4 x5 x6 x8 x7 (0 : Int32) u) ∧ (¬ x9 = 0 → V_X12_knows_189 G Q k_89 x0 x1 x4 x5 x6 x8 x7 (1 : Int32) u))
def V_X12_knows_169 (G : Gx) (Q : Int32 → Mm → Prop) (k_89 : Nat → Int32 → Int32 → Int32 → Int32 → Int32 → Int32 → Mm → Prop) (k_135 : Nat → Int32 → Int32 → Int32 → Int32 → Int32 → Int32 → Int32 → Int32 → Mm → Prop) (x0 : Nat) (x1 : Int32) (x4 : Int32) (x5 : Int32) (x6 : Int32) (x7 : Int32) (x8 : Int32) (x10 : Int32) (t0 : Int32) (u : Mm) : Prop :=
  ∀ x10_171 : Int32, x10_171 = x10 + (1 : Int32) → k_135 x0 x1 x4 x5 x6 x7 x8 t0 x10_171 u
def V_X12_knows_135_B (G : Gx) (Q : Int32 → Mm → Prop) (k_89 : Nat → Int32 → Int32 → Int32 → Int32 → Int32 → Int32 → Mm → Prop) (k_135 : Nat → Int32 → Int32 → Int32 → Int32 → Int32 → Int32 → Int32 → Int32 → Mm → Prop) (x0 : Nat) (x1 : Int32) (x4 : Int32) (x5 : Int32) (x6 : Int32) (x7 : Int32) (x8 : Int32) (x9 : Int32) (x10 : Int32) (u : Mm) : Prop :=
  ((x9 = 0 → V_X12_knows_177 G Q k_89 x0 x1 x4 x5 x6 x7 x8 x9 u) ∧ (¬ x9 = 0 → ((x6 ≤ x10 → V_X12_knows_177 G Q k_89 x0 x1 x4 x5 x6 x7 x8 x9 u) ∧ (¬ x6 ≤ x10 → kd G x0 = 12 ∧ (gR u x0 24) ≠ 0 ∧ kd G (gR u x0 24) = 13 ∧ vp_in x10 (ln G (gR u x0 24)) ∧ (gR u x0 25) ≠ 0 ∧ kd G (gR u x0 25) = 13 ∧ vp_in x10 (ln G (gR u x0 25)) ∧ (((gI u (gR u x0 24) x10.toNatClampNeg) = (gI u (gR u x0 25) x10.toNatClampNeg) → V_X12_knows_169 G Q k_89 k_135 x0 x1 x4 x5 x6 x7 x8 x10 (1 : Int32) u) ∧ (¬ (gI u (gR u x0 24) x10.toNatClampNeg) = (gI u (gR u x0 25) x10.toNatClampNeg) → V_X12_knows_169 G Q k_89 k_135 x0 x1 x4 x5 x6 x7 x8 x10 (0 : Int32) u))))))
def V_X12_knows_135 (G : Gx) (Q : Int32 → Mm → Prop) (k_89 : Nat → Int32 → Int32 → Int32 → Int32 → Int32 → Int32 → Mm → Prop) : Nat → (Nat → Int32 → Int32 → Int32 → Int32 → Int32 → Int32 → Int32 → Int32 → Mm → Prop)
  | 0 => fun _ _ _ _ _ _ _ _ _ _ => False
  | n + 1 => fun x0 x1 x4 x5 x6 x7 x8 x9 x10 u => V_X12_knows_135_B G Q k_89 (V_X12_knows_135 G Q k_89 n) x0 x1 x4 x5 x6 x7 x8 x9 x10 u
def V_X12_knows_130 (G : Gx) (Q : Int32 → Mm → Prop) (k_89 : Nat → Int32 → Int32 → Int32 → Int32 → Int32 → Int32 → Mm → Prop) (x0 : Nat) (x1 : Int32) (x4 : Int32) (x5 : Int32) (x6 : Int32) (x7 : Int32) (x8 : Int32) (t0 : Int32) (u : Mm) : Prop :=
  ∃ n : Nat, V_X12_knows_135 G Q k_89 n x0 x1 x4 x5 x6 x7 x8 t0 (0 : Int32) u
def V_X12_knows_89_B (G : Gx) (Q : Int32 → Mm → Prop) (k_89 : Nat → Int32 → Int32 → Int32 → Int32 → Int32 → Int32 → Mm → Prop) (x0 : Nat) (x1 : Int32) (x4 : Int32) (x5 : Int32) (x6 : Int32) (x7 : Int32) (x8 : Int32) (u : Mm) : Prop :=
  (((1681 : Int32) ≤ x8 → Q x7 u) ∧ (¬ (1681 : Int32) ≤ x8 → kd G x0 = 12 ∧ V_X12_tellThief G x0 x1 (irm x8 (41 : Int32)) (x8 / (41 : Int32)) x4 x5 u (fun (u_113 : Mm) => (((gI u_113 x0 26) = x6 → V_X12_knows_130 G Q k_89 x0 x1 x4 x5 x6 x7 x8 (1 : Int32) u_113) ∧ (¬ (gI u_113 x0 26) = x6 → V_X12_knows_130 G Q k_89 x0 x1 x4 x5 x6 x7 x8 (0 : Int32) u_113)))))
def V_X12_knows_89 (G : Gx) (Q : Int32 → Mm → Prop) : Nat → (Nat → Int32 → Int32 → Int32 → Int32 → Int32 → Int32 → Mm → Prop)
  | 0 => fun _ _ _ _ _ _ _ _ => False
  | n + 1 => fun x0 x1 x4 x5 x6 x7 x8 u => V_X12_knows_89_B G Q (V_X12_knows_89 G Q n) x0 x1 x4 x5 x6 x7 x8 u
def V_X12_knows_56_B (G : Gx) (Q : Int32 → Mm → Prop) (k_56 : Nat → Int32 → Int32 → Int32 → Int32 → Int32 → Mm → Prop) (x0 : Nat) (x1 : Int32) (x4 : Int32) (x5 : Int32) (x6 : Int32) (x7 : Int32) (u : Mm) : Prop :=
  ((x6 ≤ x7 → ∃ n : Nat, V_X12_knows_89 G Q n x0 x1 x4 x5 x6 (0 : Int32) (0 : Int32) u) ∧ (¬ x6 ≤ x7 → kd G x0 = 12 ∧ (gR u x0 25) ≠ 0 ∧ (gR u x0 24) ≠ 0 ∧ kd G (gR u x0 24) = 13 ∧ vp_in x7 (ln G (gR u x0 24)) ∧ kd G (gR u x0 25) = 13 ∧ vp_in x7 (ln G (gR u x0 25)) ∧ ∀ u_76 : Mm, u_76 = sI u (gR u x0 25) x7.toNatClampNeg (gI u (gR u x0 24) x7.toNatClampNeg) → ∀ x7_77 : Int32, x7_77 = x7 + (1 : Int32) → k_56 x0 x1 x4 x5 x6 x7_77 u_76))
def V_X12_knows_56 (G : Gx) (Q : Int32 → Mm → Prop) : Nat → (Nat → Int32 → Int32 → Int32 → Int32 → Int32 → Mm → Prop)
  | 0 => fun _ _ _ _ _ _ _ => False
  | n + 1 => fun x0 x1 x4 x5 x6 x7 u => V_X12_knows_56_B G Q (V_X12_knows_56 G Q n) x0 x1 x4 x5 x6 x7 u
def V_X12_knows_30 (G : Gx) (Q : Int32 → Mm → Prop) (x0 : Nat) (u : Mm) : Prop :=
  kd G x0 = 12 ∧ V_X12_fail G x0 (1 : Int32) u (fun (v_32 : Int32) (u_32 : Mm) => Q v_32 u_32)
def V_X12_knows (G : Gx) (p0 : Nat) (p1 : Int32) (p2 : Int32) (p3 : Int32) (p4 : Int32) (p5 : Int32) (u : Mm) (Q : Int32 → Mm → Prop) : Prop :=
  kd G p0 = 12 ∧ ∀ u_2 : Mm, u_2 = sI u p0 1 (0 : Int32) → V_X12_isLand G p1 u_2 (fun (v_6 : Int32) (u_6 : Mm) => ((v_6 = 0 → V_X12_knows_30 G Q p0 u_6) ∧ (¬ v_6 = 0 → V_X12_isPlace G p2 p3 u_6 (fun (v_14 : Int32) (u_14 : Mm) => ((v_14 = 0 → V_X12_knows_30 G Q p0 u_14) ∧ (¬ v_14 = 0 → V_X12_isPlace G p4 p5 u_14 (fun (v_24 : Int32) (u_24 : Mm) => ((v_24 = 0 → V_X12_knows_30 G Q p0 u_24) ∧ (¬ v_24 = 0 → V_X12_tellThief G p0 p1 p2 p3 p4 p5 u_24 (fun (u_44 : Mm) => ∀ x6_51 : Int32, x6_51 = (gI u_44 p0 26) → ∃ n : Nat, V_X12_knows_56 G Q n p0 p1 p4 p5 x6_51 (0 : Int32) u_44))))))))))
set_option maxHeartbeats 4000000 in
set_option maxRecDepth 100000 in
theorem b_X12_knows_189 {G : Gx} {Q : Int32 → Mm → Prop} {p : Program} {l : Launch} {e : Env} {s : State} {m : MethodId} {args : Array Value} {below : List Frame} {meth : Method} {c : Code} (C : Cx G p s m c cX12_knows RX12 11) (hr : meth.sig.returnType = (some .int)) (hlk : meth.locks = false) {k_89 : Nat → Int32 → Int32 → Int32 → Int32 → Int32 → Int32 → Mm → Prop} (hk_89 : ∀ (x0 : Nat) (x1 : Int32) (x4 : Int32) (x5 : Int32) (x6 : Int32) (x7 : Int32) (x8 : Int32) (u : Mm) (H : Heap) (locs : List Loc) (ls : Array Slot), k_89 x0 x1 x4 x5 x6 x7 x8 u → lv_has ls 11 [(0, .ref x0), (1, .int x1), (4, .int x4), (5, .int x5), (6, .int x6), (7, .int x7), (8, .int x8)] → Hp G u s H locs → W p l e rm_X12_knows s m args below meth c H locs 0 0 (MQ below (Ei G Q) args s 0 0 (ag G)) (F0 m 89 ls [])) {x0 : Nat} {x1 : Int32} {x4 : Int32} {x5 : Int32} {x6 : Int32} {x8 : Int32} {t0 : Int32} {t1 : Int32} {u : Mm} {H : Heap} {locs : List Loc} {ls : Array Slot} (h : V_X12_knows_189 G Q k_89 x0 x1 x4 x5 x6 x8 t0 t1 u) (hl : lv_has ls 11 [(0, .ref x0), (1, .int x1), (4, .int x4), (5, .int x5), (6, .int x6), (8, .int x8)]) (hP : Hp G u s H locs) : W p l e rm_X12_knows s m args below meth c H locs 0 0 (MQ below (Ei G Q) args s 0 0 (ag G)) (F0 m 189 ls [.int t1, .int t0]) := by
  have hx := C.1
  have hb := C.2.1
  unfold V_X12_knows_189 at h
  refine lv_iadd hx hb dX12_knows_189 ?_
  refine lv_topi (fun x7_190 ex7_190 => ?_)
  have h := h x7_190 ex7_190
  refine lv_istore (lv' := [(7, .int x7_190), (0, .ref x0), (1, .int x1), (4, .int x4), (5, .int x5), (6, .int x6), (8, .int x8)]) hx hb dX12_knows_190 hl (by decide) rfl (fun ls hl => ?_)
  obtain ⟨x8_192, ex8_192⟩ : ∃ y : Int32, y = x8 + (1 : Int32) := ⟨_, rfl⟩
  have h := h x8_192 ex8_192
  refine lv_iinc (v := x8_192) (lv' := [(8, .int x8_192), (7, .int x7_190), (0, .ref x0), (1, .int x1), (4, .int x4), (5, .int x5), (6, .int x6)]) hx hb dX12_knows_192 hl (k := 6) rfl (by rw [ex8_192]; rfl) (by decide) rfl (fun ls hl => ?_)
  refine lv_goto (tgt := 89) hx hb dX12_knows_195 (by decide) ?_
  exact hk_89 x0 x1 x4 x5 x6 x7_190 x8_192 u _ _ _ h (lv_sub hl [2, 3, 4, 5, 6, 1, 0] rfl) hP
set_option maxHeartbeats 4000000 in
set_option maxRecDepth 100000 in
theorem b_X12_knows_177 {G : Gx} {Q : Int32 → Mm → Prop} {p : Program} {l : Launch} {e : Env} {s : State} {m : MethodId} {args : Array Value} {below : List Frame} {meth : Method} {c : Code} (C : Cx G p s m c cX12_knows RX12 11) (hr : meth.sig.returnType = (some .int)) (hlk : meth.locks = false) {k_89 : Nat → Int32 → Int32 → Int32 → Int32 → Int32 → Int32 → Mm → Prop} (hk_89 : ∀ (x0 : Nat) (x1 : Int32) (x4 : Int32) (x5 : Int32) (x6 : Int32) (x7 : Int32) (x8 : Int32) (u : Mm) (H : Heap) (locs : List Loc) (ls : Array Slot), k_89 x0 x1 x4 x5 x6 x7 x8 u → lv_has ls 11 [(0, .ref x0), (1, .int x1), (4, .int x4), (5, .int x5), (6, .int x6), (7, .int x7), (8, .int x8)] → Hp G u s H locs → W p l e rm_X12_knows s m args below meth c H locs 0 0 (MQ below (Ei G Q) args s 0 0 (ag G)) (F0 m 89 ls [])) {x0 : Nat} {x1 : Int32} {x4 : Int32} {x5 : Int32} {x6 : Int32} {x7 : Int32} {x8 : Int32} {x9 : Int32} {u : Mm} {H : Heap} {locs : List Loc} {ls : Array Slot} (h : V_X12_knows_177 G Q k_89 x0 x1 x4 x5 x6 x7 x8 x9 u) (hl : lv_has ls 11 [(0, .ref x0), (1, .int x1), (4, .int x4), (5, .int x5), (6, .int x6), (7, .int x7), (8, .int x8), (9, .int x9)]) (hP : Hp G u s H locs) : W p l e rm_X12_knows s m args below meth c H locs 0 0 (MQ below (Ei G Q) args s 0 0 (ag G)) (F0 m 177 ls []) := by
  have hx := C.1
  have hb := C.2.1
  unfold V_X12_knows_177 at h
  refine lv_iload hx hb dX12_knows_177 (lv_at hl 5 rfl) ?_
  refine lv_iload hx hb dX12_knows_179 (lv_at hl 7 rfl) ?_
  refine lv_if_eq (tgt := 188) hx hb dX12_knows_181 (by decide) (fun c181 => ?_) (fun c181 => ?_)
  · have h := h.1 c181
    refine lv_iconst (v := (0 : Int32)) hx hb dX12_knows_188 (by decide) ?_
    exact b_X12_knows_189 C hr hlk hk_89 h (lv_sub hl [0, 1, 2, 3, 4, 6] rfl) hP
  · have h := h.2 c181
    refine lv_iconst (v := (1 : Int32)) hx hb dX12_knows_184 (by decide) ?_
    refine lv_goto (tgt := 189) hx hb dX12_knows_185 (by decide) ?_
    exact b_X12_knows_189 C hr hlk hk_89 h (lv_sub hl [0, 1, 2, 3, 4, 6] rfl) hP
set_option maxHeartbeats 4000000 in
set_option maxRecDepth 100000 in
theorem b_X12_knows_169 {G : Gx} {Q : Int32 → Mm → Prop} {p : Program} {l : Launch} {e : Env} {s : State} {m : MethodId} {args : Array Value} {below : List Frame} {meth : Method} {c : Code} (C : Cx G p s m c cX12_knows RX12 11) (hr : meth.sig.returnType = (some .int)) (hlk : meth.locks = false) {k_89 : Nat → Int32 → Int32 → Int32 → Int32 → Int32 → Int32 → Mm → Prop} (hk_89 : ∀ (x0 : Nat) (x1 : Int32) (x4 : Int32) (x5 : Int32) (x6 : Int32) (x7 : Int32) (x8 : Int32) (u : Mm) (H : Heap) (locs : List Loc) (ls : Array Slot), k_89 x0 x1 x4 x5 x6 x7 x8 u → lv_has ls 11 [(0, .ref x0), (1, .int x1), (4, .int x4), (5, .int x5), (6, .int x6), (7, .int x7), (8, .int x8)] → Hp G u s H locs → W p l e rm_X12_knows s m args below meth c H locs 0 0 (MQ below (Ei G Q) args s 0 0 (ag G)) (F0 m 89 ls [])) {k_135 : Nat → Int32 → Int32 → Int32 → Int32 → Int32 → Int32 → Int32 → Int32 → Mm → Prop} (hk_135 : ∀ (x0 : Nat) (x1 : Int32) (x4 : Int32) (x5 : Int32) (x6 : Int32) (x7 : Int32) (x8 : Int32) (x9 : Int32) (x10 : Int32) (u : Mm) (H : Heap) (locs : List Loc) (ls : Array Slot), k_135 x0 x1 x4 x5 x6 x7 x8 x9 x10 u → lv_has ls 11 [(0, .ref x0), (1, .int x1), (4, .int x4), (5, .int x5), (6, .int x6), (7, .int x7), (8, .int x8), (9, .int x9), (10, .int x10)] → Hp G u s H locs → W p l e rm_X12_knows s m args below meth c H locs 0 0 (MQ below (Ei G Q) args s 0 0 (ag G)) (F0 m 135 ls [])) {x0 : Nat} {x1 : Int32} {x4 : Int32} {x5 : Int32} {x6 : Int32} {x7 : Int32} {x8 : Int32} {x10 : Int32} {t0 : Int32} {u : Mm} {H : Heap} {locs : List Loc} {ls : Array Slot} (h : V_X12_knows_169 G Q k_89 k_135 x0 x1 x4 x5 x6 x7 x8 x10 t0 u) (hl : lv_has ls 11 [(0, .ref x0), (1, .int x1), (4, .int x4), (5, .int x5), (6, .int x6), (7, .int x7), (8, .int x8), (10, .int x10)]) (hP : Hp G u s H locs) : W p l e rm_X12_knows s m args below meth c H locs 0 0 (MQ below (Ei G Q) args s 0 0 (ag G)) (F0 m 169 ls [.int t0]) := by
  have hx := C.1
  have hb := C.2.1
  unfold V_X12_knows_169 at h
  refine lv_istore (lv' := [(9, .int t0), (0, .ref x0), (1, .int x1), (4, .int x4), (5, .int x5), (6, .int x6), (7, .int x7), (8, .int x8), (10, .int x10)]) hx hb dX12_knows_169 hl (by decide) rfl (fun ls hl => ?_)
  obtain ⟨x10_171, ex10_171⟩ : ∃ y : Int32, y = x10 + (1 : Int32) := ⟨_, rfl⟩
  have h := h x10_171 ex10_171
  refine lv_iinc (v := x10_171) (lv' := [(10, .int x10_171), (9, .int t0), (0, .ref x0), (1, .int x1), (4, .int x4), (5, .int x5), (6, .int x6), (7, .int x7), (8, .int x8)]) hx hb dX12_knows_171 hl (k := 8) rfl (by rw [ex10_171]; rfl) (by decide) rfl (fun ls hl => ?_)
  refine lv_goto (tgt := 135) hx hb dX12_knows_174 (by decide) ?_
  exact hk_135 x0 x1 x4 x5 x6 x7 x8 t0 x10_171 u _ _ _ h (lv_sub hl [2, 3, 4, 5, 6, 7, 8, 1, 0] rfl) hP
set_option maxHeartbeats 4000000 in
set_option maxRecDepth 100000 in
theorem b_X12_knows_135 {G : Gx} {Q : Int32 → Mm → Prop} {p : Program} {l : Launch} {e : Env} {s : State} {m : MethodId} {args : Array Value} {below : List Frame} {meth : Method} {c : Code} (C : Cx G p s m c cX12_knows RX12 11) (hr : meth.sig.returnType = (some .int)) (hlk : meth.locks = false) {k_89 : Nat → Int32 → Int32 → Int32 → Int32 → Int32 → Int32 → Mm → Prop} (hk_89 : ∀ (x0 : Nat) (x1 : Int32) (x4 : Int32) (x5 : Int32) (x6 : Int32) (x7 : Int32) (x8 : Int32) (u : Mm) (H : Heap) (locs : List Loc) (ls : Array Slot), k_89 x0 x1 x4 x5 x6 x7 x8 u → lv_has ls 11 [(0, .ref x0), (1, .int x1), (4, .int x4), (5, .int x5), (6, .int x6), (7, .int x7), (8, .int x8)] → Hp G u s H locs → W p l e rm_X12_knows s m args below meth c H locs 0 0 (MQ below (Ei G Q) args s 0 0 (ag G)) (F0 m 89 ls [])) {k_135 : Nat → Int32 → Int32 → Int32 → Int32 → Int32 → Int32 → Int32 → Int32 → Mm → Prop} (hk_135 : ∀ (x0 : Nat) (x1 : Int32) (x4 : Int32) (x5 : Int32) (x6 : Int32) (x7 : Int32) (x8 : Int32) (x9 : Int32) (x10 : Int32) (u : Mm) (H : Heap) (locs : List Loc) (ls : Array Slot), k_135 x0 x1 x4 x5 x6 x7 x8 x9 x10 u → lv_has ls 11 [(0, .ref x0), (1, .int x1), (4, .int x4), (5, .int x5), (6, .int x6), (7, .int x7), (8, .int x8), (9, .int x9), (10, .int x10)] → Hp G u s H locs → W p l e rm_X12_knows s m args below meth c H locs 0 0 (MQ below (Ei G Q) args s 0 0 (ag G)) (F0 m 135 ls [])) {x0 : Nat} {x1 : Int32} {x4 : Int32} {x5 : Int32} {x6 : Int32} {x7 : Int32} {x8 : Int32} {x9 : Int32} {x10 : Int32} {u : Mm} {H : Heap} {locs : List Loc} {ls : Array Slot} (h : V_X12_knows_135_B G Q k_89 k_135 x0 x1 x4 x5 x6 x7 x8 x9 x10 u) (hl : lv_has ls 11 [(0, .ref x0), (1, .int x1), (4, .int x4), (5, .int x5), (6, .int x6), (7, .int x7), (8, .int x8), (9, .int x9), (10, .int x10)]) (hP : Hp G u s H locs) : W p l e rm_X12_knows s m args below meth c H locs 0 0 (MQ below (Ei G Q) args s 0 0 (ag G)) (F0 m 135 ls []) := by
  have hx := C.1
  have hb := C.2.1
  unfold V_X12_knows_135_B at h
  refine lv_iload hx hb dX12_knows_135 (lv_at hl 7 rfl) ?_
  refine lv_if_eq (tgt := 177) hx hb dX12_knows_137 (by decide) (fun c137 => ?_) (fun c137 => ?_)
  · have h := h.1 c137
    exact b_X12_knows_177 C hr hlk hk_89 h (lv_sub hl [0, 1, 2, 3, 4, 5, 6, 7] rfl) hP
  · have h := h.2 c137
    refine lv_iload hx hb dX12_knows_140 (lv_at hl 8 rfl) ?_
    refine lv_iload hx hb dX12_knows_142 (lv_at hl 4 rfl) ?_
    refine lv_icmp_ge (tgt := 177) hx hb dX12_knows_144 (by decide) (fun c144 => ?_) (fun c144 => ?_)
    · have h := h.1 c144
      exact b_X12_knows_177 C hr hlk hk_89 h (lv_sub hl [0, 1, 2, 3, 4, 5, 6, 7] rfl) hP
    · have h := h.2 c144
      refine lv_aload_n hx hb dX12_knows_147 rfl (lv_at hl 0 rfl) ?_
      obtain ⟨g1, h⟩ := h
      obtain ⟨g2, h⟩ := h
      refine q_getR C hP (k := 24) (lay_X12 C.hA) rfl (by decide) g1 g2 (fl_X12_64 C.hA) dX12_knows_148 ?_
      refine lv_iload hx hb dX12_knows_151 (lv_at hl 8 rfl) ?_
      obtain ⟨g3, h⟩ := h
      obtain ⟨g4, h⟩ := h
      refine q_iald C hP g3 g4 dX12_knows_153 ?_
      refine lv_aload_n hx hb dX12_knows_154 rfl (lv_at hl 0 rfl) ?_
      obtain ⟨g5, h⟩ := h
      refine q_getR C hP (k := 25) (lay_X12 C.hA) rfl (by decide) g1 g5 (fl_X12_67 C.hA) dX12_knows_155 ?_
      refine lv_iload hx hb dX12_knows_158 (lv_at hl 8 rfl) ?_
      obtain ⟨g6, h⟩ := h
      obtain ⟨g7, h⟩ := h
      refine q_iald C hP g6 g7 dX12_knows_160 ?_
      refine lv_icmp_ne (tgt := 168) hx hb dX12_knows_161 (by decide) (fun c161 => ?_) (fun c161 => ?_)
      · have h := h.2 c161
        refine lv_iconst (v := (0 : Int32)) hx hb dX12_knows_168 (by decide) ?_
        exact b_X12_knows_169 C hr hlk hk_89 hk_135 h (lv_sub hl [0, 1, 2, 3, 4, 5, 6, 8] rfl) hP
      · have h := h.1 c161
        refine lv_iconst (v := (1 : Int32)) hx hb dX12_knows_164 (by decide) ?_
        refine lv_goto (tgt := 169) hx hb dX12_knows_165 (by decide) ?_
        exact b_X12_knows_169 C hr hlk hk_89 hk_135 h (lv_sub hl [0, 1, 2, 3, 4, 5, 6, 8] rfl) hP
theorem l_X12_knows_135 {G : Gx} {Q : Int32 → Mm → Prop} {p : Program} {l : Launch} {e : Env} {s : State} {m : MethodId} {args : Array Value} {below : List Frame} {meth : Method} {c : Code} (C : Cx G p s m c cX12_knows RX12 11) (hr : meth.sig.returnType = (some .int)) (hlk : meth.locks = false) {k_89 : Nat → Int32 → Int32 → Int32 → Int32 → Int32 → Int32 → Mm → Prop} (hk_89 : ∀ (x0 : Nat) (x1 : Int32) (x4 : Int32) (x5 : Int32) (x6 : Int32) (x7 : Int32) (x8 : Int32) (u : Mm) (H : Heap) (locs : List Loc) (ls : Array Slot), k_89 x0 x1 x4 x5 x6 x7 x8 u → lv_has ls 11 [(0, .ref x0), (1, .int x1), (4, .int x4), (5, .int x5), (6, .int x6), (7, .int x7), (8, .int x8)] → Hp G u s H locs → W p l e rm_X12_knows s m args below meth c H locs 0 0 (MQ below (Ei G Q) args s 0 0 (ag G)) (F0 m 89 ls [])) : ∀ (n : Nat) (x0 : Nat) (x1 : Int32) (x4 : Int32) (x5 : Int32) (x6 : Int32) (x7 : Int32) (x8 : Int32) (x9 : Int32) (x10 : Int32) (u : Mm) (H : Heap) (locs : List Loc) (ls : Array Slot), V_X12_knows_135 G Q k_89 n x0 x1 x4 x5 x6 x7 x8 x9 x10 u → lv_has ls 11 [(0, .ref x0), (1, .int x1), (4, .int x4), (5, .int x5), (6, .int x6), (7, .int x7), (8, .int x8), (9, .int x9), (10, .int x10)] → Hp G u s H locs → W p l e rm_X12_knows s m args below meth c H locs 0 0 (MQ below (Ei G Q) args s 0 0 (ag G)) (F0 m 135 ls []) := by
  intro n
  induction n with
  | zero => intro x0 x1 x4 x5 x6 x7 x8 x9 x10 u H locs ls h; exact h.elim
  | succ n ih => intro x0 x1 x4 x5 x6 x7 x8 x9 x10 u H locs ls h hl hP; exact b_X12_knows_135 C hr hlk hk_89 ih h hl hP
set_option maxHeartbeats 4000000 in
set_option maxRecDepth 100000 in
theorem b_X12_knows_130 {G : Gx} {Q : Int32 → Mm → Prop} {p : Program} {l : Launch} {e : Env} {s : State} {m : MethodId} {args : Array Value} {below : List Frame} {meth : Method} {c : Code} (C : Cx G p s m c cX12_knows RX12 11) (hr : meth.sig.returnType = (some .int)) (hlk : meth.locks = false) {k_89 : Nat → Int32 → Int32 → Int32 → Int32 → Int32 → Int32 → Mm → Prop} (hk_89 : ∀ (x0 : Nat) (x1 : Int32) (x4 : Int32) (x5 : Int32) (x6 : Int32) (x7 : Int32) (x8 : Int32) (u : Mm) (H : Heap) (locs : List Loc) (ls : Array Slot), k_89 x0 x1 x4 x5 x6 x7 x8 u → lv_has ls 11 [(0, .ref x0), (1, .int x1), (4, .int x4), (5, .int x5), (6, .int x6), (7, .int x7), (8, .int x8)] → Hp G u s H locs → W p l e rm_X12_knows s m args below meth c H locs 0 0 (MQ below (Ei G Q) args s 0 0 (ag G)) (F0 m 89 ls [])) {x0 : Nat} {x1 : Int32} {x4 : Int32} {x5 : Int32} {x6 : Int32} {x7 : Int32} {x8 : Int32} {t0 : Int32} {u : Mm} {H : Heap} {locs : List Loc} {ls : Array Slot} (h : V_X12_knows_130 G Q k_89 x0 x1 x4 x5 x6 x7 x8 t0 u) (hl : lv_has ls 11 [(0, .ref x0), (1, .int x1), (4, .int x4), (5, .int x5), (6, .int x6), (7, .int x7), (8, .int x8)]) (hP : Hp G u s H locs) : W p l e rm_X12_knows s m args below meth c H locs 0 0 (MQ below (Ei G Q) args s 0 0 (ag G)) (F0 m 130 ls [.int t0]) := by
  have hx := C.1
  have hb := C.2.1
  unfold V_X12_knows_130 at h
  refine lv_istore (lv' := [(9, .int t0), (0, .ref x0), (1, .int x1), (4, .int x4), (5, .int x5), (6, .int x6), (7, .int x7), (8, .int x8)]) hx hb dX12_knows_130 hl (by decide) rfl (fun ls hl => ?_)
  refine lv_iconst (v := (0 : Int32)) hx hb dX12_knows_132 (by decide) ?_
  refine lv_istore (lv' := [(10, .int (0 : Int32)), (9, .int t0), (0, .ref x0), (1, .int x1), (4, .int x4), (5, .int x5), (6, .int x6), (7, .int x7), (8, .int x8)]) hx hb dX12_knows_133 hl (by decide) rfl (fun ls hl => ?_)
  obtain ⟨n, h⟩ := h
  exact l_X12_knows_135 C hr hlk hk_89 n x0 x1 x4 x5 x6 x7 x8 t0 (0 : Int32) u _ _ _ h (lv_sub hl [2, 3, 4, 5, 6, 7, 8, 1, 0] rfl) hP
set_option maxHeartbeats 4000000 in
set_option maxRecDepth 100000 in
theorem b_X12_knows_89 {G : Gx} {Q : Int32 → Mm → Prop} {p : Program} {l : Launch} {e : Env} {s : State} {m : MethodId} {args : Array Value} {below : List Frame} {meth : Method} {c : Code} (C : Cx G p s m c cX12_knows RX12 11) (hr : meth.sig.returnType = (some .int)) (hlk : meth.locks = false) {k_89 : Nat → Int32 → Int32 → Int32 → Int32 → Int32 → Int32 → Mm → Prop} (hk_89 : ∀ (x0 : Nat) (x1 : Int32) (x4 : Int32) (x5 : Int32) (x6 : Int32) (x7 : Int32) (x8 : Int32) (u : Mm) (H : Heap) (locs : List Loc) (ls : Array Slot), k_89 x0 x1 x4 x5 x6 x7 x8 u → lv_has ls 11 [(0, .ref x0), (1, .int x1), (4, .int x4), (5, .int x5), (6, .int x6), (7, .int x7), (8, .int x8)] → Hp G u s H locs → W p l e rm_X12_knows s m args below meth c H locs 0 0 (MQ below (Ei G Q) args s 0 0 (ag G)) (F0 m 89 ls [])) {x0 : Nat} {x1 : Int32} {x4 : Int32} {x5 : Int32} {x6 : Int32} {x7 : Int32} {x8 : Int32} {u : Mm} {H : Heap} {locs : List Loc} {ls : Array Slot} (h : V_X12_knows_89_B G Q k_89 x0 x1 x4 x5 x6 x7 x8 u) (hl : lv_has ls 11 [(0, .ref x0), (1, .int x1), (4, .int x4), (5, .int x5), (6, .int x6), (7, .int x7), (8, .int x8)]) (hP : Hp G u s H locs) : W p l e rm_X12_knows s m args below meth c H locs 0 0 (MQ below (Ei G Q) args s 0 0 (ag G)) (F0 m 89 ls []) := by
  have hx := C.1
  have hb := C.2.1
  unfold V_X12_knows_89_B at h
  refine lv_iload hx hb dX12_knows_89 (lv_at hl 6 rfl) ?_
  refine lv_sipush (v := (1681 : Int32)) hx hb dX12_knows_91 (by decide) ?_
  refine lv_icmp_ge (tgt := 198) hx hb dX12_knows_94 (by decide) (fun c94 => ?_) (fun c94 => ?_)
  · have h := h.1 c94
    refine lv_iload hx hb dX12_knows_198 (lv_at hl 5 rfl) ?_
    exact q_iret C hr hlk hP h (by decide) (by decide) dX12_knows_200
  · have h := h.2 c94
    refine lv_aload_n hx hb dX12_knows_97 rfl (lv_at hl 0 rfl) ?_
    refine lv_iload_n hx hb dX12_knows_98 rfl (lv_at hl 1 rfl) ?_
    refine lv_iload hx hb dX12_knows_99 (lv_at hl 6 rfl) ?_
    refine lv_bipush (v := (41 : Int32)) hx hb dX12_knows_101 (by decide) ?_
    refine lv_irem hx hb dX12_knows_103 (by decide) ?_
    refine lv_iload hx hb dX12_knows_104 (lv_at hl 6 rfl) ?_
    refine lv_bipush (v := (41 : Int32)) hx hb dX12_knows_106 (by decide) ?_
    refine lv_idiv hx hb dX12_knows_108 (by decide) ?_
    refine lv_iload hx hb dX12_knows_109 (lv_at hl 2 rfl) ?_
    refine lv_iload hx hb dX12_knows_111 (lv_at hl 3 rfl) ?_
    obtain ⟨g1, h⟩ := h
    refine q_calv (q_runV C hP (c_X12_tellThief h) (cd_X12_tellThief C.hA) (ini_X12 C.hA) (ml_X12_389 C.hA) (im_X12_tellThief C.hA) (sl_X12_tellThief C.hA) g1 (by decide) rfl hd_X12_tellThief ⟨rfl, rfl⟩ ⟨Nat.le_of_ble_eq_true rfl, Nat.le_of_ble_eq_true rfl⟩ ⟨Nat.le_of_ble_eq_true rfl, Nat.le_of_ble_eq_true rfl⟩ hl.1 rfl (Nat.le_of_ble_eq_true rfl) dX12_knows_113) hP (fun u_113 H locs h hP => ?_)
    refine lv_aload_n hx hb dX12_knows_116 rfl (lv_at hl 0 rfl) ?_
    refine q_getI C hP (k := 26) (lay_X12 C.hA) rfl (by decide) g1 (fl_X12_313 C.hA) dX12_knows_117 ?_
    refine lv_iload hx hb dX12_knows_120 (lv_at hl 4 rfl) ?_
    refine lv_icmp_ne (tgt := 129) hx hb dX12_knows_122 (by decide) (fun c122 => ?_) (fun c122 => ?_)
    · have h := h.2 c122
      refine lv_iconst (v := (0 : Int32)) hx hb dX12_knows_129 (by decide) ?_
      exact b_X12_knows_130 C hr hlk hk_89 h (lv_sub hl [0, 1, 2, 3, 4, 5, 6] rfl) hP
    · have h := h.1 c122
      refine lv_iconst (v := (1 : Int32)) hx hb dX12_knows_125 (by decide) ?_
      refine lv_goto (tgt := 130) hx hb dX12_knows_126 (by decide) ?_
      exact b_X12_knows_130 C hr hlk hk_89 h (lv_sub hl [0, 1, 2, 3, 4, 5, 6] rfl) hP
theorem l_X12_knows_89 {G : Gx} {Q : Int32 → Mm → Prop} {p : Program} {l : Launch} {e : Env} {s : State} {m : MethodId} {args : Array Value} {below : List Frame} {meth : Method} {c : Code} (C : Cx G p s m c cX12_knows RX12 11) (hr : meth.sig.returnType = (some .int)) (hlk : meth.locks = false) : ∀ (n : Nat) (x0 : Nat) (x1 : Int32) (x4 : Int32) (x5 : Int32) (x6 : Int32) (x7 : Int32) (x8 : Int32) (u : Mm) (H : Heap) (locs : List Loc) (ls : Array Slot), V_X12_knows_89 G Q n x0 x1 x4 x5 x6 x7 x8 u → lv_has ls 11 [(0, .ref x0), (1, .int x1), (4, .int x4), (5, .int x5), (6, .int x6), (7, .int x7), (8, .int x8)] → Hp G u s H locs → W p l e rm_X12_knows s m args below meth c H locs 0 0 (MQ below (Ei G Q) args s 0 0 (ag G)) (F0 m 89 ls []) := by
  intro n
  induction n with
  | zero => intro x0 x1 x4 x5 x6 x7 x8 u H locs ls h; exact h.elim
  | succ n ih => intro x0 x1 x4 x5 x6 x7 x8 u H locs ls h hl hP; exact b_X12_knows_89 C hr hlk ih h hl hP
set_option maxHeartbeats 4000000 in
set_option maxRecDepth 100000 in
theorem b_X12_knows_56 {G : Gx} {Q : Int32 → Mm → Prop} {p : Program} {l : Launch} {e : Env} {s : State} {m : MethodId} {args : Array Value} {below : List Frame} {meth : Method} {c : Code} (C : Cx G p s m c cX12_knows RX12 11) (hr : meth.sig.returnType = (some .int)) (hlk : meth.locks = false) {k_56 : Nat → Int32 → Int32 → Int32 → Int32 → Int32 → Mm → Prop} (hk_56 : ∀ (x0 : Nat) (x1 : Int32) (x4 : Int32) (x5 : Int32) (x6 : Int32) (x7 : Int32) (u : Mm) (H : Heap) (locs : List Loc) (ls : Array Slot), k_56 x0 x1 x4 x5 x6 x7 u → lv_has ls 11 [(0, .ref x0), (1, .int x1), (4, .int x4), (5, .int x5), (6, .int x6), (7, .int x7)] → Hp G u s H locs → W p l e rm_X12_knows s m args below meth c H locs 0 0 (MQ below (Ei G Q) args s 0 0 (ag G)) (F0 m 56 ls [])) {x0 : Nat} {x1 : Int32} {x4 : Int32} {x5 : Int32} {x6 : Int32} {x7 : Int32} {u : Mm} {H : Heap} {locs : List Loc} {ls : Array Slot} (h : V_X12_knows_56_B G Q k_56 x0 x1 x4 x5 x6 x7 u) (hl : lv_has ls 11 [(0, .ref x0), (1, .int x1), (4, .int x4), (5, .int x5), (6, .int x6), (7, .int x7)]) (hP : Hp G u s H locs) : W p l e rm_X12_knows s m args below meth c H locs 0 0 (MQ below (Ei G Q) args s 0 0 (ag G)) (F0 m 56 ls []) := by
  have hx := C.1
  have hb := C.2.1
  unfold V_X12_knows_56_B at h
  refine lv_iload hx hb dX12_knows_56 (lv_at hl 5 rfl) ?_
  refine lv_iload hx hb dX12_knows_58 (lv_at hl 4 rfl) ?_
  refine lv_icmp_ge (tgt := 83) hx hb dX12_knows_60 (by decide) (fun c60 => ?_) (fun c60 => ?_)
  · have h := h.1 c60
    refine lv_iconst (v := (0 : Int32)) hx hb dX12_knows_83 (by decide) ?_
    refine lv_istore (lv' := [(7, .int (0 : Int32)), (0, .ref x0), (1, .int x1), (4, .int x4), (5, .int x5), (6, .int x6)]) hx hb dX12_knows_84 hl (by decide) rfl (fun ls hl => ?_)
    refine lv_iconst (v := (0 : Int32)) hx hb dX12_knows_86 (by decide) ?_
    refine lv_istore (lv' := [(8, .int (0 : Int32)), (7, .int (0 : Int32)), (0, .ref x0), (1, .int x1), (4, .int x4), (5, .int x5), (6, .int x6)]) hx hb dX12_knows_87 hl (by decide) rfl (fun ls hl => ?_)
    obtain ⟨n, h⟩ := h
    exact l_X12_knows_89 C hr hlk n x0 x1 x4 x5 x6 (0 : Int32) (0 : Int32) u _ _ _ h (lv_sub hl [2, 3, 4, 5, 6, 1, 0] rfl) hP
  · have h := h.2 c60
    refine lv_aload_n hx hb dX12_knows_63 rfl (lv_at hl 0 rfl) ?_
    obtain ⟨g1, h⟩ := h
    obtain ⟨g2, h⟩ := h
    refine q_getR C hP (k := 25) (lay_X12 C.hA) rfl (by decide) g1 g2 (fl_X12_67 C.hA) dX12_knows_64 ?_
    refine lv_iload hx hb dX12_knows_67 (lv_at hl 5 rfl) ?_
    refine lv_aload_n hx hb dX12_knows_69 rfl (lv_at hl 0 rfl) ?_
    obtain ⟨g3, h⟩ := h
    refine q_getR C hP (k := 24) (lay_X12 C.hA) rfl (by decide) g1 g3 (fl_X12_64 C.hA) dX12_knows_70 ?_
    refine lv_iload hx hb dX12_knows_73 (lv_at hl 5 rfl) ?_
    obtain ⟨g4, h⟩ := h
    obtain ⟨g5, h⟩ := h
    refine q_iald C hP g4 g5 dX12_knows_75 ?_
    obtain ⟨g6, h⟩ := h
    obtain ⟨g7, h⟩ := h
    refine q_iast C hP g6 g7 dX12_knows_76 (fun H locs hP => ?_)
    obtain ⟨u_76, eu_76, hP⟩ := Hp.nm hP
    have h := h u_76 eu_76
    obtain ⟨x7_77, ex7_77⟩ : ∃ y : Int32, y = x7 + (1 : Int32) := ⟨_, rfl⟩
    have h := h x7_77 ex7_77
    refine lv_iinc (v := x7_77) (lv' := [(7, .int x7_77), (0, .ref x0), (1, .int x1), (4, .int x4), (5, .int x5), (6, .int x6)]) hx hb dX12_knows_77 hl (k := 5) rfl (by rw [ex7_77]; rfl) (by decide) rfl (fun ls hl => ?_)
    refine lv_goto (tgt := 56) hx hb dX12_knows_80 (by decide) ?_
    exact hk_56 x0 x1 x4 x5 x6 x7_77 u_76 _ _ _ h (lv_sub hl [1, 2, 3, 4, 5, 0] rfl) hP
theorem l_X12_knows_56 {G : Gx} {Q : Int32 → Mm → Prop} {p : Program} {l : Launch} {e : Env} {s : State} {m : MethodId} {args : Array Value} {below : List Frame} {meth : Method} {c : Code} (C : Cx G p s m c cX12_knows RX12 11) (hr : meth.sig.returnType = (some .int)) (hlk : meth.locks = false) : ∀ (n : Nat) (x0 : Nat) (x1 : Int32) (x4 : Int32) (x5 : Int32) (x6 : Int32) (x7 : Int32) (u : Mm) (H : Heap) (locs : List Loc) (ls : Array Slot), V_X12_knows_56 G Q n x0 x1 x4 x5 x6 x7 u → lv_has ls 11 [(0, .ref x0), (1, .int x1), (4, .int x4), (5, .int x5), (6, .int x6), (7, .int x7)] → Hp G u s H locs → W p l e rm_X12_knows s m args below meth c H locs 0 0 (MQ below (Ei G Q) args s 0 0 (ag G)) (F0 m 56 ls []) := by
  intro n
  induction n with
  | zero => intro x0 x1 x4 x5 x6 x7 u H locs ls h; exact h.elim
  | succ n ih => intro x0 x1 x4 x5 x6 x7 u H locs ls h hl hP; exact b_X12_knows_56 C hr hlk ih h hl hP
set_option maxHeartbeats 4000000 in
set_option maxRecDepth 100000 in
theorem b_X12_knows_30 {G : Gx} {Q : Int32 → Mm → Prop} {p : Program} {l : Launch} {e : Env} {s : State} {m : MethodId} {args : Array Value} {below : List Frame} {meth : Method} {c : Code} (C : Cx G p s m c cX12_knows RX12 11) (hr : meth.sig.returnType = (some .int)) (hlk : meth.locks = false) {x0 : Nat} {u : Mm} {H : Heap} {locs : List Loc} {ls : Array Slot} (h : V_X12_knows_30 G Q x0 u) (hl : lv_has ls 11 [(0, .ref x0)]) (hP : Hp G u s H locs) : W p l e rm_X12_knows s m args below meth c H locs 0 0 (MQ below (Ei G Q) args s 0 0 (ag G)) (F0 m 30 ls []) := by
  have hx := C.1
  have hb := C.2.1
  unfold V_X12_knows_30 at h
  refine lv_aload_n hx hb dX12_knows_30 rfl (lv_at hl 0 rfl) ?_
  refine lv_iconst (v := (1 : Int32)) hx hb dX12_knows_31 (by decide) ?_
  obtain ⟨g1, h⟩ := h
  refine q_cali (q_runV C hP (c_X12_fail h) (cd_X12_fail C.hA) (ini_X12 C.hA) (ml_X12_249 C.hA) (im_X12_fail C.hA) (sl_X12_fail C.hA) g1 (by decide) rfl hd_X12_fail ⟨rfl, rfl⟩ ⟨Nat.le_of_ble_eq_true rfl, Nat.le_of_ble_eq_true rfl⟩ ⟨Nat.le_of_ble_eq_true rfl, Nat.le_of_ble_eq_true rfl⟩ hl.1 rfl (Nat.le_of_ble_eq_true rfl) dX12_knows_32) hP (fun v_32 u_32 H locs h hP => ?_)
  exact q_iret C hr hlk hP h (by decide) (by decide) dX12_knows_35
set_option maxHeartbeats 4000000 in
set_option maxRecDepth 100000 in
theorem c_X12_knows {l : Launch} {G : Gx} {p0 : Nat} {p1 : Int32} {p2 : Int32} {p3 : Int32} {p4 : Int32} {p5 : Int32} {u : Mm} {Q : Int32 → Mm → Prop} (h : V_X12_knows G p0 p1 p2 p3 p4 p5 u Q) : Met l yX12_knows [.code yX12_knows cX12_knows 11 (some .int)] rm_X12_knows (va_Pc [.ref p0, .int p1, .int p2, .int p3, .int p4, .int p5] (Wd G u)) (Ei G Q) 0 0 (ag G) := by
  refine q_met (by decide) (Nat.le_of_ble_eq_true rfl) ?_
  intro p e s m below meth c ls C hr hlk hnm hl hP
  have hl : lv_has ls 11 [(0, .ref p0), (1, .int p1), (2, .int p2), (3, .int p3), (4, .int p4), (5, .int p5)] := hl
  generalize ([.ref p0, .int p1, .int p2, .int p3, .int p4, .int p5] : List Value).toArray = args
  have hx := C.1
  have hb := C.2.1
  unfold V_X12_knows at h
  refine lv_aload_n hx hb dX12_knows_0 rfl (lv_at hl 0 rfl) ?_
  refine lv_iconst (v := (0 : Int32)) hx hb dX12_knows_1 (by decide) ?_
  obtain ⟨g1, h⟩ := h
  refine q_putI C hP (k := 1) tyX12_ok nmX12 (lay_X12 C.hA) rfl (by decide) rfl rfl rfl rfl g1 (fl_X12_147 C.hA) dX12_knows_2 (fun H locs hP => ?_)
  obtain ⟨u_2, eu_2, hP⟩ := Hp.nm hP
  have h := h u_2 eu_2
  refine lv_iload_n hx hb dX12_knows_5 rfl (lv_at hl 1 rfl) ?_
  refine q_cali (q_runS C hP (c_X12_isLand h) (cd_X12_isLand C.hA) (ini_X12 C.hA) (ml_X12_246 C.hA) (st_X12_isLand C.hA) hd_X12_isLand ⟨rfl, rfl⟩ ⟨Nat.le_of_ble_eq_true rfl, Nat.le_of_ble_eq_true rfl⟩ ⟨Nat.le_of_ble_eq_true rfl, Nat.le_of_ble_eq_true rfl⟩ hl.1 rfl (Nat.le_of_ble_eq_true rfl) dX12_knows_6) hP (fun v_6 u_6 H locs h hP => ?_)
  refine lv_if_eq (tgt := 30) hx hb dX12_knows_9 (by decide) (fun c9 => ?_) (fun c9 => ?_)
  · have h := h.1 c9
    exact b_X12_knows_30 C hr hlk h (lv_sub hl [0] rfl) hP
  · have h := h.2 c9
    refine lv_iload_n hx hb dX12_knows_12 rfl (lv_at hl 2 rfl) ?_
    refine lv_iload_n hx hb dX12_knows_13 rfl (lv_at hl 3 rfl) ?_
    refine q_cali (q_runS C hP (c_X12_isPlace h) (cd_X12_isPlace C.hA) (ini_X12 C.hA) (ml_X12_330 C.hA) (st_X12_isPlace C.hA) hd_X12_isPlace ⟨rfl, rfl⟩ ⟨Nat.le_of_ble_eq_true rfl, Nat.le_of_ble_eq_true rfl⟩ ⟨Nat.le_of_ble_eq_true rfl, Nat.le_of_ble_eq_true rfl⟩ hl.1 rfl (Nat.le_of_ble_eq_true rfl) dX12_knows_14) hP (fun v_14 u_14 H locs h hP => ?_)
    refine lv_if_eq (tgt := 30) hx hb dX12_knows_17 (by decide) (fun c17 => ?_) (fun c17 => ?_)
    · have h := h.1 c17
      exact b_X12_knows_30 C hr hlk h (lv_sub hl [0] rfl) hP
    · have h := h.2 c17
      refine lv_iload hx hb dX12_knows_20 (lv_at hl 4 rfl) ?_
      refine lv_iload hx hb dX12_knows_22 (lv_at hl 5 rfl) ?_
      refine q_cali (q_runS C hP (c_X12_isPlace h) (cd_X12_isPlace C.hA) (ini_X12 C.hA) (ml_X12_330 C.hA) (st_X12_isPlace C.hA) hd_X12_isPlace ⟨rfl, rfl⟩ ⟨Nat.le_of_ble_eq_true rfl, Nat.le_of_ble_eq_true rfl⟩ ⟨Nat.le_of_ble_eq_true rfl, Nat.le_of_ble_eq_true rfl⟩ hl.1 rfl (Nat.le_of_ble_eq_true rfl) dX12_knows_24) hP (fun v_24 u_24 H locs h hP => ?_)
      refine lv_if_ne (tgt := 36) hx hb dX12_knows_27 (by decide) (fun c27 => ?_) (fun c27 => ?_)
      · have h := h.2 c27
        refine lv_aload_n hx hb dX12_knows_36 rfl (lv_at hl 0 rfl) ?_
        refine lv_iload_n hx hb dX12_knows_37 rfl (lv_at hl 1 rfl) ?_
        refine lv_iload_n hx hb dX12_knows_38 rfl (lv_at hl 2 rfl) ?_
        refine lv_iload_n hx hb dX12_knows_39 rfl (lv_at hl 3 rfl) ?_
        refine lv_iload hx hb dX12_knows_40 (lv_at hl 4 rfl) ?_
        refine lv_iload hx hb dX12_knows_42 (lv_at hl 5 rfl) ?_
        refine q_calv (q_runV C hP (c_X12_tellThief h) (cd_X12_tellThief C.hA) (ini_X12 C.hA) (ml_X12_389 C.hA) (im_X12_tellThief C.hA) (sl_X12_tellThief C.hA) g1 (by decide) rfl hd_X12_tellThief ⟨rfl, rfl⟩ ⟨Nat.le_of_ble_eq_true rfl, Nat.le_of_ble_eq_true rfl⟩ ⟨Nat.le_of_ble_eq_true rfl, Nat.le_of_ble_eq_true rfl⟩ hl.1 rfl (Nat.le_of_ble_eq_true rfl) dX12_knows_44) hP (fun u_44 H locs h hP => ?_)
        refine lv_aload_n hx hb dX12_knows_47 rfl (lv_at hl 0 rfl) ?_
        refine q_getI C hP (k := 26) (lay_X12 C.hA) rfl (by decide) g1 (fl_X12_313 C.hA) dX12_knows_48 ?_
        refine lv_topi (fun x6_51 ex6_51 => ?_)
        have h := h x6_51 ex6_51
        refine lv_istore (lv' := [(6, .int x6_51), (0, .ref p0), (1, .int p1), (2, .int p2), (3, .int p3), (4, .int p4), (5, .int p5)]) hx hb dX12_knows_51 hl (by decide) rfl (fun ls hl => ?_)
        refine lv_iconst (v := (0 : Int32)) hx hb dX12_knows_53 (by decide) ?_
        refine lv_istore (lv' := [(7, .int (0 : Int32)), (6, .int x6_51), (0, .ref p0), (1, .int p1), (2, .int p2), (3, .int p3), (4, .int p4), (5, .int p5)]) hx hb dX12_knows_54 hl (by decide) rfl (fun ls hl => ?_)
        obtain ⟨n, h⟩ := h
        exact l_X12_knows_56 C hr hlk n p0 p1 p4 p5 x6_51 (0 : Int32) u_44 _ _ _ h (lv_sub hl [2, 3, 6, 7, 1, 0] rfl) hP
      · have h := h.1 c27
        exact b_X12_knows_30 C hr hlk h (lv_sub hl [0] rfl) hP
-- X12_word
abbrev rm_X12_word : Room := { frames := 3, cells := 0, slots := 0, locals := 88 }
theorem hd_X12_word : yX12_word.cls ≠ "java/lang/invoke/MethodHandle" ∧ yX12_word.cls ≠ "java/lang/invoke/VarHandle" ∧ (parseMethodDescriptor yX12_word.desc).map (fun d => d.parameters.length) = some 4 := by decide +kernel
def V_X12_word_128 (G : Gx) (Q : Int32 → Mm → Prop) (k_40 : Nat → Int32 → Int32 → Int32 → Int32 → Int32 → Int32 → Mm → Prop) (x0 : Nat) (x1 : Int32) (x2 : Int32) (x3 : Int32) (x4 : Int32) (x5 : Int32) (x6 : Int32) (u : Mm) : Prop :=
  ∀ x6_128 : Int32, x6_128 = x6 + (1 : Int32) → k_40 x0 x1 x2 x3 x4 x5 x6_128 u
def V_X12_word_125 (G : Gx) (Q : Int32 → Mm → Prop) (k_40 : Nat → Int32 → Int32 → Int32 → Int32 → Int32 → Int32 → Mm → Prop) (x0 : Nat) (x1 : Int32) (x2 : Int32) (x3 : Int32) (x4 : Int32) (x6 : Int32) (t0 : Int32) (t1 : Int32) (u : Mm) : Prop :=
  ∀ x5_126 : Int32, x5_126 = (t0 + t1) → V_X12_word_128 G Q k_40 x0 x1 x2 x3 x4 x5_126 x6 u
def V_X12_word_74 (G : Gx) (Q : Int32 → Mm → Prop) (k_40 : Nat → Int32 → Int32 → Int32 → Int32 → Int32 → Int32 → Mm → Prop) (x0 : Nat) (x1 : Int32) (x2 : Int32) (x3 : Int32) (x4 : Int32) (x5 : Int32) (x6 : Int32) (x7 : Int32) (x8 : Int32) (u : Mm) : Prop :=
  kd G x0 = 12 ∧ V_X12_isHidden G x0 x1 (0 : Int32) x2 x3 x7 x8 u (fun (v_83 : Int32) (u_83 : Mm) => ((v_83 = 0 → V_X12_throughWoods G x0 x1 x4 (1000 : Int32) (1 : Int32) x2 x3 x7 x8 u_83 (fun (v_108 : Int32) (u_108 : Mm) => (gR u_108 x0 5) ≠ 0 ∧ kd G (gR u_108 x0 5) = 13 ∧ vp_in x1 (ln G (gR u_108 x0 5)) ∧ ((v_108 < (gI u_108 (gR u_108 x0 5) x1.toNatClampNeg) → V_X12_word_125 G Q k_40 x0 x1 x2 x3 x4 x6 x5 (0 : Int32) u_108) ∧ (¬ v_108 < (gI u_108 (gR u_108 x0 5) x1.toNatClampNeg) → V_X12_word_125 G Q k_40 x0 x1 x2 x3 x4 x6 x5 (1 : Int32) u_108)))) ∧ (¬ v_83 = 0 → V_X12_word_128 G Q k_40 x0 x1 x2 x3 x4 x5 x6 u_83)))
def V_X12_word_40_B (G : Gx) (Q : Int32 → Mm → Prop) (k_40 : Nat → Int32 → Int32 → Int32 → Int32 → Int32 → Int32 → Mm → Prop) (x0 : Nat) (x1 : Int32) (x2 : Int32) (x3 : Int32) (x4 : Int32) (x5 : Int32) (x6 : Int32) (u : Mm) : Prop :=
  (((1681 : Int32) ≤ x6 → Q x5 u) ∧ (¬ (1681 : Int32) ≤ x6 → ∀ x7_53 : Int32, x7_53 = (irm x6 (41 : Int32)) → ∀ x8_60 : Int32, x8_60 = (x6 / (41 : Int32)) → ((x7_53 = x2 → ((x8_60 = x3 → V_X12_word_128 G Q k_40 x0 x1 x2 x3 x4 x5 x6 u) ∧ (¬ x8_60 = x3 → V_X12_word_74 G Q k_40 x0 x1 x2 x3 x4 x5 x6 x7_53 x8_60 u))) ∧ (¬ x7_53 = x2 → V_X12_word_74 G Q k_40 x0 x1 x2 x3 x4 x5 x6 x7_53 x8_60 u))))
def V_X12_word_40 (G : Gx) (Q : Int32 → Mm → Prop) : Nat → (Nat → Int32 → Int32 → Int32 → Int32 → Int32 → Int32 → Mm → Prop)
  | 0 => fun _ _ _ _ _ _ _ _ => False
  | n + 1 => fun x0 x1 x2 x3 x4 x5 x6 u => V_X12_word_40_B G Q (V_X12_word_40 G Q n) x0 x1 x2 x3 x4 x5 x6 u
def V_X12_word_28 (G : Gx) (Q : Int32 → Mm → Prop) (x0 : Nat) (u : Mm) : Prop :=
  kd G x0 = 12 ∧ V_X12_fail G x0 (1 : Int32) u (fun (v_30 : Int32) (u_30 : Mm) => Q v_30 u_30)
def V_X12_word (G : Gx) (p0 : Nat) (p1 : Int32) (p2 : Int32) (p3 : Int32) (p4 : Int32) (u : Mm) (Q : Int32 → Mm → Prop) : Prop :=
  kd G p0 = 12 ∧ ∀ u_2 : Mm, u_2 = sI u p0 1 (0 : Int32) → V_X12_isLand G p1 u_2 (fun (v_6 : Int32) (u_6 : Mm) => ((v_6 = 0 → V_X12_word_28 G Q p0 u_6) ∧ (¬ v_6 = 0 → V_X12_isPlace G p2 p3 u_6 (fun (v_14 : Int32) (u_14 : Mm) => ((v_14 = 0 → V_X12_word_28 G Q p0 u_14) ∧ (¬ v_14 = 0 → V_X12_isTone G p4 u_14 (fun (v_22 : Int32) (u_22 : Mm) => ((v_22 = 0 → V_X12_word_28 G Q p0 u_22) ∧ (¬ v_22 = 0 → ∃ n : Nat, V_X12_word_40 G Q n p0 p1 p2 p3 p4 (0 : Int32) (0 : Int32) u_22)))))))))
set_option maxHeartbeats 4000000 in
set_option maxRecDepth 100000 in
theorem b_X12_word_128 {G : Gx} {Q : Int32 → Mm → Prop} {p : Program} {l : Launch} {e : Env} {s : State} {m : MethodId} {args : Array Value} {below : List Frame} {meth : Method} {c : Code} (C : Cx G p s m c cX12_word RX12 9) (hr : meth.sig.returnType = (some .int)) (hlk : meth.locks = false) {k_40 : Nat → Int32 → Int32 → Int32 → Int32 → Int32 → Int32 → Mm → Prop} (hk_40 : ∀ (x0 : Nat) (x1 : Int32) (x2 : Int32) (x3 : Int32) (x4 : Int32) (x5 : Int32) (x6 : Int32) (u : Mm) (H : Heap) (locs : List Loc) (ls : Array Slot), k_40 x0 x1 x2 x3 x4 x5 x6 u → lv_has ls 9 [(0, .ref x0), (1, .int x1), (2, .int x2), (3, .int x3), (4, .int x4), (5, .int x5), (6, .int x6)] → Hp G u s H locs → W p l e rm_X12_word s m args below meth c H locs 0 0 (MQ below (Ei G Q) args s 0 0 (ag G)) (F0 m 40 ls [])) {x0 : Nat} {x1 : Int32} {x2 : Int32} {x3 : Int32} {x4 : Int32} {x5 : Int32} {x6 : Int32} {u : Mm} {H : Heap} {locs : List Loc} {ls : Array Slot} (h : V_X12_word_128 G Q k_40 x0 x1 x2 x3 x4 x5 x6 u) (hl : lv_has ls 9 [(0, .ref x0), (1, .int x1), (2, .int x2), (3, .int x3), (4, .int x4), (5, .int x5), (6, .int x6)]) (hP : Hp G u s H locs) : W p l e rm_X12_word s m args below meth c H locs 0 0 (MQ below (Ei G Q) args s 0 0 (ag G)) (F0 m 128 ls []) := by
  have hx := C.1
  have hb := C.2.1
  unfold V_X12_word_128 at h
  obtain ⟨x6_128, ex6_128⟩ : ∃ y : Int32, y = x6 + (1 : Int32) := ⟨_, rfl⟩
  have h := h x6_128 ex6_128
  refine lv_iinc (v := x6_128) (lv' := [(6, .int x6_128), (0, .ref x0), (1, .int x1), (2, .int x2), (3, .int x3), (4, .int x4), (5, .int x5)]) hx hb dX12_word_128 hl (k := 6) rfl (by rw [ex6_128]; rfl) (by decide) rfl (fun ls hl => ?_)
  refine lv_goto (tgt := 40) hx hb dX12_word_131 (by decide) ?_
  exact hk_40 x0 x1 x2 x3 x4 x5 x6_128 u _ _ _ h (lv_sub hl [1, 2, 3, 4, 5, 6, 0] rfl) hP
set_option maxHeartbeats 4000000 in
set_option maxRecDepth 100000 in
theorem b_X12_word_125 {G : Gx} {Q : Int32 → Mm → Prop} {p : Program} {l : Launch} {e : Env} {s : State} {m : MethodId} {args : Array Value} {below : List Frame} {meth : Method} {c : Code} (C : Cx G p s m c cX12_word RX12 9) (hr : meth.sig.returnType = (some .int)) (hlk : meth.locks = false) {k_40 : Nat → Int32 → Int32 → Int32 → Int32 → Int32 → Int32 → Mm → Prop} (hk_40 : ∀ (x0 : Nat) (x1 : Int32) (x2 : Int32) (x3 : Int32) (x4 : Int32) (x5 : Int32) (x6 : Int32) (u : Mm) (H : Heap) (locs : List Loc) (ls : Array Slot), k_40 x0 x1 x2 x3 x4 x5 x6 u → lv_has ls 9 [(0, .ref x0), (1, .int x1), (2, .int x2), (3, .int x3), (4, .int x4), (5, .int x5), (6, .int x6)] → Hp G u s H locs → W p l e rm_X12_word s m args below meth c H locs 0 0 (MQ below (Ei G Q) args s 0 0 (ag G)) (F0 m 40 ls [])) {x0 : Nat} {x1 : Int32} {x2 : Int32} {x3 : Int32} {x4 : Int32} {x6 : Int32} {t0 : Int32} {t1 : Int32} {u : Mm} {H : Heap} {locs : List Loc} {ls : Array Slot} (h : V_X12_word_125 G Q k_40 x0 x1 x2 x3 x4 x6 t0 t1 u) (hl : lv_has ls 9 [(0, .ref x0), (1, .int x1), (2, .int x2), (3, .int x3), (4, .int x4), (6, .int x6)]) (hP : Hp G u s H locs) : W p l e rm_X12_word s m args below meth c H locs 0 0 (MQ below (Ei G Q) args s 0 0 (ag G)) (F0 m 125 ls [.int t1, .int t0]) := by
  have hx := C.1
  have hb := C.2.1
  unfold V_X12_word_125 at h
  refine lv_iadd hx hb dX12_word_125 ?_
  refine lv_topi (fun x5_126 ex5_126 => ?_)
  have h := h x5_126 ex5_126
  refine lv_istore (lv' := [(5, .int x5_126), (0, .ref x0), (1, .int x1), (2, .int x2), (3, .int x3), (4, .int x4), (6, .int x6)]) hx hb dX12_word_126 hl (by decide) rfl (fun ls hl => ?_)
  exact b_X12_word_128 C hr hlk hk_40 h (lv_sub hl [1, 2, 3, 4, 5, 0, 6] rfl) hP
set_option maxHeartbeats 4000000 in
set_option maxRecDepth 100000 in
theorem b_X12_word_74 {G : Gx} {Q : Int32 → Mm → Prop} {p : Program} {l : Launch} {e : Env} {s : State} {m : MethodId} {args : Array Value} {below : List Frame} {meth : Method} {c : Code} (C : Cx G p s m c cX12_word RX12 9) (hr : meth.sig.returnType = (some .int)) (hlk : meth.locks = false) {k_40 : Nat → Int32 → Int32 → Int32 → Int32 → Int32 → Int32 → Mm → Prop} (hk_40 : ∀ (x0 : Nat) (x1 : Int32) (x2 : Int32) (x3 : Int32) (x4 : Int32) (x5 : Int32) (x6 : Int32) (u : Mm) (H : Heap) (locs : List Loc) (ls : Array Slot), k_40 x0 x1 x2 x3 x4 x5 x6 u → lv_has ls 9 [(0, .ref x0), (1, .int x1), (2, .int x2), (3, .int x3), (4, .int x4), (5, .int x5), (6, .int x6)] → Hp G u s H locs → W p l e rm_X12_word s m args below meth c H locs 0 0 (MQ below (Ei G Q) args s 0 0 (ag G)) (F0 m 40 ls [])) {x0 : Nat} {x1 : Int32} {x2 : Int32} {x3 : Int32} {x4 : Int32} {x5 : Int32} {x6 : Int32} {x7 : Int32} {x8 : Int32} {u : Mm} {H : Heap} {locs : List Loc} {ls : Array Slot} (h : V_X12_word_74 G Q k_40 x0 x1 x2 x3 x4 x5 x6 x7 x8 u) (hl : lv_has ls 9 [(0, .ref x0), (1, .int x1), (2, .int x2), (3, .int x3), (4, .int x4), (5, .int x5), (6, .int x6), (7, .int x7), (8, .int x8)]) (hP : Hp G u s H locs) : W p l e rm_X12_word s m args below meth c H locs 0 0 (MQ below (Ei G Q) args s 0 0 (ag G)) (F0 m 74 ls []) := by
  have hx := C.1
  have hb := C.2.1
  unfold V_X12_word_74 at h
  refine lv_aload_n hx hb dX12_word_74 rfl (lv_at hl 0 rfl) ?_
  refine lv_iload_n hx hb dX12_word_75 rfl (lv_at hl 1 rfl) ?_
  refine lv_iconst (v := (0 : Int32)) hx hb dX12_word_76 (by decide) ?_
  refine lv_iload_n hx hb dX12_word_77 rfl (lv_at hl 2 rfl) ?_
  refine lv_iload_n hx hb dX12_word_78 rfl (lv_at hl 3 rfl) ?_
  refine lv_iload hx hb dX12_word_79 (lv_at hl 7 rfl) ?_
  refine lv_iload hx hb dX12_word_81 (lv_at hl 8 rfl) ?_
  obtain ⟨g1, h⟩ := h
  refine q_cali (q_runV C hP (c_X12_isHidden h) (cd_X12_isHidden C.hA) (ini_X12 C.hA) (ml_X12_292 C.hA) (im_X12_isHidden C.hA) (sl_X12_isHidden C.hA) g1 (by decide) rfl hd_X12_isHidden ⟨rfl, rfl⟩ ⟨Nat.le_of_ble_eq_true rfl, Nat.le_of_ble_eq_true rfl⟩ ⟨Nat.le_of_ble_eq_true rfl, Nat.le_of_ble_eq_true rfl⟩ hl.1 rfl (Nat.le_of_ble_eq_true rfl) dX12_word_83) hP (fun v_83 u_83 H locs h hP => ?_)
  refine lv_if_eq (tgt := 92) hx hb dX12_word_86 (by decide) (fun c86 => ?_) (fun c86 => ?_)
  · have h := h.1 c86
    refine lv_iload hx hb dX12_word_92 (lv_at hl 5 rfl) ?_
    refine lv_aload_n hx hb dX12_word_94 rfl (lv_at hl 0 rfl) ?_
    refine lv_iload_n hx hb dX12_word_95 rfl (lv_at hl 1 rfl) ?_
    refine lv_iload hx hb dX12_word_96 (lv_at hl 4 rfl) ?_
    refine lv_sipush (v := (1000 : Int32)) hx hb dX12_word_98 (by decide) ?_
    refine lv_iconst (v := (1 : Int32)) hx hb dX12_word_101 (by decide) ?_
    refine lv_iload_n hx hb dX12_word_102 rfl (lv_at hl 2 rfl) ?_
    refine lv_iload_n hx hb dX12_word_103 rfl (lv_at hl 3 rfl) ?_
    refine lv_iload hx hb dX12_word_104 (lv_at hl 7 rfl) ?_
    refine lv_iload hx hb dX12_word_106 (lv_at hl 8 rfl) ?_
    refine q_cali (q_runV C hP (c_X12_throughWoods h) (cd_X12_throughWoods C.hA) (ini_X12 C.hA) (ml_X12_285 C.hA) (im_X12_throughWoods C.hA) (sl_X12_throughWoods C.hA) g1 (by decide) rfl hd_X12_throughWoods ⟨rfl, rfl⟩ ⟨Nat.le_of_ble_eq_true rfl, Nat.le_of_ble_eq_true rfl⟩ ⟨Nat.le_of_ble_eq_true rfl, Nat.le_of_ble_eq_true rfl⟩ hl.1 rfl (Nat.le_of_ble_eq_true rfl) dX12_word_108) hP (fun v_108 u_108 H locs h hP => ?_)
    refine lv_aload_n hx hb dX12_word_111 rfl (lv_at hl 0 rfl) ?_
    obtain ⟨g2, h⟩ := h
    refine q_getR C hP (k := 5) (lay_X12 C.hA) rfl (by decide) g1 g2 (fl_X12_37 C.hA) dX12_word_112 ?_
    refine lv_iload_n hx hb dX12_word_115 rfl (lv_at hl 1 rfl) ?_
    obtain ⟨g3, h⟩ := h
    obtain ⟨g4, h⟩ := h
    refine q_iald C hP g3 g4 dX12_word_116 ?_
    refine lv_icmp_lt (tgt := 124) hx hb dX12_word_117 (by decide) (fun c117 => ?_) (fun c117 => ?_)
    · have h := h.1 c117
      refine lv_iconst (v := (0 : Int32)) hx hb dX12_word_124 (by decide) ?_
      exact b_X12_word_125 C hr hlk hk_40 h (lv_sub hl [0, 1, 2, 3, 4, 6] rfl) hP
    · have h := h.2 c117
      refine lv_iconst (v := (1 : Int32)) hx hb dX12_word_120 (by decide) ?_
      refine lv_goto (tgt := 125) hx hb dX12_word_121 (by decide) ?_
      exact b_X12_word_125 C hr hlk hk_40 h (lv_sub hl [0, 1, 2, 3, 4, 6] rfl) hP
  · have h := h.2 c86
    refine lv_goto (tgt := 128) hx hb dX12_word_89 (by decide) ?_
    exact b_X12_word_128 C hr hlk hk_40 h (lv_sub hl [0, 1, 2, 3, 4, 5, 6] rfl) hP
set_option maxHeartbeats 4000000 in
set_option maxRecDepth 100000 in
theorem b_X12_word_40 {G : Gx} {Q : Int32 → Mm → Prop} {p : Program} {l : Launch} {e : Env} {s : State} {m : MethodId} {args : Array Value} {below : List Frame} {meth : Method} {c : Code} (C : Cx G p s m c cX12_word RX12 9) (hr : meth.sig.returnType = (some .int)) (hlk : meth.locks = false) {k_40 : Nat → Int32 → Int32 → Int32 → Int32 → Int32 → Int32 → Mm → Prop} (hk_40 : ∀ (x0 : Nat) (x1 : Int32) (x2 : Int32) (x3 : Int32) (x4 : Int32) (x5 : Int32) (x6 : Int32) (u : Mm) (H : Heap) (locs : List Loc) (ls : Array Slot), k_40 x0 x1 x2 x3 x4 x5 x6 u → lv_has ls 9 [(0, .ref x0), (1, .int x1), (2, .int x2), (3, .int x3), (4, .int x4), (5, .int x5), (6, .int x6)] → Hp G u s H locs → W p l e rm_X12_word s m args below meth c H locs 0 0 (MQ below (Ei G Q) args s 0 0 (ag G)) (F0 m 40 ls [])) {x0 : Nat} {x1 : Int32} {x2 : Int32} {x3 : Int32} {x4 : Int32} {x5 : Int32} {x6 : Int32} {u : Mm} {H : Heap} {locs : List Loc} {ls : Array Slot} (h : V_X12_word_40_B G Q k_40 x0 x1 x2 x3 x4 x5 x6 u) (hl : lv_has ls 9 [(0, .ref x0), (1, .int x1), (2, .int x2), (3, .int x3), (4, .int x4), (5, .int x5), (6, .int x6)]) (hP : Hp G u s H locs) : W p l e rm_X12_word s m args below meth c H locs 0 0 (MQ below (Ei G Q) args s 0 0 (ag G)) (F0 m 40 ls []) := by
  have hx := C.1
  have hb := C.2.1
  unfold V_X12_word_40_B at h
  refine lv_iload hx hb dX12_word_40 (lv_at hl 6 rfl) ?_
  refine lv_sipush (v := (1681 : Int32)) hx hb dX12_word_42 (by decide) ?_
  refine lv_icmp_ge (tgt := 134) hx hb dX12_word_45 (by decide) (fun c45 => ?_) (fun c45 => ?_)
  · have h := h.1 c45
    refine lv_iload hx hb dX12_word_134 (lv_at hl 5 rfl) ?_
    exact q_iret C hr hlk hP h (by decide) (by decide) dX12_word_136
  · have h := h.2 c45
    refine lv_iload hx hb dX12_word_48 (lv_at hl 6 rfl) ?_
    refine lv_bipush (v := (41 : Int32)) hx hb dX12_word_50 (by decide) ?_
    refine lv_irem hx hb dX12_word_52 (by decide) ?_
    refine lv_topi (fun x7_53 ex7_53 => ?_)
    have h := h x7_53 ex7_53
    refine lv_istore (lv' := [(7, .int x7_53), (0, .ref x0), (1, .int x1), (2, .int x2), (3, .int x3), (4, .int x4), (5, .int x5), (6, .int x6)]) hx hb dX12_word_53 hl (by decide) rfl (fun ls hl => ?_)
    refine lv_iload hx hb dX12_word_55 (lv_at hl 7 rfl) ?_
    refine lv_bipush (v := (41 : Int32)) hx hb dX12_word_57 (by decide) ?_
    refine lv_idiv hx hb dX12_word_59 (by decide) ?_
    refine lv_topi (fun x8_60 ex8_60 => ?_)
    have h := h x8_60 ex8_60
    refine lv_istore (lv' := [(8, .int x8_60), (7, .int x7_53), (0, .ref x0), (1, .int x1), (2, .int x2), (3, .int x3), (4, .int x4), (5, .int x5), (6, .int x6)]) hx hb dX12_word_60 hl (by decide) rfl (fun ls hl => ?_)
    refine lv_iload hx hb dX12_word_62 (lv_at hl 1 rfl) ?_
    refine lv_iload_n hx hb dX12_word_64 rfl (lv_at hl 4 rfl) ?_
    refine lv_icmp_ne (tgt := 74) hx hb dX12_word_65 (by decide) (fun c65 => ?_) (fun c65 => ?_)
    · have h := h.2 c65
      exact b_X12_word_74 C hr hlk hk_40 h (lv_sub hl [2, 3, 4, 5, 6, 7, 8, 1, 0] rfl) hP
    · have h := h.1 c65
      refine lv_iload hx hb dX12_word_68 (lv_at hl 0 rfl) ?_
      refine lv_iload_n hx hb dX12_word_70 rfl (lv_at hl 5 rfl) ?_
      refine lv_icmp_eq (tgt := 128) hx hb dX12_word_71 (by decide) (fun c71 => ?_) (fun c71 => ?_)
      · have h := h.1 c71
        exact b_X12_word_128 C hr hlk hk_40 h (lv_sub hl [2, 3, 4, 5, 6, 7, 8] rfl) hP
      · have h := h.2 c71
        exact b_X12_word_74 C hr hlk hk_40 h (lv_sub hl [2, 3, 4, 5, 6, 7, 8, 1, 0] rfl) hP
theorem l_X12_word_40 {G : Gx} {Q : Int32 → Mm → Prop} {p : Program} {l : Launch} {e : Env} {s : State} {m : MethodId} {args : Array Value} {below : List Frame} {meth : Method} {c : Code} (C : Cx G p s m c cX12_word RX12 9) (hr : meth.sig.returnType = (some .int)) (hlk : meth.locks = false) : ∀ (n : Nat) (x0 : Nat) (x1 : Int32) (x2 : Int32) (x3 : Int32) (x4 : Int32) (x5 : Int32) (x6 : Int32) (u : Mm) (H : Heap) (locs : List Loc) (ls : Array Slot), V_X12_word_40 G Q n x0 x1 x2 x3 x4 x5 x6 u → lv_has ls 9 [(0, .ref x0), (1, .int x1), (2, .int x2), (3, .int x3), (4, .int x4), (5, .int x5), (6, .int x6)] → Hp G u s H locs → W p l e rm_X12_word s m args below meth c H locs 0 0 (MQ below (Ei G Q) args s 0 0 (ag G)) (F0 m 40 ls []) := by
  intro n
  induction n with
  | zero => intro x0 x1 x2 x3 x4 x5 x6 u H locs ls h; exact h.elim
  | succ n ih => intro x0 x1 x2 x3 x4 x5 x6 u H locs ls h hl hP; exact b_X12_word_40 C hr hlk ih h hl hP
set_option maxHeartbeats 4000000 in
set_option maxRecDepth 100000 in
theorem b_X12_word_28 {G : Gx} {Q : Int32 → Mm → Prop} {p : Program} {l : Launch} {e : Env} {s : State} {m : MethodId} {args : Array Value} {below : List Frame} {meth : Method} {c : Code} (C : Cx G p s m c cX12_word RX12 9) (hr : meth.sig.returnType = (some .int)) (hlk : meth.locks = false) {x0 : Nat} {u : Mm} {H : Heap} {locs : List Loc} {ls : Array Slot} (h : V_X12_word_28 G Q x0 u) (hl : lv_has ls 9 [(0, .ref x0)]) (hP : Hp G u s H locs) : W p l e rm_X12_word s m args below meth c H locs 0 0 (MQ below (Ei G Q) args s 0 0 (ag G)) (F0 m 28 ls []) := by
  have hx := C.1
  have hb := C.2.1
  unfold V_X12_word_28 at h
  refine lv_aload_n hx hb dX12_word_28 rfl (lv_at hl 0 rfl) ?_
  refine lv_iconst (v := (1 : Int32)) hx hb dX12_word_29 (by decide) ?_
  obtain ⟨g1, h⟩ := h
  refine q_cali (q_runV C hP (c_X12_fail h) (cd_X12_fail C.hA) (ini_X12 C.hA) (ml_X12_249 C.hA) (im_X12_fail C.hA) (sl_X12_fail C.hA) g1 (by decide) rfl hd_X12_fail ⟨rfl, rfl⟩ ⟨Nat.le_of_ble_eq_true rfl, Nat.le_of_ble_eq_true rfl⟩ ⟨Nat.le_of_ble_eq_true rfl, Nat.le_of_ble_eq_true rfl⟩ hl.1 rfl (Nat.le_of_ble_eq_true rfl) dX12_word_30) hP (fun v_30 u_30 H locs h hP => ?_)
  exact q_iret C hr hlk hP h (by decide) (by decide) dX12_word_33
set_option maxHeartbeats 4000000 in
set_option maxRecDepth 100000 in
theorem c_X12_word {l : Launch} {G : Gx} {p0 : Nat} {p1 : Int32} {p2 : Int32} {p3 : Int32} {p4 : Int32} {u : Mm} {Q : Int32 → Mm → Prop} (h : V_X12_word G p0 p1 p2 p3 p4 u Q) : Met l yX12_word [.code yX12_word cX12_word 9 (some .int)] rm_X12_word (va_Pc [.ref p0, .int p1, .int p2, .int p3, .int p4] (Wd G u)) (Ei G Q) 0 0 (ag G) := by
  refine q_met (by decide) (Nat.le_of_ble_eq_true rfl) ?_
  intro p e s m below meth c ls C hr hlk hnm hl hP
  have hl : lv_has ls 9 [(0, .ref p0), (1, .int p1), (2, .int p2), (3, .int p3), (4, .int p4)] := hl
  generalize ([.ref p0, .int p1, .int p2, .int p3, .int p4] : List Value).toArray = args
  have hx := C.1
  have hb := C.2.1
  unfold V_X12_word at h
  refine lv_aload_n hx hb dX12_word_0 rfl (lv_at hl 0 rfl) ?_
  refine lv_iconst (v := (0 : Int32)) hx hb dX12_word_1 (by decide) ?_
  obtain ⟨g1, h⟩ := h
  refine q_putI C hP (k := 1) tyX12_ok nmX12 (lay_X12 C.hA) rfl (by decide) rfl rfl rfl rfl g1 (fl_X12_147 C.hA) dX12_word_2 (fun H locs hP => ?_)
  obtain ⟨u_2, eu_2, hP⟩ := Hp.nm hP
  have h := h u_2 eu_2
  refine lv_iload_n hx hb dX12_word_5 rfl (lv_at hl 1 rfl) ?_
  refine q_cali (q_runS C hP (c_X12_isLand h) (cd_X12_isLand C.hA) (ini_X12 C.hA) (ml_X12_246 C.hA) (st_X12_isLand C.hA) hd_X12_isLand ⟨rfl, rfl⟩ ⟨Nat.le_of_ble_eq_true rfl, Nat.le_of_ble_eq_true rfl⟩ ⟨Nat.le_of_ble_eq_true rfl, Nat.le_of_ble_eq_true rfl⟩ hl.1 rfl (Nat.le_of_ble_eq_true rfl) dX12_word_6) hP (fun v_6 u_6 H locs h hP => ?_)
  refine lv_if_eq (tgt := 28) hx hb dX12_word_9 (by decide) (fun c9 => ?_) (fun c9 => ?_)
  · have h := h.1 c9
    exact b_X12_word_28 C hr hlk h (lv_sub hl [0] rfl) hP
  · have h := h.2 c9
    refine lv_iload_n hx hb dX12_word_12 rfl (lv_at hl 2 rfl) ?_
    refine lv_iload_n hx hb dX12_word_13 rfl (lv_at hl 3 rfl) ?_
    refine q_cali (q_runS C hP (c_X12_isPlace h) (cd_X12_isPlace C.hA) (ini_X12 C.hA) (ml_X12_330 C.hA) (st_X12_isPlace C.hA) hd_X12_isPlace ⟨rfl, rfl⟩ ⟨Nat.le_of_ble_eq_true rfl, Nat.le_of_ble_eq_true rfl⟩ ⟨Nat.le_of_ble_eq_true rfl, Nat.le_of_ble_eq_true rfl⟩ hl.1 rfl (Nat.le_of_ble_eq_true rfl) dX12_word_14) hP (fun v_14 u_14 H locs h hP => ?_)
    refine lv_if_eq (tgt := 28) hx hb dX12_word_17 (by decide) (fun c17 => ?_) (fun c17 => ?_)
    · have h := h.1 c17
      exact b_X12_word_28 C hr hlk h (lv_sub hl [0] rfl) hP
    · have h := h.2 c17
      refine lv_iload hx hb dX12_word_20 (lv_at hl 4 rfl) ?_
      refine q_cali (q_runS C hP (c_X12_isTone h) (cd_X12_isTone C.hA) (ini_X12 C.hA) (ml_X12_336 C.hA) (st_X12_isTone C.hA) hd_X12_isTone ⟨rfl, rfl⟩ ⟨Nat.le_of_ble_eq_true rfl, Nat.le_of_ble_eq_true rfl⟩ ⟨Nat.le_of_ble_eq_true rfl, Nat.le_of_ble_eq_true rfl⟩ hl.1 rfl (Nat.le_of_ble_eq_true rfl) dX12_word_22) hP (fun v_22 u_22 H locs h hP => ?_)
      refine lv_if_ne (tgt := 34) hx hb dX12_word_25 (by decide) (fun c25 => ?_) (fun c25 => ?_)
      · have h := h.2 c25
        refine lv_iconst (v := (0 : Int32)) hx hb dX12_word_34 (by decide) ?_
        refine lv_istore (lv' := [(5, .int (0 : Int32)), (0, .ref p0), (1, .int p1), (2, .int p2), (3, .int p3), (4, .int p4)]) hx hb dX12_word_35 hl (by decide) rfl (fun ls hl => ?_)
        refine lv_iconst (v := (0 : Int32)) hx hb dX12_word_37 (by decide) ?_
        refine lv_istore (lv' := [(6, .int (0 : Int32)), (5, .int (0 : Int32)), (0, .ref p0), (1, .int p1), (2, .int p2), (3, .int p3), (4, .int p4)]) hx hb dX12_word_38 hl (by decide) rfl (fun ls hl => ?_)
        obtain ⟨n, h⟩ := h
        exact l_X12_word_40 C hr hlk n p0 p1 p2 p3 p4 (0 : Int32) (0 : Int32) u_22 _ _ _ h (lv_sub hl [2, 3, 4, 5, 6, 1, 0] rfl) hP
      · have h := h.1 c25
        exact b_X12_word_28 C hr hlk h (lv_sub hl [0] rfl) hP
