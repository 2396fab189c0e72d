-- X12_isHeard
abbrev rm_X12_isHeard : Room := { frames := 0, cells := 0, slots := 0, locals := 0 }
theorem hd_X12_isHeard : yX12_isHeard.cls ≠ "java/lang/invoke/MethodHandle" ∧ yX12_isHeard.cls ≠ "java/lang/invoke/VarHandle" ∧ (parseMethodDescriptor yX12_isHeard.desc).map (fun d => d.parameters.length) = some 2 := by decide +kernel
def V_X12_isHeard (G : Gx) (p0 : Nat) (p1 : Int32) (p2 : Int32) (u : Mm) (Q : Int32 → Mm → Prop) : Prop :=
  kd G p0 = 12 ∧ (gR u p0 22) ≠ 0 ∧ kd G (gR u p0 22) = 13 ∧ vp_in p2 (ln G (gR u p0 22)) ∧ (((gI u (gR u p0 22) p2.toNatClampNeg) = (-1 : Int32) → Q (0 : Int32) u) ∧ (¬ (gI u (gR u p0 22) p2.toNatClampNeg) = (-1 : Int32) → (gR u p0 5) ≠ 0 ∧ kd G (gR u p0 5) = 13 ∧ vp_in p1 (ln G (gR u p0 5)) ∧ (((gI u (gR u p0 22) p2.toNatClampNeg) < (gI u (gR u p0 5) p1.toNatClampNeg) → Q (0 : Int32) u) ∧ (¬ (gI u (gR u p0 22) p2.toNatClampNeg) < (gI u (gR u p0 5) p1.toNatClampNeg) → Q (1 : Int32) u))))
set_option maxHeartbeats 4000000 in
set_option maxRecDepth 100000 in
theorem c_X12_isHeard {l : Launch} {G : Gx} {p0 : Nat} {p1 : Int32} {p2 : Int32} {u : Mm} {Q : Int32 → Mm → Prop} (h : V_X12_isHeard G p0 p1 p2 u Q) : Met l yX12_isHeard [.code yX12_isHeard cX12_isHeard 3 (some .boolean)] rm_X12_isHeard (va_Pc [.ref p0, .int p1, .int p2] (Wd G u)) (Ei G Q) 0 0 (ag G) := by
  refine q_met (by decide) (Nat.le_of_ble_eq_true rfl) ?_
  intro p e s m below meth c ls C hr hlk hnm hl hP
  have hl : lv_has ls 3 [(0, .ref p0), (1, .int p1), (2, .int p2)] := hl
  generalize ([.ref p0, .int p1, .int p2] : List Value).toArray = args
  have hx := C.1
  have hb := C.2.1
  unfold V_X12_isHeard at h
  refine lv_aload_n hx hb dX12_isHeard_0 rfl (lv_at hl 0 rfl) ?_
  obtain ⟨g1, h⟩ := h
  obtain ⟨g2, h⟩ := h
  refine q_getR C hP (k := 22) (lay_X12 C.hA) rfl (by decide) g1 g2 (fl_X12_58 C.hA) dX12_isHeard_1 ?_
  refine lv_iload_n hx hb dX12_isHeard_4 rfl (lv_at hl 2 rfl) ?_
  obtain ⟨g3, h⟩ := h
  obtain ⟨g4, h⟩ := h
  refine q_iald C hP g3 g4 dX12_isHeard_5 ?_
  refine lv_iconst (v := (-1 : Int32)) hx hb dX12_isHeard_6 (by decide) ?_
  refine lv_icmp_eq (tgt := 29) hx hb dX12_isHeard_7 (by decide) (fun c7 => ?_) (fun c7 => ?_)
  · have h := h.1 c7
    refine lv_iconst (v := (0 : Int32)) hx hb dX12_isHeard_29 (by decide) ?_
    exact q_zret C hr hlk hP (by decide) h (by decide) (by decide) dX12_isHeard_30
  · have h := h.2 c7
    refine lv_aload_n hx hb dX12_isHeard_10 rfl (lv_at hl 0 rfl) ?_
    refine q_getR C hP (k := 22) (lay_X12 C.hA) rfl (by decide) g1 g2 (fl_X12_58 C.hA) dX12_isHeard_11 ?_
    refine lv_iload_n hx hb dX12_isHeard_14 rfl (lv_at hl 2 rfl) ?_
    refine q_iald C hP g3 g4 dX12_isHeard_15 ?_
    refine lv_aload_n hx hb dX12_isHeard_16 rfl (lv_at hl 0 rfl) ?_
    obtain ⟨g5, h⟩ := h
    refine q_getR C hP (k := 5) (lay_X12 C.hA) rfl (by decide) g1 g5 (fl_X12_37 C.hA) dX12_isHeard_17 ?_
    refine lv_iload_n hx hb dX12_isHeard_20 rfl (lv_at hl 1 rfl) ?_
    obtain ⟨g6, h⟩ := h
    obtain ⟨g7, h⟩ := h
    refine q_iald C hP g6 g7 dX12_isHeard_21 ?_
    refine lv_icmp_lt (tgt := 29) hx hb dX12_isHeard_22 (by decide) (fun c22 => ?_) (fun c22 => ?_)
    · have h := h.1 c22
      refine lv_iconst (v := (0 : Int32)) hx hb dX12_isHeard_29 (by decide) ?_
      exact q_zret C hr hlk hP (by decide) h (by decide) (by decide) dX12_isHeard_30
    · have h := h.2 c22
      refine lv_iconst (v := (1 : Int32)) hx hb dX12_isHeard_25 (by decide) ?_
      refine lv_goto (tgt := 30) hx hb dX12_isHeard_26 (by decide) ?_
      exact q_zret C hr hlk hP (by decide) h (by decide) (by decide) dX12_isHeard_30
-- X12_lay
abbrev rm_X12_lay : Room := { frames := 0, cells := 0, slots := 0, locals := 0 }
theorem hd_X12_lay : yX12_lay.cls ≠ "java/lang/invoke/MethodHandle" ∧ yX12_lay.cls ≠ "java/lang/invoke/VarHandle" ∧ (parseMethodDescriptor yX12_lay.desc).map (fun d => d.parameters.length) = some 1 := by decide +kernel
def V_X12_lay_41 (G : Gx) (Q : Mm → Prop) (x0 : Nat) (x1 : Int32) (x2 : Int32) (u : Mm) : Prop :=
  kd G x0 = 12 ∧ (gR u x0 24) ≠ 0 ∧ kd G (gR u x0 24) = 13 ∧ vp_in x2 (ln G (gR u x0 24)) ∧ ∀ u_47 : Mm, u_47 = sI u (gR u x0 24) x2.toNatClampNeg x1 → ∀ u_55 : Mm, u_55 = sI u_47 x0 26 ((gI u_47 x0 26) + (1 : Int32)) → Q u_55
def V_X12_lay_5_B (G : Gx) (Q : Mm → Prop) (k_5 : Nat → Int32 → Int32 → Mm → Prop) (x0 : Nat) (x1 : Int32) (x2 : Int32) (u : Mm) : Prop :=
  ((x2 ≤ 0 → V_X12_lay_41 G Q x0 x1 x2 u) ∧ (¬ x2 ≤ 0 → kd G x0 = 12 ∧ (gR u x0 24) ≠ 0 ∧ kd G (gR u x0 24) = 13 ∧ vp_in (x2 - (1 : Int32)) (ln G (gR u x0 24)) ∧ (((gI u (gR u x0 24) (x2 - (1 : Int32)).toNatClampNeg) ≤ x1 → V_X12_lay_41 G Q x0 x1 x2 u) ∧ (¬ (gI u (gR u x0 24) (x2 - (1 : Int32)).toNatClampNeg) ≤ x1 → vp_in x2 (ln G (gR u x0 24)) ∧ ∀ u_34 : Mm, u_34 = sI u (gR u x0 24) x2.toNatClampNeg (gI u (gR u x0 24) (x2 - (1 : Int32)).toNatClampNeg) → ∀ x2_35 : Int32, x2_35 = x2 + (-1 : Int32) → k_5 x0 x1 x2_35 u_34))))
def V_X12_lay_5 (G : Gx) (Q : Mm → Prop) : Nat → (Nat → Int32 → Int32 → Mm → Prop)
  | 0 => fun _ _ _ _ => False
  | n + 1 => fun x0 x1 x2 u => V_X12_lay_5_B G Q (V_X12_lay_5 G Q n) x0 x1 x2 u
def V_X12_lay (G : Gx) (p0 : Nat) (p1 : Int32) (u : Mm) (Q : Mm → Prop) : Prop :=
  kd G p0 = 12 ∧ ∀ x2_4 : Int32, x2_4 = (gI u p0 26) → ∃ n : Nat, V_X12_lay_5 G Q n p0 p1 x2_4 u
set_option maxHeartbeats 4000000 in
set_option maxRecDepth 100000 in
theorem b_X12_lay_41 {G : Gx} {Q : Mm → Prop} {p : Program} {l : Launch} {e : Env} {s : State} {m : MethodId} {args : Array Value} {below : List Frame} {meth : Method} {c : Code} (C : Cx G p s m c cX12_lay RX12 3) (hr : meth.sig.returnType = none) (hlk : meth.locks = false) {x0 : Nat} {x1 : Int32} {x2 : Int32} {u : Mm} {H : Heap} {locs : List Loc} {ls : Array Slot} (h : V_X12_lay_41 G Q x0 x1 x2 u) (hl : lv_has ls 3 [(0, .ref x0), (1, .int x1), (2, .int x2)]) (hP : Hp G u s H locs) : W p l e rm_X12_lay s m args below meth c H locs 0 0 (MQ below (Ev G Q) args s 0 0 (ag G)) (F0 m 41 ls []) := by
  have hx := C.1
  have hb := C.2.1
  unfold V_X12_lay_41 at h
  refine lv_aload_n hx hb dX12_lay_41 rfl (lv_at hl 0 rfl) ?_
  obtain ⟨g1, h⟩ := h
  obtain ⟨g2, h⟩ := h
  refine q_getR C hP (k := 24) (lay_X12 C.hA) rfl (by decide) g1 g2 (fl_X12_64 C.hA) dX12_lay_42 ?_
  refine lv_iload_n hx hb dX12_lay_45 rfl (lv_at hl 2 rfl) ?_
  refine lv_iload_n hx hb dX12_lay_46 rfl (lv_at hl 1 rfl) ?_
  obtain ⟨g3, h⟩ := h
  obtain ⟨g4, h⟩ := h
  refine q_iast C hP g3 g4 dX12_lay_47 (fun H locs hP => ?_)
  obtain ⟨u_47, eu_47, hP⟩ := Hp.nm hP
  have h := h u_47 eu_47
  refine lv_aload_n hx hb dX12_lay_48 rfl (lv_at hl 0 rfl) ?_
  refine lv_dup hx hb dX12_lay_49 rfl ?_
  refine q_getI C hP (k := 26) (lay_X12 C.hA) rfl (by decide) g1 (fl_X12_313 C.hA) dX12_lay_50 ?_
  refine lv_iconst (v := (1 : Int32)) hx hb dX12_lay_53 (by decide) ?_
  refine lv_iadd hx hb dX12_lay_54 ?_
  refine q_putI C hP (k := 26) tyX12_ok nmX12 (lay_X12 C.hA) rfl (by decide) rfl rfl rfl rfl g1 (fl_X12_313 C.hA) dX12_lay_55 (fun H locs hP => ?_)
  obtain ⟨u_55, eu_55, hP⟩ := Hp.nm hP
  have h := h u_55 eu_55
  exact q_vret C hr hlk hP h (by decide) (by decide) dX12_lay_58
set_option maxHeartbeats 4000000 in
set_option maxRecDepth 100000 in
theorem b_X12_lay_5 {G : Gx} {Q : Mm → Prop} {p : Program} {l : Launch} {e : Env} {s : State} {m : MethodId} {args : Array Value} {below : List Frame} {meth : Method} {c : Code} (C : Cx G p s m c cX12_lay RX12 3) (hr : meth.sig.returnType = none) (hlk : meth.locks = false) {k_5 : Nat → Int32 → Int32 → Mm → Prop} (hk_5 : ∀ (x0 : Nat) (x1 : Int32) (x2 : Int32) (u : Mm) (H : Heap) (locs : List Loc) (ls : Array Slot), k_5 x0 x1 x2 u → lv_has ls 3 [(0, .ref x0), (1, .int x1), (2, .int x2)] → Hp G u s H locs → W p l e rm_X12_lay s m args below meth c H locs 0 0 (MQ below (Ev G Q) args s 0 0 (ag G)) (F0 m 5 ls [])) {x0 : Nat} {x1 : Int32} {x2 : Int32} {u : Mm} {H : Heap} {locs : List Loc} {ls : Array Slot} (h : V_X12_lay_5_B G Q k_5 x0 x1 x2 u) (hl : lv_has ls 3 [(0, .ref x0), (1, .int x1), (2, .int x2)]) (hP : Hp G u s H locs) : W p l e rm_X12_lay s m args below meth c H locs 0 0 (MQ below (Ev G Q) args s 0 0 (ag G)) (F0 m 5 ls []) := by
  have hx := C.1
  have hb := C.2.1
  unfold V_X12_lay_5_B at h
  refine lv_iload_n hx hb dX12_lay_5 rfl (lv_at hl 2 rfl) ?_
  refine lv_if_le (tgt := 41) hx hb dX12_lay_6 (by decide) (fun c6 => ?_) (fun c6 => ?_)
  · have h := h.1 c6
    exact b_X12_lay_41 C hr hlk h (lv_sub hl [0, 1, 2] rfl) hP
  · have h := h.2 c6
    refine lv_aload_n hx hb dX12_lay_9 rfl (lv_at hl 0 rfl) ?_
    obtain ⟨g1, h⟩ := h
    obtain ⟨g2, h⟩ := h
    refine q_getR C hP (k := 24) (lay_X12 C.hA) rfl (by decide) g1 g2 (fl_X12_64 C.hA) dX12_lay_10 ?_
    refine lv_iload_n hx hb dX12_lay_13 rfl (lv_at hl 2 rfl) ?_
    refine lv_iconst (v := (1 : Int32)) hx hb dX12_lay_14 (by decide) ?_
    refine lv_isub hx hb dX12_lay_15 ?_
    obtain ⟨g3, h⟩ := h
    obtain ⟨g4, h⟩ := h
    refine q_iald C hP g3 g4 dX12_lay_16 ?_
    refine lv_iload_n hx hb dX12_lay_17 rfl (lv_at hl 1 rfl) ?_
    refine lv_icmp_le (tgt := 41) hx hb dX12_lay_18 (by decide) (fun c18 => ?_) (fun c18 => ?_)
    · have h := h.1 c18
      exact b_X12_lay_41 C hr hlk h (lv_sub hl [0, 1, 2] rfl) hP
    · have h := h.2 c18
      refine lv_aload_n hx hb dX12_lay_21 rfl (lv_at hl 0 rfl) ?_
      refine q_getR C hP (k := 24) (lay_X12 C.hA) rfl (by decide) g1 g2 (fl_X12_64 C.hA) dX12_lay_22 ?_
      refine lv_iload_n hx hb dX12_lay_25 rfl (lv_at hl 2 rfl) ?_
      refine lv_aload_n hx hb dX12_lay_26 rfl (lv_at hl 0 rfl) ?_
      refine q_getR C hP (k := 24) (lay_X12 C.hA) rfl (by decide) g1 g2 (fl_X12_64 C.hA) dX12_lay_27 ?_
      refine lv_iload_n hx hb dX12_lay_30 rfl (lv_at hl 2 rfl) ?_
      refine lv_iconst (v := (1 : Int32)) hx hb dX12_lay_31 (by decide) ?_
      refine lv_isub hx hb dX12_lay_32 ?_
      refine q_iald C hP g3 g4 dX12_lay_33 ?_
      obtain ⟨g5, h⟩ := h
      refine q_iast C hP g3 g5 dX12_lay_34 (fun H locs hP => ?_)
      obtain ⟨u_34, eu_34, hP⟩ := Hp.nm hP
      have h := h u_34 eu_34
      obtain ⟨x2_35, ex2_35⟩ : ∃ y : Int32, y = x2 + (-1 : Int32) := ⟨_, rfl⟩
      have h := h x2_35 ex2_35
      refine lv_iinc (v := x2_35) (lv' := [(2, .int x2_35), (0, .ref x0), (1, .int x1)]) hx hb dX12_lay_35 hl (k := 2) rfl (by rw [ex2_35]; rfl) (by decide) rfl (fun ls hl => ?_)
      refine lv_goto (tgt := 5) hx hb dX12_lay_38 (by decide) ?_
      exact hk_5 x0 x1 x2_35 u_34 _ _ _ h (lv_sub hl [1, 2, 0] rfl) hP
theorem l_X12_lay_5 {G : Gx} {Q : Mm → Prop} {p : Program} {l : Launch} {e : Env} {s : State} {m : MethodId} {args : Array Value} {below : List Frame} {meth : Method} {c : Code} (C : Cx G p s m c cX12_lay RX12 3) (hr : meth.sig.returnType = none) (hlk : meth.locks = false) : ∀ (n : Nat) (x0 : Nat) (x1 : Int32) (x2 : Int32) (u : Mm) (H : Heap) (locs : List Loc) (ls : Array Slot), V_X12_lay_5 G Q n x0 x1 x2 u → lv_has ls 3 [(0, .ref x0), (1, .int x1), (2, .int x2)] → Hp G u s H locs → W p l e rm_X12_lay s m args below meth c H locs 0 0 (MQ below (Ev G Q) args s 0 0 (ag G)) (F0 m 5 ls []) := by
  intro n
  induction n with
  | zero => intro x0 x1 x2 u H locs ls h; exact h.elim
  | succ n ih => intro x0 x1 x2 u H locs ls h hl hP; exact b_X12_lay_5 C hr hlk ih h hl hP
set_option maxHeartbeats 4000000 in
set_option maxRecDepth 100000 in
theorem c_X12_lay {l : Launch} {G : Gx} {p0 : Nat} {p1 : Int32} {u : Mm} {Q : Mm → Prop} (h : V_X12_lay G p0 p1 u Q) : Met l yX12_lay [.code yX12_lay cX12_lay 3 none] rm_X12_lay (va_Pc [.ref p0, .int p1] (Wd G u)) (Ev G Q) 0 0 (ag G) := by
  refine q_met (by decide) (Nat.le_of_ble_eq_true rfl) ?_
  intro p e s m below meth c ls C hr hlk hnm hl hP
  have hl : lv_has ls 3 [(0, .ref p0), (1, .int p1)] := hl
  generalize ([.ref p0, .int p1] : List Value).toArray = args
  have hx := C.1
  have hb := C.2.1
  unfold V_X12_lay at h
  refine lv_aload_n hx hb dX12_lay_0 rfl (lv_at hl 0 rfl) ?_
  obtain ⟨g1, h⟩ := h
  refine q_getI C hP (k := 26) (lay_X12 C.hA) rfl (by decide) g1 (fl_X12_313 C.hA) dX12_lay_1 ?_
  refine lv_topi (fun x2_4 ex2_4 => ?_)
  have h := h x2_4 ex2_4
  refine lv_istore_n (lv' := [(2, .int x2_4), (0, .ref p0), (1, .int p1)]) hx hb dX12_lay_4 rfl hl (by decide) rfl (fun ls hl => ?_)
  obtain ⟨n, h⟩ := h
  exact l_X12_lay_5 C hr hlk n p0 p1 x2_4 u _ _ _ h (lv_sub hl [1, 2, 0] rfl) hP
-- X12_tellRow
abbrev rm_X12_tellRow : Room := { frames := 5, cells := 0, slots := 0, locals := 146 }
theorem hd_X12_tellRow : yX12_tellRow.cls ≠ "java/lang/invoke/MethodHandle" ∧ yX12_tellRow.cls ≠ "java/lang/invoke/VarHandle" ∧ (parseMethodDescriptor yX12_tellRow.desc).map (fun d => d.parameters.length) = some 7 := by decide +kernel
def V_X12_tellRow_50 (G : Gx) (Q : Mm → Prop) (k_21 : Nat → Int32 → Int32 → Int32 → Mm → Prop) (x0 : Nat) (x1 : Int32) (x7 : Int32) (x8 : Int32) (u : Mm) : Prop :=
  ∀ x8_50 : Int32, x8_50 = x8 + (1 : Int32) → k_21 x0 x1 x7 x8_50 u
def V_X12_tellRow_21_B (G : Gx) (Q : Mm → Prop) (k_21 : Nat → Int32 → Int32 → Int32 → Mm → Prop) (x0 : Nat) (x1 : Int32) (x7 : Int32) (x8 : Int32) (u : Mm) : Prop :=
  (((80 : Int32) ≤ x8 → Q u) ∧ (¬ (80 : Int32) ≤ x8 → kd G x0 = 12 ∧ V_X12_isHeard G x0 x1 x8 u (fun (v_32 : Int32) (u_32 : Mm) => ((v_32 = 0 → V_X12_tellRow_50 G Q k_21 x0 x1 x7 x8 u_32) ∧ (¬ v_32 = 0 → V_X12_tickOf G x0 x8 x7 u_32 (fun (v_44 : Int32) (u_44 : Mm) => V_X12_lay G x0 v_44 u_44 (fun (u_47 : Mm) => V_X12_tellRow_50 G Q k_21 x0 x1 x7 x8 u_47)))))))
def V_X12_tellRow_21 (G : Gx) (Q : Mm → Prop) : Nat → (Nat → Int32 → Int32 → Int32 → Mm → Prop)
  | 0 => fun _ _ _ _ _ => False
  | n + 1 => fun x0 x1 x7 x8 u => V_X12_tellRow_21_B G Q (V_X12_tellRow_21 G Q n) x0 x1 x7 x8 u
def V_X12_tellRow (G : Gx) (p0 : Nat) (p1 : Int32) (p2 : Int32) (p3 : Int32) (p4 : Int32) (p5 : Int32) (p6 : Int32) (p7 : Int32) (u : Mm) (Q : Mm → Prop) : Prop :=
  kd G p0 = 12 ∧ V_X12_tellEchoes G p0 p1 p2 p3 p4 p5 p6 u (fun (u_10 : Mm) => ∀ u_15 : Mm, u_15 = sI u_10 p0 26 (0 : Int32) → ∃ n : Nat, V_X12_tellRow_21 G Q n p0 p1 p7 (0 : Int32) u_15)
set_option maxHeartbeats 4000000 in
set_option maxRecDepth 100000 in
theorem b_X12_tellRow_50 {G : Gx} {Q : Mm → Prop} {p : Program} {l : Launch} {e : Env} {s : State} {m : MethodId} {args : Array Value} {below : List Frame} {meth : Method} {c : Code} (C : Cx G p s m c cX12_tellRow RX12 9) (hr : meth.sig.returnType = none) (hlk : meth.locks = false) {k_21 : Nat → Int32 → Int32 → Int32 → Mm → Prop} (hk_21 : ∀ (x0 : Nat) (x1 : Int32) (x7 : Int32) (x8 : Int32) (u : Mm) (H : Heap) (locs : List Loc) (ls : Array Slot), k_21 x0 x1 x7 x8 u → lv_has ls 9 [(0, .ref x0), (1, .int x1), (7, .int x7), (8, .int x8)] → Hp G u s H locs → W p l e rm_X12_tellRow s m args below meth c H locs 0 0 (MQ below (Ev G Q) args s 0 0 (ag G)) (F0 m 21 ls [])) {x0 : Nat} {x1 : Int32} {x7 : Int32} {x8 : Int32} {u : Mm} {H : Heap} {locs : List Loc} {ls : Array Slot} (h : V_X12_tellRow_50 G Q k_21 x0 x1 x7 x8 u) (hl : lv_has ls 9 [(0, .ref x0), (1, .int x1), (7, .int x7), (8, .int x8)]) (hP : Hp G u s H locs) : W p l e rm_X12_tellRow s m args below meth c H locs 0 0 (MQ below (Ev G Q) args s 0 0 (ag G)) (F0 m 50 ls []) := by
  have hx := C.1
  have hb := C.2.1
  unfold V_X12_tellRow_50 at h
  obtain ⟨x8_50, ex8_50⟩ : ∃ y : Int32, y = x8 + (1 : Int32) := ⟨_, rfl⟩
  have h := h x8_50 ex8_50
  refine lv_iinc (v := x8_50) (lv' := [(8, .int x8_50), (0, .ref x0), (1, .int x1), (7, .int x7)]) hx hb dX12_tellRow_50 hl (k := 3) rfl (by rw [ex8_50]; rfl) (by decide) rfl (fun ls hl => ?_)
  refine lv_goto (tgt := 21) hx hb dX12_tellRow_53 (by decide) ?_
  exact hk_21 x0 x1 x7 x8_50 u _ _ _ h (lv_sub hl [1, 2, 3, 0] rfl) hP
set_option maxHeartbeats 4000000 in
set_option maxRecDepth 100000 in
theorem b_X12_tellRow_21 {G : Gx} {Q : Mm → Prop} {p : Program} {l : Launch} {e : Env} {s : State} {m : MethodId} {args : Array Value} {below : List Frame} {meth : Method} {c : Code} (C : Cx G p s m c cX12_tellRow RX12 9) (hr : meth.sig.returnType = none) (hlk : meth.locks = false) {k_21 : Nat → Int32 → Int32 → Int32 → Mm → Prop} (hk_21 : ∀ (x0 : Nat) (x1 : Int32) (x7 : Int32) (x8 : Int32) (u : Mm) (H : Heap) (locs : List Loc) (ls : Array Slot), k_21 x0 x1 x7 x8 u → lv_has ls 9 [(0, .ref x0), (1, .int x1), (7, .int x7), (8, .int x8)] → Hp G u s H locs → W p l e rm_X12_tellRow s m args below meth c H locs 0 0 (MQ below (Ev G Q) args s 0 0 (ag G)) (F0 m 21 ls [])) {x0 : Nat} {x1 : Int32} {x7 : Int32} {x8 : Int32} {u : Mm} {H : Heap} {locs : List Loc} {ls : Array Slot} (h : V_X12_tellRow_21_B G Q k_21 x0 x1 x7 x8 u) (hl : lv_has ls 9 [(0, .ref x0), (1, .int x1), (7, .int x7), (8, .int x8)]) (hP : Hp G u s H locs) : W p l e rm_X12_tellRow s m args below meth c H locs 0 0 (MQ below (Ev G Q) args s 0 0 (ag G)) (F0 m 21 ls []) := by
  have hx := C.1
  have hb := C.2.1
  unfold V_X12_tellRow_21_B at h
  refine lv_iload hx hb dX12_tellRow_21 (lv_at hl 3 rfl) ?_
  refine lv_bipush (v := (80 : Int32)) hx hb dX12_tellRow_23 (by decide) ?_
  refine lv_icmp_ge (tgt := 56) hx hb dX12_tellRow_25 (by decide) (fun c25 => ?_) (fun c25 => ?_)
  · have h := h.1 c25
    exact q_vret C hr hlk hP h (by decide) (by decide) dX12_tellRow_56
  · have h := h.2 c25
    refine lv_aload_n hx hb dX12_tellRow_28 rfl (lv_at hl 0 rfl) ?_
    refine lv_iload_n hx hb dX12_tellRow_29 rfl (lv_at hl 1 rfl) ?_
    refine lv_iload hx hb dX12_tellRow_30 (lv_at hl 3 rfl) ?_
    obtain ⟨g1, h⟩ := h
    refine q_cali (q_runV C hP (c_X12_isHeard h) (cd_X12_isHeard C.hA) (ini_X12 C.hA) (ml_X12_320 C.hA) (im_X12_isHeard C.hA) (sl_X12_isHeard C.hA) g1 (by decide) rfl hd_X12_isHeard ⟨rfl, rfl⟩ ⟨Nat.le_of_ble_eq_true rfl, Nat.le_of_ble_eq_true rfl⟩ ⟨Nat.le_of_ble_eq_true rfl, Nat.le_of_ble_eq_true rfl⟩ hl.1 rfl (Nat.le_of_ble_eq_true rfl) dX12_tellRow_32) hP (fun v_32 u_32 H locs h hP => ?_)
    refine lv_if_eq (tgt := 50) hx hb dX12_tellRow_35 (by decide) (fun c35 => ?_) (fun c35 => ?_)
    · have h := h.1 c35
      exact b_X12_tellRow_50 C hr hlk hk_21 h (lv_sub hl [0, 1, 2, 3] rfl) hP
    · have h := h.2 c35
      refine lv_aload_n hx hb dX12_tellRow_38 rfl (lv_at hl 0 rfl) ?_
      refine lv_aload_n hx hb dX12_tellRow_39 rfl (lv_at hl 0 rfl) ?_
      refine lv_iload hx hb dX12_tellRow_40 (lv_at hl 3 rfl) ?_
      refine lv_iload hx hb dX12_tellRow_42 (lv_at hl 2 rfl) ?_
      refine q_cali (q_runV C hP (c_X12_tickOf h) (cd_X12_tickOf C.hA) (ini_X12 C.hA) (ml_X12_324 C.hA) (im_X12_tickOf C.hA) (sl_X12_tickOf C.hA) g1 (by decide) rfl hd_X12_tickOf ⟨rfl, rfl⟩ ⟨Nat.le_of_ble_eq_true rfl, Nat.le_of_ble_eq_true rfl⟩ ⟨Nat.le_of_ble_eq_true rfl, Nat.le_of_ble_eq_true rfl⟩ hl.1 rfl (Nat.le_of_ble_eq_true rfl) dX12_tellRow_44) hP (fun v_44 u_44 H locs h hP => ?_)
      refine q_calv (q_runV C hP (c_X12_lay h) (cd_X12_lay C.hA) (ini_X12 C.hA) (ml_X12_327 C.hA) (im_X12_lay C.hA) (sl_X12_lay C.hA) g1 (by decide) rfl hd_X12_lay ⟨rfl, rfl⟩ ⟨Nat.le_of_ble_eq_true rfl, Nat.le_of_ble_eq_true rfl⟩ ⟨Nat.le_of_ble_eq_true rfl, Nat.le_of_ble_eq_true rfl⟩ hl.1 rfl (Nat.le_of_ble_eq_true rfl) dX12_tellRow_47) hP (fun u_47 H locs h hP => ?_)
      exact b_X12_tellRow_50 C hr hlk hk_21 h (lv_sub hl [0, 1, 2, 3] rfl) hP
theorem l_X12_tellRow_21 {G : Gx} {Q : Mm → Prop} {p : Program} {l : Launch} {e : Env} {s : State} {m : MethodId} {args : Array Value} {below : List Frame} {meth : Method} {c : Code} (C : Cx G p s m c cX12_tellRow RX12 9) (hr : meth.sig.returnType = none) (hlk : meth.locks = false) : ∀ (n : Nat) (x0 : Nat) (x1 : Int32) (x7 : Int32) (x8 : Int32) (u : Mm) (H : Heap) (locs : List Loc) (ls : Array Slot), V_X12_tellRow_21 G Q n x0 x1 x7 x8 u → lv_has ls 9 [(0, .ref x0), (1, .int x1), (7, .int x7), (8, .int x8)] → Hp G u s H locs → W p l e rm_X12_tellRow s m args below meth c H locs 0 0 (MQ below (Ev G Q) args s 0 0 (ag G)) (F0 m 21 ls []) := by
  intro n
  induction n with
  | zero => intro x0 x1 x7 x8 u H locs ls h; exact h.elim
  | succ n ih => intro x0 x1 x7 x8 u H locs ls h hl hP; exact b_X12_tellRow_21 C hr hlk ih h hl hP
set_option maxHeartbeats 4000000 in
set_option maxRecDepth 100000 in
theorem c_X12_tellRow {l : Launch} {G : Gx} {p0 : Nat} {p1 : Int32} {p2 : Int32} {p3 : Int32} {p4 : Int32} {p5 : Int32} {p6 : Int32} {p7 : Int32} {u : Mm} {Q : Mm → Prop} (h : V_X12_tellRow G p0 p1 p2 p3 p4 p5 p6 p7 u Q) : Met l yX12_tellRow [.code yX12_tellRow cX12_tellRow 9 none] rm_X12_tellRow (va_Pc [.ref p0, .int p1, .int p2, .int p3, .int p4, .int p5, .int p6, .int p7] (Wd G u)) (Ev G Q) 0 0 (ag G) := by
  refine q_met (by decide) (Nat.le_of_ble_eq_true rfl) ?_
  intro p e s m below meth c ls C hr hlk hnm hl hP
  have hl : lv_has ls 9 [(0, .ref p0), (1, .int p1), (2, .int p2), (3, .int p3), (4, .int p4), (5, .int p5), (6, .int p6), (7, .int p7)] := hl
  generalize ([.ref p0, .int p1, .int p2, .int p3, .int p4, .int p5, .int p6, .int p7] : List Value).toArray = args
  have hx := C.1
  have hb := C.2.1
  unfold V_X12_tellRow at h
  refine lv_aload_n hx hb dX12_tellRow_0 rfl (lv_at hl 0 rfl) ?_
  refine lv_iload_n hx hb dX12_tellRow_1 rfl (lv_at hl 1 rfl) ?_
  refine lv_iload_n hx hb dX12_tellRow_2 rfl (lv_at hl 2 rfl) ?_
  refine lv_iload_n hx hb dX12_tellRow_3 rfl (lv_at hl 3 rfl) ?_
  refine lv_iload hx hb dX12_tellRow_4 (lv_at hl 4 rfl) ?_
  refine lv_iload hx hb dX12_tellRow_6 (lv_at hl 5 rfl) ?_
  refine lv_iload hx hb dX12_tellRow_8 (lv_at hl 6 rfl) ?_
  obtain ⟨g1, h⟩ := h
  refine q_calv (q_runV C hP (c_X12_tellEchoes h) (cd_X12_tellEchoes C.hA) (ini_X12 C.hA) (ml_X12_316 C.hA) (im_X12_tellEchoes C.hA) (sl_X12_tellEchoes C.hA) g1 (by decide) rfl hd_X12_tellEchoes ⟨rfl, rfl⟩ ⟨Nat.le_of_ble_eq_true rfl, Nat.le_of_ble_eq_true rfl⟩ ⟨Nat.le_of_ble_eq_true rfl, Nat.le_of_ble_eq_true rfl⟩ hl.1 rfl (Nat.le_of_ble_eq_true rfl) dX12_tellRow_10) hP (fun u_10 H locs h hP => ?_)
  refine lv_aload_n hx hb dX12_tellRow_13 rfl (lv_at hl 0 rfl) ?_
  refine lv_iconst (v := (0 : Int32)) hx hb dX12_tellRow_14 (by decide) ?_
  refine q_putI C hP (k := 26) tyX12_ok nmX12 (lay_X12 C.hA) rfl (by decide) rfl rfl rfl rfl g1 (fl_X12_313 C.hA) dX12_tellRow_15 (fun H locs hP => ?_)
  obtain ⟨u_15, eu_15, hP⟩ := Hp.nm hP
  have h := h u_15 eu_15
  refine lv_iconst (v := (0 : Int32)) hx hb dX12_tellRow_18 (by decide) ?_
  refine lv_istore (lv' := [(8, .int (0 : Int32)), (0, .ref p0), (1, .int p1), (2, .int p2), (3, .int p3), (4, .int p4), (5, .int p5), (6, .int p6), (7, .int p7)]) hx hb dX12_tellRow_19 hl (by decide) rfl (fun ls hl => ?_)
  obtain ⟨n, h⟩ := h
  exact l_X12_tellRow_21 C hr hlk n p0 p1 p7 (0 : Int32) u_15 _ _ _ h (lv_sub hl [1, 2, 8, 0] rfl) hP
-- X12_clap
abbrev rm_X12_clap : Room := { frames := 6, cells := 0, slots := 0, locals := 174 }
theorem hd_X12_clap : yX12_clap.cls ≠ "java/lang/invoke/MethodHandle" ∧ yX12_clap.cls ≠ "java/lang/invoke/VarHandle" ∧ (parseMethodDescriptor yX12_clap.desc).map (fun d => d.parameters.length) = some 6 := by decide +kernel
def V_X12_clap_36 (G : Gx) (Q : Int32 → Mm → Prop) (x0 : Nat) (u : Mm) : Prop :=
  kd G x0 = 12 ∧ V_X12_fail G x0 (1 : Int32) u (fun (v_38 : Int32) (u_38 : Mm) => Q v_38 u_38)
def V_X12_clap (G : Gx) (p0 : Nat) (p1 : Int32) (p2 : Int32) (p3 : Int32) (p4 : Int32) (p5 : Int32) (p6 : Int32) (u : Mm) (Q : Int32 → Mm → Prop) : Prop :=
  kd G p0 = 12 ∧ ∀ u_2 : Mm, u_2 = sI u p0 1 (0 : Int32) → V_X12_isLand G p1 u_2 (fun (v_6 : Int32) (u_6 : Mm) => ((v_6 = 0 → V_X12_clap_36 G Q p0 u_6) ∧ (¬ v_6 = 0 → V_X12_isPlace G p2 p3 u_6 (fun (v_14 : Int32) (u_14 : Mm) => ((v_14 = 0 → V_X12_clap_36 G Q p0 u_14) ∧ (¬ v_14 = 0 → V_X12_isYear G p4 u_14 (fun (v_22 : Int32) (u_22 : Mm) => ((v_22 = 0 → V_X12_clap_36 G Q p0 u_22) ∧ (¬ v_22 = 0 → V_X12_isTone G p5 u_22 (fun (v_30 : Int32) (u_30 : Mm) => ((v_30 = 0 → V_X12_clap_36 G Q p0 u_30) ∧ (¬ v_30 = 0 → (gR u_30 p0 6) ≠ 0 ∧ kd G (gR u_30 p0 6) = 13 ∧ vp_in p1 (ln G (gR u_30 p0 6)) ∧ V_X12_tellRow G p0 p1 (0 : Int32) p2 p3 p4 p5 (gI u_30 (gR u_30 p0 6) p1.toNatClampNeg) u_30 (fun (u_57 : Mm) => ((p6 = (-1 : Int32) → Q (gI u_57 p0 26) u_57) ∧ (¬ p6 = (-1 : Int32) → V_X12_isIn G p6 (0 : Int32) ((gI u_57 p0 26) - (1 : Int32)) u_57 (fun (v_82 : Int32) (u_82 : Mm) => ((v_82 = 0 → V_X12_fail G p0 (1 : Int32) u_82 (fun (v_100 : Int32) (u_100 : Mm) => Q v_100 u_100)) ∧ (¬ v_82 = 0 → (gR u_82 p0 24) ≠ 0 ∧ kd G (gR u_82 p0 24) = 13 ∧ vp_in p6 (ln G (gR u_82 p0 24)) ∧ Q (gI u_82 (gR u_82 p0 24) p6.toNatClampNeg) u_82))))))))))))))))))
set_option maxHeartbeats 4000000 in
set_option maxRecDepth 100000 in
theorem b_X12_clap_36 {G : Gx} {Q : Int32 → Mm → Prop} {p : Program} {l : Launch} {e : Env} {s : State} {m : MethodId} {args : Array Value} {below : List Frame} {meth : Method} {c : Code} (C : Cx G p s m c cX12_clap RX12 7) (hr : meth.sig.returnType = (some .int)) (hlk : meth.locks = false) {x0 : Nat} {u : Mm} {H : Heap} {locs : List Loc} {ls : Array Slot} (h : V_X12_clap_36 G Q x0 u) (hl : lv_has ls 7 [(0, .ref x0)]) (hP : Hp G u s H locs) : W p l e rm_X12_clap s m args below meth c H locs 0 0 (MQ below (Ei G Q) args s 0 0 (ag G)) (F0 m 36 ls []) := by
  have hx := C.1
  have hb := C.2.1
  unfold V_X12_clap_36 at h
  refine lv_aload_n hx hb dX12_clap_36 rfl (lv_at hl 0 rfl) ?_
  refine lv_iconst (v := (1 : Int32)) hx hb dX12_clap_37 (by decide) ?_
  obtain ⟨g1, h⟩ := h
  refine q_cali (q_runV C hP (c_X12_fail h) (cd_X12_fail C.hA) (ini_X12 C.hA) (ml_X12_249 C.hA) (im_X12_fail C.hA) (sl_X12_fail C.hA) g1 (by decide) rfl hd_X12_fail ⟨rfl, rfl⟩ ⟨Nat.le_of_ble_eq_true rfl, Nat.le_of_ble_eq_true rfl⟩ ⟨Nat.le_of_ble_eq_true rfl, Nat.le_of_ble_eq_true rfl⟩ hl.1 rfl (Nat.le_of_ble_eq_true rfl) dX12_clap_38) hP (fun v_38 u_38 H locs h hP => ?_)
  exact q_iret C hr hlk hP h (by decide) (by decide) dX12_clap_41
set_option maxHeartbeats 4000000 in
set_option maxRecDepth 100000 in
theorem c_X12_clap {l : Launch} {G : Gx} {p0 : Nat} {p1 : Int32} {p2 : Int32} {p3 : Int32} {p4 : Int32} {p5 : Int32} {p6 : Int32} {u : Mm} {Q : Int32 → Mm → Prop} (h : V_X12_clap G p0 p1 p2 p3 p4 p5 p6 u Q) : Met l yX12_clap [.code yX12_clap cX12_clap 7 (some .int)] rm_X12_clap (va_Pc [.ref p0, .int p1, .int p2, .int p3, .int p4, .int p5, .int p6] (Wd G u)) (Ei G Q) 0 0 (ag G) := by
  refine q_met (by decide) (Nat.le_of_ble_eq_true rfl) ?_
  intro p e s m below meth c ls C hr hlk hnm hl hP
  have hl : lv_has ls 7 [(0, .ref p0), (1, .int p1), (2, .int p2), (3, .int p3), (4, .int p4), (5, .int p5), (6, .int p6)] := hl
  generalize ([.ref p0, .int p1, .int p2, .int p3, .int p4, .int p5, .int p6] : List Value).toArray = args
  have hx := C.1
  have hb := C.2.1
  unfold V_X12_clap at h
  refine lv_aload_n hx hb dX12_clap_0 rfl (lv_at hl 0 rfl) ?_
  refine lv_iconst (v := (0 : Int32)) hx hb dX12_clap_1 (by decide) ?_
  obtain ⟨g1, h⟩ := h
  refine q_putI C hP (k := 1) tyX12_ok nmX12 (lay_X12 C.hA) rfl (by decide) rfl rfl rfl rfl g1 (fl_X12_147 C.hA) dX12_clap_2 (fun H locs hP => ?_)
  obtain ⟨u_2, eu_2, hP⟩ := Hp.nm hP
  have h := h u_2 eu_2
  refine lv_iload_n hx hb dX12_clap_5 rfl (lv_at hl 1 rfl) ?_
  refine q_cali (q_runS C hP (c_X12_isLand h) (cd_X12_isLand C.hA) (ini_X12 C.hA) (ml_X12_246 C.hA) (st_X12_isLand C.hA) hd_X12_isLand ⟨rfl, rfl⟩ ⟨Nat.le_of_ble_eq_true rfl, Nat.le_of_ble_eq_true rfl⟩ ⟨Nat.le_of_ble_eq_true rfl, Nat.le_of_ble_eq_true rfl⟩ hl.1 rfl (Nat.le_of_ble_eq_true rfl) dX12_clap_6) hP (fun v_6 u_6 H locs h hP => ?_)
  refine lv_if_eq (tgt := 36) hx hb dX12_clap_9 (by decide) (fun c9 => ?_) (fun c9 => ?_)
  · have h := h.1 c9
    exact b_X12_clap_36 C hr hlk h (lv_sub hl [0] rfl) hP
  · have h := h.2 c9
    refine lv_iload_n hx hb dX12_clap_12 rfl (lv_at hl 2 rfl) ?_
    refine lv_iload_n hx hb dX12_clap_13 rfl (lv_at hl 3 rfl) ?_
    refine q_cali (q_runS C hP (c_X12_isPlace h) (cd_X12_isPlace C.hA) (ini_X12 C.hA) (ml_X12_330 C.hA) (st_X12_isPlace C.hA) hd_X12_isPlace ⟨rfl, rfl⟩ ⟨Nat.le_of_ble_eq_true rfl, Nat.le_of_ble_eq_true rfl⟩ ⟨Nat.le_of_ble_eq_true rfl, Nat.le_of_ble_eq_true rfl⟩ hl.1 rfl (Nat.le_of_ble_eq_true rfl) dX12_clap_14) hP (fun v_14 u_14 H locs h hP => ?_)
    refine lv_if_eq (tgt := 36) hx hb dX12_clap_17 (by decide) (fun c17 => ?_) (fun c17 => ?_)
    · have h := h.1 c17
      exact b_X12_clap_36 C hr hlk h (lv_sub hl [0] rfl) hP
    · have h := h.2 c17
      refine lv_iload hx hb dX12_clap_20 (lv_at hl 4 rfl) ?_
      refine q_cali (q_runS C hP (c_X12_isYear h) (cd_X12_isYear C.hA) (ini_X12 C.hA) (ml_X12_333 C.hA) (st_X12_isYear C.hA) hd_X12_isYear ⟨rfl, rfl⟩ ⟨Nat.le_of_ble_eq_true rfl, Nat.le_of_ble_eq_true rfl⟩ ⟨Nat.le_of_ble_eq_true rfl, Nat.le_of_ble_eq_true rfl⟩ hl.1 rfl (Nat.le_of_ble_eq_true rfl) dX12_clap_22) hP (fun v_22 u_22 H locs h hP => ?_)
      refine lv_if_eq (tgt := 36) hx hb dX12_clap_25 (by decide) (fun c25 => ?_) (fun c25 => ?_)
      · have h := h.1 c25
        exact b_X12_clap_36 C hr hlk h (lv_sub hl [0] rfl) hP
      · have h := h.2 c25
        refine lv_iload hx hb dX12_clap_28 (lv_at hl 5 rfl) ?_
        refine q_cali (q_runS C hP (c_X12_isTone h) (cd_X12_isTone C.hA) (ini_X12 C.hA) (ml_X12_336 C.hA) (st_X12_isTone C.hA) hd_X12_isTone ⟨rfl, rfl⟩ ⟨Nat.le_of_ble_eq_true rfl, Nat.le_of_ble_eq_true rfl⟩ ⟨Nat.le_of_ble_eq_true rfl, Nat.le_of_ble_eq_true rfl⟩ hl.1 rfl (Nat.le_of_ble_eq_true rfl) dX12_clap_30) hP (fun v_30 u_30 H locs h hP => ?_)
        refine lv_if_ne (tgt := 42) hx hb dX12_clap_33 (by decide) (fun c33 => ?_) (fun c33 => ?_)
        · have h := h.2 c33
          refine lv_aload_n hx hb dX12_clap_42 rfl (lv_at hl 0 rfl) ?_
          refine lv_iload_n hx hb dX12_clap_43 rfl (lv_at hl 1 rfl) ?_
          refine lv_iconst (v := (0 : Int32)) hx hb dX12_clap_44 (by decide) ?_
          refine lv_iload_n hx hb dX12_clap_45 rfl (lv_at hl 2 rfl) ?_
          refine lv_iload_n hx hb dX12_clap_46 rfl (lv_at hl 3 rfl) ?_
          refine lv_iload hx hb dX12_clap_47 (lv_at hl 4 rfl) ?_
          refine lv_iload hx hb dX12_clap_49 (lv_at hl 5 rfl) ?_
          refine lv_aload_n hx hb dX12_clap_51 rfl (lv_at hl 0 rfl) ?_
          obtain ⟨g2, h⟩ := h
          refine q_getR C hP (k := 6) (lay_X12 C.hA) rfl (by decide) g1 g2 (fl_X12_39 C.hA) dX12_clap_52 ?_
          refine lv_iload_n hx hb dX12_clap_55 rfl (lv_at hl 1 rfl) ?_
          obtain ⟨g3, h⟩ := h
          obtain ⟨g4, h⟩ := h
          refine q_iald C hP g3 g4 dX12_clap_56 ?_
          refine q_calv (q_runV C hP (c_X12_tellRow h) (cd_X12_tellRow C.hA) (ini_X12 C.hA) (ml_X12_339 C.hA) (im_X12_tellRow C.hA) (sl_X12_tellRow C.hA) g1 (by decide) rfl hd_X12_tellRow ⟨rfl, rfl⟩ ⟨Nat.le_of_ble_eq_true rfl, Nat.le_of_ble_eq_true rfl⟩ ⟨Nat.le_of_ble_eq_true rfl, Nat.le_of_ble_eq_true rfl⟩ hl.1 rfl (Nat.le_of_ble_eq_true rfl) dX12_clap_57) hP (fun u_57 H locs h hP => ?_)
          refine lv_iload hx hb dX12_clap_60 (lv_at hl 6 rfl) ?_
          refine lv_iconst (v := (-1 : Int32)) hx hb dX12_clap_62 (by decide) ?_
          refine lv_icmp_ne (tgt := 73) hx hb dX12_clap_63 (by decide) (fun c63 => ?_) (fun c63 => ?_)
          · have h := h.2 c63
            refine lv_iload hx hb dX12_clap_73 (lv_at hl 6 rfl) ?_
            refine lv_iconst (v := (0 : Int32)) hx hb dX12_clap_75 (by decide) ?_
            refine lv_aload_n hx hb dX12_clap_76 rfl (lv_at hl 0 rfl) ?_
            refine q_getI C hP (k := 26) (lay_X12 C.hA) rfl (by decide) g1 (fl_X12_313 C.hA) dX12_clap_77 ?_
            refine lv_iconst (v := (1 : Int32)) hx hb dX12_clap_80 (by decide) ?_
            refine lv_isub hx hb dX12_clap_81 ?_
            refine q_cali (q_runS C hP (c_X12_isIn h) (cd_X12_isIn C.hA) (ini_X12 C.hA) (ml_X12_150 C.hA) (st_X12_isIn C.hA) hd_X12_isIn ⟨rfl, rfl⟩ ⟨Nat.le_of_ble_eq_true rfl, Nat.le_of_ble_eq_true rfl⟩ ⟨Nat.le_of_ble_eq_true rfl, Nat.le_of_ble_eq_true rfl⟩ hl.1 rfl (Nat.le_of_ble_eq_true rfl) dX12_clap_82) hP (fun v_82 u_82 H locs h hP => ?_)
            refine lv_if_eq (tgt := 98) hx hb dX12_clap_85 (by decide) (fun c85 => ?_) (fun c85 => ?_)
            · have h := h.1 c85
              refine lv_aload_n hx hb dX12_clap_98 rfl (lv_at hl 0 rfl) ?_
              refine lv_iconst (v := (1 : Int32)) hx hb dX12_clap_99 (by decide) ?_
              refine q_cali (q_runV C hP (c_X12_fail h) (cd_X12_fail C.hA) (ini_X12 C.hA) (ml_X12_249 C.hA) (im_X12_fail C.hA) (sl_X12_fail C.hA) g1 (by decide) rfl hd_X12_fail ⟨rfl, rfl⟩ ⟨Nat.le_of_ble_eq_true rfl, Nat.le_of_ble_eq_true rfl⟩ ⟨Nat.le_of_ble_eq_true rfl, Nat.le_of_ble_eq_true rfl⟩ hl.1 rfl (Nat.le_of_ble_eq_true rfl) dX12_clap_100) hP (fun v_100 u_100 H locs h hP => ?_)
              exact q_iret C hr hlk hP h (by decide) (by decide) dX12_clap_103
            · have h := h.2 c85
              refine lv_aload_n hx hb dX12_clap_88 rfl (lv_at hl 0 rfl) ?_
              obtain ⟨g5, h⟩ := h
              refine q_getR C hP (k := 24) (lay_X12 C.hA) rfl (by decide) g1 g5 (fl_X12_64 C.hA) dX12_clap_89 ?_
              refine lv_iload hx hb dX12_clap_92 (lv_at hl 6 rfl) ?_
              obtain ⟨g6, h⟩ := h
              obtain ⟨g7, h⟩ := h
              refine q_iald C hP g6 g7 dX12_clap_94 ?_
              refine lv_goto (tgt := 103) hx hb dX12_clap_95 (by decide) ?_
              exact q_iret C hr hlk hP h (by decide) (by decide) dX12_clap_103
          · have h := h.1 c63
            refine lv_aload_n hx hb dX12_clap_66 rfl (lv_at hl 0 rfl) ?_
            refine q_getI C hP (k := 26) (lay_X12 C.hA) rfl (by decide) g1 (fl_X12_313 C.hA) dX12_clap_67 ?_
            refine lv_goto (tgt := 103) hx hb dX12_clap_70 (by decide) ?_
            exact q_iret C hr hlk hP h (by decide) (by decide) dX12_clap_103
        · have h := h.1 c33
          exact b_X12_clap_36 C hr hlk h (lv_sub hl [0] rfl) hP
-- X12_strength
abbrev rm_X12_strength : Room := { frames := 5, cells := 0, slots := 0, locals := 146 }
theorem hd_X12_strength : yX12_strength.cls ≠ "java/lang/invoke/MethodHandle" ∧ yX12_strength.cls ≠ "java/lang/invoke/VarHandle" ∧ (parseMethodDescriptor yX12_strength.desc).map (fun d => d.parameters.length) = some 6 := by decide +kernel
def V_X12_strength_47 (G : Gx) (Q : Int32 → Mm → Prop) (x0 : Nat) (u : Mm) : Prop :=
  kd G x0 = 12 ∧ V_X12_fail G x0 (1 : Int32) u (fun (v_49 : Int32) (u_49 : Mm) => Q v_49 u_49)
def V_X12_strength (G : Gx) (p0 : Nat) (p1 : Int32) (p2 : Int32) (p3 : Int32) (p4 : Int32) (p5 : Int32) (p6 : Int32) (u : Mm) (Q : Int32 → Mm → Prop) : Prop :=
  kd G p0 = 12 ∧ ∀ u_2 : Mm, u_2 = sI u p0 1 (0 : Int32) → V_X12_isLand G p1 u_2 (fun (v_6 : Int32) (u_6 : Mm) => ((v_6 = 0 → V_X12_strength_47 G Q p0 u_6) ∧ (¬ v_6 = 0 → V_X12_isPlace G p2 p3 u_6 (fun (v_14 : Int32) (u_14 : Mm) => ((v_14 = 0 → V_X12_strength_47 G Q p0 u_14) ∧ (¬ v_14 = 0 → V_X12_isYear G p4 u_14 (fun (v_22 : Int32) (u_22 : Mm) => ((v_22 = 0 → V_X12_strength_47 G Q p0 u_22) ∧ (¬ v_22 = 0 → V_X12_isTone G p5 u_22 (fun (v_30 : Int32) (u_30 : Mm) => ((v_30 = 0 → V_X12_strength_47 G Q p0 u_30) ∧ (¬ v_30 = 0 → V_X12_isIn G p6 (0 : Int32) (79 : Int32) u_30 (fun (v_41 : Int32) (u_41 : Mm) => ((v_41 = 0 → V_X12_strength_47 G Q p0 u_41) ∧ (¬ v_41 = 0 → V_X12_tellEchoes G p0 p1 (0 : Int32) p2 p3 p4 p5 u_41 (fun (u_62 : Mm) => (gR u_62 p0 22) ≠ 0 ∧ kd G (gR u_62 p0 22) = 13 ∧ vp_in p6 (ln G (gR u_62 p0 22)) ∧ Q (gI u_62 (gR u_62 p0 22) p6.toNatClampNeg) u_62))))))))))))))))
set_option maxHeartbeats 4000000 in
set_option maxRecDepth 100000 in
theorem b_X12_strength_47 {G : Gx} {Q : Int32 → Mm → Prop} {p : Program} {l : Launch} {e : Env} {s : State} {m : MethodId} {args : Array Value} {below : List Frame} {meth : Method} {c : Code} (C : Cx G p s m c cX12_strength RX12 7) (hr : meth.sig.returnType = (some .int)) (hlk : meth.locks = false) {x0 : Nat} {u : Mm} {H : Heap} {locs : List Loc} {ls : Array Slot} (h : V_X12_strength_47 G Q x0 u) (hl : lv_has ls 7 [(0, .ref x0)]) (hP : Hp G u s H locs) : W p l e rm_X12_strength s m args below meth c H locs 0 0 (MQ below (Ei G Q) args s 0 0 (ag G)) (F0 m 47 ls []) := by
  have hx := C.1
  have hb := C.2.1
  unfold V_X12_strength_47 at h
  refine lv_aload_n hx hb dX12_strength_47 rfl (lv_at hl 0 rfl) ?_
  refine lv_iconst (v := (1 : Int32)) hx hb dX12_strength_48 (by decide) ?_
  obtain ⟨g1, h⟩ := h
  refine q_cali (q_runV C hP (c_X12_fail h) (cd_X12_fail C.hA) (ini_X12 C.hA) (ml_X12_249 C.hA) (im_X12_fail C.hA) (sl_X12_fail C.hA) g1 (by decide) rfl hd_X12_fail ⟨rfl, rfl⟩ ⟨Nat.le_of_ble_eq_true rfl, Nat.le_of_ble_eq_true rfl⟩ ⟨Nat.le_of_ble_eq_true rfl, Nat.le_of_ble_eq_true rfl⟩ hl.1 rfl (Nat.le_of_ble_eq_true rfl) dX12_strength_49) hP (fun v_49 u_49 H locs h hP => ?_)
  exact q_iret C hr hlk hP h (by decide) (by decide) dX12_strength_52
set_option maxHeartbeats 4000000 in
set_option maxRecDepth 100000 in
theorem c_X12_strength {l : Launch} {G : Gx} {p0 : Nat} {p1 : Int32} {p2 : Int32} {p3 : Int32} {p4 : Int32} {p5 : Int32} {p6 : Int32} {u : Mm} {Q : Int32 → Mm → Prop} (h : V_X12_strength G p0 p1 p2 p3 p4 p5 p6 u Q) : Met l yX12_strength [.code yX12_strength cX12_strength 7 (some .int)] rm_X12_strength (va_Pc [.ref p0, .int p1, .int p2, .int p3, .int p4, .int p5, .int p6] (Wd G u)) (Ei G Q) 0 0 (ag G) := by
  refine q_met (by decide) (Nat.le_of_ble_eq_true rfl) ?_
  intro p e s m below meth c ls C hr hlk hnm hl hP
  have hl : lv_has ls 7 [(0, .ref p0), (1, .int p1), (2, .int p2), (3, .int p3), (4, .int p4), (5, .int p5), (6, .int p6)] := hl
  generalize ([.ref p0, .int p1, .int p2, .int p3, .int p4, .int p5, .int p6] : List Value).toArray = args
  have hx := C.1
  have hb := C.2.1
  unfold V_X12_strength at h
  refine lv_aload_n hx hb dX12_strength_0 rfl (lv_at hl 0 rfl) ?_
  refine lv_iconst (v := (0 : Int32)) hx hb dX12_strength_1 (by decide) ?_
  obtain ⟨g1, h⟩ := h
  refine q_putI C hP (k := 1) tyX12_ok nmX12 (lay_X12 C.hA) rfl (by decide) rfl rfl rfl rfl g1 (fl_X12_147 C.hA) dX12_strength_2 (fun H locs hP => ?_)
  obtain ⟨u_2, eu_2, hP⟩ := Hp.nm hP
  have h := h u_2 eu_2
  refine lv_iload_n hx hb dX12_strength_5 rfl (lv_at hl 1 rfl) ?_
  refine q_cali (q_runS C hP (c_X12_isLand h) (cd_X12_isLand C.hA) (ini_X12 C.hA) (ml_X12_246 C.hA) (st_X12_isLand C.hA) hd_X12_isLand ⟨rfl, rfl⟩ ⟨Nat.le_of_ble_eq_true rfl, Nat.le_of_ble_eq_true rfl⟩ ⟨Nat.le_of_ble_eq_true rfl, Nat.le_of_ble_eq_true rfl⟩ hl.1 rfl (Nat.le_of_ble_eq_true rfl) dX12_strength_6) hP (fun v_6 u_6 H locs h hP => ?_)
  refine lv_if_eq (tgt := 47) hx hb dX12_strength_9 (by decide) (fun c9 => ?_) (fun c9 => ?_)
  · have h := h.1 c9
    exact b_X12_strength_47 C hr hlk h (lv_sub hl [0] rfl) hP
  · have h := h.2 c9
    refine lv_iload_n hx hb dX12_strength_12 rfl (lv_at hl 2 rfl) ?_
    refine lv_iload_n hx hb dX12_strength_13 rfl (lv_at hl 3 rfl) ?_
    refine q_cali (q_runS C hP (c_X12_isPlace h) (cd_X12_isPlace C.hA) (ini_X12 C.hA) (ml_X12_330 C.hA) (st_X12_isPlace C.hA) hd_X12_isPlace ⟨rfl, rfl⟩ ⟨Nat.le_of_ble_eq_true rfl, Nat.le_of_ble_eq_true rfl⟩ ⟨Nat.le_of_ble_eq_true rfl, Nat.le_of_ble_eq_true rfl⟩ hl.1 rfl (Nat.le_of_ble_eq_true rfl) dX12_strength_14) hP (fun v_14 u_14 H locs h hP => ?_)
    refine lv_if_eq (tgt := 47) hx hb dX12_strength_17 (by decide) (fun c17 => ?_) (fun c17 => ?_)
    · have h := h.1 c17
      exact b_X12_strength_47 C hr hlk h (lv_sub hl [0] rfl) hP
    · have h := h.2 c17
      refine lv_iload hx hb dX12_strength_20 (lv_at hl 4 rfl) ?_
      refine q_cali (q_runS C hP (c_X12_isYear h) (cd_X12_isYear C.hA) (ini_X12 C.hA) (ml_X12_333 C.hA) (st_X12_isYear C.hA) hd_X12_isYear ⟨rfl, rfl⟩ ⟨Nat.le_of_ble_eq_true rfl, Nat.le_of_ble_eq_true rfl⟩ ⟨Nat.le_of_ble_eq_true rfl, Nat.le_of_ble_eq_true rfl⟩ hl.1 rfl (Nat.le_of_ble_eq_true rfl) dX12_strength_22) hP (fun v_22 u_22 H locs h hP => ?_)
      refine lv_if_eq (tgt := 47) hx hb dX12_strength_25 (by decide) (fun c25 => ?_) (fun c25 => ?_)
      · have h := h.1 c25
        exact b_X12_strength_47 C hr hlk h (lv_sub hl [0] rfl) hP
      · have h := h.2 c25
        refine lv_iload hx hb dX12_strength_28 (lv_at hl 5 rfl) ?_
        refine q_cali (q_runS C hP (c_X12_isTone h) (cd_X12_isTone C.hA) (ini_X12 C.hA) (ml_X12_336 C.hA) (st_X12_isTone C.hA) hd_X12_isTone ⟨rfl, rfl⟩ ⟨Nat.le_of_ble_eq_true rfl, Nat.le_of_ble_eq_true rfl⟩ ⟨Nat.le_of_ble_eq_true rfl, Nat.le_of_ble_eq_true rfl⟩ hl.1 rfl (Nat.le_of_ble_eq_true rfl) dX12_strength_30) hP (fun v_30 u_30 H locs h hP => ?_)
        refine lv_if_eq (tgt := 47) hx hb dX12_strength_33 (by decide) (fun c33 => ?_) (fun c33 => ?_)
        · have h := h.1 c33
          exact b_X12_strength_47 C hr hlk h (lv_sub hl [0] rfl) hP
        · have h := h.2 c33
          refine lv_iload hx hb dX12_strength_36 (lv_at hl 6 rfl) ?_
          refine lv_iconst (v := (0 : Int32)) hx hb dX12_strength_38 (by decide) ?_
          refine lv_bipush (v := (79 : Int32)) hx hb dX12_strength_39 (by decide) ?_
          refine q_cali (q_runS C hP (c_X12_isIn h) (cd_X12_isIn C.hA) (ini_X12 C.hA) (ml_X12_150 C.hA) (st_X12_isIn C.hA) hd_X12_isIn ⟨rfl, rfl⟩ ⟨Nat.le_of_ble_eq_true rfl, Nat.le_of_ble_eq_true rfl⟩ ⟨Nat.le_of_ble_eq_true rfl, Nat.le_of_ble_eq_true rfl⟩ hl.1 rfl (Nat.le_of_ble_eq_true rfl) dX12_strength_41) hP (fun v_41 u_41 H locs h hP => ?_)
          refine lv_if_ne (tgt := 53) hx hb dX12_strength_44 (by decide) (fun c44 => ?_) (fun c44 => ?_)
          · have h := h.2 c44
            refine lv_aload_n hx hb dX12_strength_53 rfl (lv_at hl 0 rfl) ?_
            refine lv_iload_n hx hb dX12_strength_54 rfl (lv_at hl 1 rfl) ?_
            refine lv_iconst (v := (0 : Int32)) hx hb dX12_strength_55 (by decide) ?_
            refine lv_iload_n hx hb dX12_strength_56 rfl (lv_at hl 2 rfl) ?_
            refine lv_iload_n hx hb dX12_strength_57 rfl (lv_at hl 3 rfl) ?_
            refine lv_iload hx hb dX12_strength_58 (lv_at hl 4 rfl) ?_
            refine lv_iload hx hb dX12_strength_60 (lv_at hl 5 rfl) ?_
            refine q_calv (q_runV C hP (c_X12_tellEchoes h) (cd_X12_tellEchoes C.hA) (ini_X12 C.hA) (ml_X12_316 C.hA) (im_X12_tellEchoes C.hA) (sl_X12_tellEchoes C.hA) g1 (by decide) rfl hd_X12_tellEchoes ⟨rfl, rfl⟩ ⟨Nat.le_of_ble_eq_true rfl, Nat.le_of_ble_eq_true rfl⟩ ⟨Nat.le_of_ble_eq_true rfl, Nat.le_of_ble_eq_true rfl⟩ hl.1 rfl (Nat.le_of_ble_eq_true rfl) dX12_strength_62) hP (fun u_62 H locs h hP => ?_)
            refine lv_aload_n hx hb dX12_strength_65 rfl (lv_at hl 0 rfl) ?_
            obtain ⟨g2, h⟩ := h
            refine q_getR C hP (k := 22) (lay_X12 C.hA) rfl (by decide) g1 g2 (fl_X12_58 C.hA) dX12_strength_66 ?_
            refine lv_iload hx hb dX12_strength_69 (lv_at hl 6 rfl) ?_
            obtain ⟨g3, h⟩ := h
            obtain ⟨g4, h⟩ := h
            refine q_iald C hP g3 g4 dX12_strength_71 ?_
            exact q_iret C hr hlk hP h (by decide) (by decide) dX12_strength_72
          · have h := h.1 c44
            exact b_X12_strength_47 C hr hlk h (lv_sub hl [0] rfl) hP
-- X12_isStation
abbrev rm_X12_isStation : Room := { frames := 1, cells := 0, slots := 0, locals := 22 }
theorem hd_X12_isStation : yX12_isStation.cls ≠ "java/lang/invoke/MethodHandle" ∧ yX12_isStation.cls ≠ "java/lang/invoke/VarHandle" ∧ (parseMethodDescriptor yX12_isStation.desc).map (fun d => d.parameters.length) = some 1 := by decide +kernel
def V_X12_isStation (G : Gx) (p0 : Nat) (p1 : Int32) (u : Mm) (Q : Int32 → Mm → Prop) : Prop :=
  kd G p0 = 12 ∧ V_X12_isIn G p1 (0 : Int32) ((gI u p0 27) - (1 : Int32)) u (fun (v_8 : Int32) (u_8 : Mm) => (v_8 = 0 ∨ v_8 = 1) ∧ Q v_8 u_8)
set_option maxHeartbeats 4000000 in
set_option maxRecDepth 100000 in
theorem c_X12_isStation {l : Launch} {G : Gx} {p0 : Nat} {p1 : Int32} {u : Mm} {Q : Int32 → Mm → Prop} (h : V_X12_isStation G p0 p1 u Q) : Met l yX12_isStation [.code yX12_isStation cX12_isStation 2 (some .boolean)] rm_X12_isStation (va_Pc [.ref p0, .int p1] (Wd G u)) (Ei G Q) 0 0 (ag G) := by
  refine q_met (by decide) (Nat.le_of_ble_eq_true rfl) ?_
  intro p e s m below meth c ls C hr hlk hnm hl hP
  have hl : lv_has ls 2 [(0, .ref p0), (1, .int p1)] := hl
  generalize ([.ref p0, .int p1] : List Value).toArray = args
  have hx := C.1
  have hb := C.2.1
  unfold V_X12_isStation at h
  refine lv_iload_n hx hb dX12_isStation_0 rfl (lv_at hl 1 rfl) ?_
  refine lv_iconst (v := (0 : Int32)) hx hb dX12_isStation_1 (by decide) ?_
  refine lv_aload_n hx hb dX12_isStation_2 rfl (lv_at hl 0 rfl) ?_
  obtain ⟨g1, h⟩ := h
  refine q_getI C hP (k := 27) (lay_X12 C.hA) rfl (by decide) g1 (fl_X12_255 C.hA) dX12_isStation_3 ?_
  refine lv_iconst (v := (1 : Int32)) hx hb dX12_isStation_6 (by decide) ?_
  refine lv_isub hx hb dX12_isStation_7 ?_
  refine q_cali (q_runS C hP (c_X12_isIn h) (cd_X12_isIn C.hA) (ini_X12 C.hA) (ml_X12_150 C.hA) (st_X12_isIn C.hA) hd_X12_isIn ⟨rfl, rfl⟩ ⟨Nat.le_of_ble_eq_true rfl, Nat.le_of_ble_eq_true rfl⟩ ⟨Nat.le_of_ble_eq_true rfl, Nat.le_of_ble_eq_true rfl⟩ hl.1 rfl (Nat.le_of_ble_eq_true rfl) dX12_isStation_8) hP (fun v_8 u_8 H locs h hP => ?_)
  obtain ⟨g2, h⟩ := h
  exact q_zret C hr hlk hP g2 h (by decide) (by decide) dX12_isStation_11
-- X12_station
abbrev rm_X12_station : Room := { frames := 2, cells := 0, slots := 0, locals := 43 }
theorem hd_X12_station : yX12_station.cls ≠ "java/lang/invoke/MethodHandle" ∧ yX12_station.cls ≠ "java/lang/invoke/VarHandle" ∧ (parseMethodDescriptor yX12_station.desc).map (fun d => d.parameters.length) = some 4 := by decide +kernel
def V_X12_station_59 (G : Gx) (Q : Int32 → Mm → Prop) (x0 : Nat) (u : Mm) : Prop :=
  kd G x0 = 12 ∧ (gR u x0 10) ≠ 0 ∧ kd G (gR u x0 10) = 13 ∧ vp_in (1 : Int32) (ln G (gR u x0 10)) ∧ ∀ u_68 : Mm, u_68 = sI u (gR u x0 10) (1 : Int32).toNatClampNeg ((gI u (gR u x0 10) (1 : Int32).toNatClampNeg) + (1 : Int32)) → Q (-1 : Int32) u_68
def V_X12_station_43 (G : Gx) (Q : Int32 → Mm → Prop) (x0 : Nat) (x1 : Int32) (x2 : Int32) (x3 : Int32) (x4 : Int32) (t0 : Int32) (u : Mm) : Prop :=
  kd G x0 = 12 ∧ (((gI u x0 27) = (20 : Int32) → V_X12_station_59 G Q x0 u) ∧ (¬ (gI u x0 27) = (20 : Int32) → ((t0 = 0 → V_X12_station_59 G Q x0 u) ∧ (¬ t0 = 0 → (gR u x0 29) ≠ 0 ∧ kd G (gR u x0 29) = 13 ∧ vp_in (gI u x0 27) (ln G (gR u x0 29)) ∧ ∀ u_80 : Mm, u_80 = sI u (gR u x0 29) (gI u x0 27).toNatClampNeg x1 → (gR u_80 x0 30) ≠ 0 ∧ kd G (gR u_80 x0 30) = 13 ∧ vp_in (gI u_80 x0 27) (ln G (gR u_80 x0 30)) ∧ ∀ u_90 : Mm, u_90 = sI u_80 (gR u_80 x0 30) (gI u_80 x0 27).toNatClampNeg x2 → (gR u_90 x0 31) ≠ 0 ∧ kd G (gR u_90 x0 31) = 13 ∧ vp_in (gI u_90 x0 27) (ln G (gR u_90 x0 31)) ∧ ∀ u_100 : Mm, u_100 = sI u_90 (gR u_90 x0 31) (gI u_90 x0 27).toNatClampNeg x3 → (gR u_100 x0 32) ≠ 0 ∧ kd G (gR u_100 x0 32) = 13 ∧ vp_in (gI u_100 x0 27) (ln G (gR u_100 x0 32)) ∧ ∀ u_111 : Mm, u_111 = sI u_100 (gR u_100 x0 32) (gI u_100 x0 27).toNatClampNeg x4 → (gR u_111 x0 33) ≠ 0 ∧ kd G (gR u_111 x0 33) = 13 ∧ vp_in (gI u_111 x0 27) (ln G (gR u_111 x0 33)) ∧ ∀ u_121 : Mm, u_121 = sI u_111 (gR u_111 x0 33) (gI u_111 x0 27).toNatClampNeg (0 : Int32) → ∀ u_129 : Mm, u_129 = sI u_121 x0 27 ((gI u_121 x0 27) + (1 : Int32)) → Q ((gI u_129 x0 27) - (1 : Int32)) u_129))))
def V_X12_station_42 (G : Gx) (Q : Int32 → Mm → Prop) (x0 : Nat) (x1 : Int32) (x2 : Int32) (x3 : Int32) (x4 : Int32) (u : Mm) : Prop :=
  V_X12_station_43 G Q x0 x1 x2 x3 x4 (0 : Int32) u
def V_X12_station_23 (G : Gx) (Q : Int32 → Mm → Prop) (x0 : Nat) (x1 : Int32) (x2 : Int32) (x3 : Int32) (x4 : Int32) (u : Mm) : Prop :=
  V_X12_isYear G x3 u (fun (v_24 : Int32) (u_24 : Mm) => ((v_24 = 0 → V_X12_station_42 G Q x0 x1 x2 x3 x4 u_24) ∧ (¬ v_24 = 0 → V_X12_isTone G x4 u_24 (fun (v_32 : Int32) (u_32 : Mm) => ((v_32 = 0 → V_X12_station_42 G Q x0 x1 x2 x3 x4 u_32) ∧ (¬ v_32 = 0 → V_X12_station_43 G Q x0 x1 x2 x3 x4 (1 : Int32) u_32))))))
def V_X12_station (G : Gx) (p0 : Nat) (p1 : Int32) (p2 : Int32) (p3 : Int32) (p4 : Int32) (u : Mm) (Q : Int32 → Mm → Prop) : Prop :=
  kd G p0 = 12 ∧ ∀ u_2 : Mm, u_2 = sI u p0 1 (0 : Int32) → V_X12_isPlace G p1 p2 u_2 (fun (v_7 : Int32) (u_7 : Mm) => ((v_7 = 0 → ((p1 = (-1 : Int32) → ((p2 = (-1 : Int32) → V_X12_station_23 G Q p0 p1 p2 p3 p4 u_7) ∧ (¬ p2 = (-1 : Int32) → V_X12_station_42 G Q p0 p1 p2 p3 p4 u_7))) ∧ (¬ p1 = (-1 : Int32) → V_X12_station_42 G Q p0 p1 p2 p3 p4 u_7))) ∧ (¬ v_7 = 0 → V_X12_station_23 G Q p0 p1 p2 p3 p4 u_7)))
set_option maxHeartbeats 4000000 in
set_option maxRecDepth 100000 in
theorem b_X12_station_59 {G : Gx} {Q : Int32 → Mm → Prop} {p : Program} {l : Launch} {e : Env} {s : State} {m : MethodId} {args : Array Value} {below : List Frame} {meth : Method} {c : Code} (C : Cx G p s m c cX12_station RX12 6) (hr : meth.sig.returnType = (some .int)) (hlk : meth.locks = false) {x0 : Nat} {u : Mm} {H : Heap} {locs : List Loc} {ls : Array Slot} (h : V_X12_station_59 G Q x0 u) (hl : lv_has ls 6 [(0, .ref x0)]) (hP : Hp G u s H locs) : W p l e rm_X12_station s m args below meth c H locs 0 0 (MQ below (Ei G Q) args s 0 0 (ag G)) (F0 m 59 ls []) := by
  have hx := C.1
  have hb := C.2.1
  unfold V_X12_station_59 at h
  refine lv_aload_n hx hb dX12_station_59 rfl (lv_at hl 0 rfl) ?_
  obtain ⟨g1, h⟩ := h
  obtain ⟨g2, h⟩ := h
  refine q_getR C hP (k := 10) (lay_X12 C.hA) rfl (by decide) g1 g2 (fl_X12_48 C.hA) dX12_station_60 ?_
  refine lv_iconst (v := (1 : Int32)) hx hb dX12_station_63 (by decide) ?_
  refine lv_dup2_11 hx hb dX12_station_64 rfl rfl ?_
  obtain ⟨g3, h⟩ := h
  obtain ⟨g4, h⟩ := h
  refine q_iald C hP g3 g4 dX12_station_65 ?_
  refine lv_iconst (v := (1 : Int32)) hx hb dX12_station_66 (by decide) ?_
  refine lv_iadd hx hb dX12_station_67 ?_
  refine q_iast C hP g3 g4 dX12_station_68 (fun H locs hP => ?_)
  obtain ⟨u_68, eu_68, hP⟩ := Hp.nm hP
  have h := h u_68 eu_68
  refine lv_iconst (v := (-1 : Int32)) hx hb dX12_station_69 (by decide) ?_
  exact q_iret C hr hlk hP h (by decide) (by decide) dX12_station_70
set_option maxHeartbeats 4000000 in
set_option maxRecDepth 100000 in
theorem b_X12_station_43 {G : Gx} {Q : Int32 → Mm → Prop} {p : Program} {l : Launch} {e : Env} {s : State} {m : MethodId} {args : Array Value} {below : List Frame} {meth : Method} {c : Code} (C : Cx G p s m c cX12_station RX12 6) (hr : meth.sig.returnType = (some .int)) (hlk : meth.locks = false) {x0 : Nat} {x1 : Int32} {x2 : Int32} {x3 : Int32} {x4 : Int32} {t0 : Int32} {u : Mm} {H : Heap} {locs : List Loc} {ls : Array Slot} (h : V_X12_station_43 G Q x0 x1 x2 x3 x4 t0 u) (hl : lv_has ls 6 [(0, .ref x0), (1, .int x1), (2, .int x2), (3, .int x3), (4, .int x4)]) (hP : Hp G u s H locs) : W p l e rm_X12_station s m args below meth c H locs 0 0 (MQ below (Ei G Q) args s 0 0 (ag G)) (F0 m 43 ls [.int t0]) := by
  have hx := C.1
  have hb := C.2.1
  unfold V_X12_station_43 at h
  refine lv_istore (lv' := [(5, .int t0), (0, .ref x0), (1, .int x1), (2, .int x2), (3, .int x3), (4, .int x4)]) hx hb dX12_station_43 hl (by decide) rfl (fun ls hl => ?_)
  refine lv_aload_n hx hb dX12_station_45 rfl (lv_at hl 1 rfl) ?_
  obtain ⟨g1, h⟩ := h
  refine q_getI C hP (k := 27) (lay_X12 C.hA) rfl (by decide) g1 (fl_X12_255 C.hA) dX12_station_46 ?_
  refine lv_bipush (v := (20 : Int32)) hx hb dX12_station_49 (by decide) ?_
  refine lv_icmp_eq (tgt := 59) hx hb dX12_station_51 (by decide) (fun c51 => ?_) (fun c51 => ?_)
  · have h := h.1 c51
    exact b_X12_station_59 C hr hlk h (lv_sub hl [1] rfl) hP
  · have h := h.2 c51
    refine lv_iload hx hb dX12_station_54 (lv_at hl 0 rfl) ?_
    refine lv_if_ne (tgt := 71) hx hb dX12_station_56 (by decide) (fun c56 => ?_) (fun c56 => ?_)
    · have h := h.2 c56
      refine lv_aload_n hx hb dX12_station_71 rfl (lv_at hl 1 rfl) ?_
      obtain ⟨g2, h⟩ := h
      refine q_getR C hP (k := 29) (lay_X12 C.hA) rfl (by decide) g1 g2 (fl_X12_70 C.hA) dX12_station_72 ?_
      refine lv_aload_n hx hb dX12_station_75 rfl (lv_at hl 1 rfl) ?_
      refine q_getI C hP (k := 27) (lay_X12 C.hA) rfl (by decide) g1 (fl_X12_255 C.hA) dX12_station_76 ?_
      refine lv_iload_n hx hb dX12_station_79 rfl (lv_at hl 2 rfl) ?_
      obtain ⟨g3, h⟩ := h
      obtain ⟨g4, h⟩ := h
      refine q_iast C hP g3 g4 dX12_station_80 (fun H locs hP => ?_)
      obtain ⟨u_80, eu_80, hP⟩ := Hp.nm hP
      have h := h u_80 eu_80
      refine lv_aload_n hx hb dX12_station_81 rfl (lv_at hl 1 rfl) ?_
      obtain ⟨g5, h⟩ := h
      refine q_getR C hP (k := 30) (lay_X12 C.hA) rfl (by decide) g1 g5 (fl_X12_73 C.hA) dX12_station_82 ?_
      refine lv_aload_n hx hb dX12_station_85 rfl (lv_at hl 1 rfl) ?_
      refine q_getI C hP (k := 27) (lay_X12 C.hA) rfl (by decide) g1 (fl_X12_255 C.hA) dX12_station_86 ?_
      refine lv_iload_n hx hb dX12_station_89 rfl (lv_at hl 3 rfl) ?_
      obtain ⟨g6, h⟩ := h
      obtain ⟨g7, h⟩ := h
      refine q_iast C hP g6 g7 dX12_station_90 (fun H locs hP => ?_)
      obtain ⟨u_90, eu_90, hP⟩ := Hp.nm hP
      have h := h u_90 eu_90
      refine lv_aload_n hx hb dX12_station_91 rfl (lv_at hl 1 rfl) ?_
      obtain ⟨g8, h⟩ := h
      refine q_getR C hP (k := 31) (lay_X12 C.hA) rfl (by decide) g1 g8 (fl_X12_76 C.hA) dX12_station_92 ?_
      refine lv_aload_n hx hb dX12_station_95 rfl (lv_at hl 1 rfl) ?_
      refine q_getI C hP (k := 27) (lay_X12 C.hA) rfl (by decide) g1 (fl_X12_255 C.hA) dX12_station_96 ?_
      refine lv_iload_n hx hb dX12_station_99 rfl (lv_at hl 4 rfl) ?_
      obtain ⟨g9, h⟩ := h
      obtain ⟨g10, h⟩ := h
      refine q_iast C hP g9 g10 dX12_station_100 (fun H locs hP => ?_)
      obtain ⟨u_100, eu_100, hP⟩ := Hp.nm hP
      have h := h u_100 eu_100
      refine lv_aload_n hx hb dX12_station_101 rfl (lv_at hl 1 rfl) ?_
      obtain ⟨g11, h⟩ := h
      refine q_getR C hP (k := 32) (lay_X12 C.hA) rfl (by decide) g1 g11 (fl_X12_79 C.hA) dX12_station_102 ?_
      refine lv_aload_n hx hb dX12_station_105 rfl (lv_at hl 1 rfl) ?_
      refine q_getI C hP (k := 27) (lay_X12 C.hA) rfl (by decide) g1 (fl_X12_255 C.hA) dX12_station_106 ?_
      refine lv_iload hx hb dX12_station_109 (lv_at hl 5 rfl) ?_
      obtain ⟨g12, h⟩ := h
      obtain ⟨g13, h⟩ := h
      refine q_iast C hP g12 g13 dX12_station_111 (fun H locs hP => ?_)
      obtain ⟨u_111, eu_111, hP⟩ := Hp.nm hP
      have h := h u_111 eu_111
      refine lv_aload_n hx hb dX12_station_112 rfl (lv_at hl 1 rfl) ?_
      obtain ⟨g14, h⟩ := h
      refine q_getR C hP (k := 33) (lay_X12 C.hA) rfl (by decide) g1 g14 (fl_X12_82 C.hA) dX12_station_113 ?_
      refine lv_aload_n hx hb dX12_station_116 rfl (lv_at hl 1 rfl) ?_
      refine q_getI C hP (k := 27) (lay_X12 C.hA) rfl (by decide) g1 (fl_X12_255 C.hA) dX12_station_117 ?_
      refine lv_iconst (v := (0 : Int32)) hx hb dX12_station_120 (by decide) ?_
      obtain ⟨g15, h⟩ := h
      obtain ⟨g16, h⟩ := h
      refine q_iast C hP g15 g16 dX12_station_121 (fun H locs hP => ?_)
      obtain ⟨u_121, eu_121, hP⟩ := Hp.nm hP
      have h := h u_121 eu_121
      refine lv_aload_n hx hb dX12_station_122 rfl (lv_at hl 1 rfl) ?_
      refine lv_dup hx hb dX12_station_123 rfl ?_
      refine q_getI C hP (k := 27) (lay_X12 C.hA) rfl (by decide) g1 (fl_X12_255 C.hA) dX12_station_124 ?_
      refine lv_iconst (v := (1 : Int32)) hx hb dX12_station_127 (by decide) ?_
      refine lv_iadd hx hb dX12_station_128 ?_
      refine q_putI C hP (k := 27) tyX12_ok nmX12 (lay_X12 C.hA) rfl (by decide) rfl rfl rfl rfl g1 (fl_X12_255 C.hA) dX12_station_129 (fun H locs hP => ?_)
      obtain ⟨u_129, eu_129, hP⟩ := Hp.nm hP
      have h := h u_129 eu_129
      refine lv_aload_n hx hb dX12_station_132 rfl (lv_at hl 1 rfl) ?_
      refine q_getI C hP (k := 27) (lay_X12 C.hA) rfl (by decide) g1 (fl_X12_255 C.hA) dX12_station_133 ?_
      refine lv_iconst (v := (1 : Int32)) hx hb dX12_station_136 (by decide) ?_
      refine lv_isub hx hb dX12_station_137 ?_
      exact q_iret C hr hlk hP h (by decide) (by decide) dX12_station_138
    · have h := h.1 c56
      exact b_X12_station_59 C hr hlk h (lv_sub hl [1] rfl) hP
set_option maxHeartbeats 4000000 in
set_option maxRecDepth 100000 in
theorem b_X12_station_42 {G : Gx} {Q : Int32 → Mm → Prop} {p : Program} {l : Launch} {e : Env} {s : State} {m : MethodId} {args : Array Value} {below : List Frame} {meth : Method} {c : Code} (C : Cx G p s m c cX12_station RX12 6) (hr : meth.sig.returnType = (some .int)) (hlk : meth.locks = false) {x0 : Nat} {x1 : Int32} {x2 : Int32} {x3 : Int32} {x4 : Int32} {u : Mm} {H : Heap} {locs : List Loc} {ls : Array Slot} (h : V_X12_station_42 G Q x0 x1 x2 x3 x4 u) (hl : lv_has ls 6 [(0, .ref x0), (1, .int x1), (2, .int x2), (3, .int x3), (4, .int x4)]) (hP : Hp G u s H locs) : W p l e rm_X12_station s m args below meth c H locs 0 0 (MQ below (Ei G Q) args s 0 0 (ag G)) (F0 m 42 ls []) := by
  have hx := C.1
  have hb := C.2.1
  unfold V_X12_station_42 at h
  refine lv_iconst (v := (0 : Int32)) hx hb dX12_station_42 (by decide) ?_
  exact b_X12_station_43 C hr hlk h (lv_sub hl [0, 1, 2, 3, 4] rfl) hP
set_option maxHeartbeats 4000000 in
set_option maxRecDepth 100000 in
theorem b_X12_station_23 {G : Gx} {Q : Int32 → Mm → Prop} {p : Program} {l : Launch} {e : Env} {s : State} {m : MethodId} {args : Array Value} {below : List Frame} {meth : Method} {c : Code} (C : Cx G p s m c cX12_station RX12 6) (hr : meth.sig.returnType = (some .int)) (hlk : meth.locks = false) {x0 : Nat} {x1 : Int32} {x2 : Int32} {x3 : Int32} {x4 : Int32} {u : Mm} {H : Heap} {locs : List Loc} {ls : Array Slot} (h : V_X12_station_23 G Q x0 x1 x2 x3 x4 u) (hl : lv_has ls 6 [(0, .ref x0), (1, .int x1), (2, .int x2), (3, .int x3), (4, .int x4)]) (hP : Hp G u s H locs) : W p l e rm_X12_station s m args below meth c H locs 0 0 (MQ below (Ei G Q) args s 0 0 (ag G)) (F0 m 23 ls []) := by
  have hx := C.1
  have hb := C.2.1
  unfold V_X12_station_23 at h
  refine lv_iload_n hx hb dX12_station_23 rfl (lv_at hl 3 rfl) ?_
  refine q_cali (q_runS C hP (c_X12_isYear h) (cd_X12_isYear C.hA) (ini_X12 C.hA) (ml_X12_333 C.hA) (st_X12_isYear C.hA) hd_X12_isYear ⟨rfl, rfl⟩ ⟨Nat.le_of_ble_eq_true rfl, Nat.le_of_ble_eq_true rfl⟩ ⟨Nat.le_of_ble_eq_true rfl, Nat.le_of_ble_eq_true rfl⟩ hl.1 rfl (Nat.le_of_ble_eq_true rfl) dX12_station_24) hP (fun v_24 u_24 H locs h hP => ?_)
  refine lv_if_eq (tgt := 42) hx hb dX12_station_27 (by decide) (fun c27 => ?_) (fun c27 => ?_)
  · have h := h.1 c27
    exact b_X12_station_42 C hr hlk h (lv_sub hl [0, 1, 2, 3, 4] rfl) hP
  · have h := h.2 c27
    refine lv_iload hx hb dX12_station_30 (lv_at hl 4 rfl) ?_
    refine q_cali (q_runS C hP (c_X12_isTone h) (cd_X12_isTone C.hA) (ini_X12 C.hA) (ml_X12_336 C.hA) (st_X12_isTone C.hA) hd_X12_isTone ⟨rfl, rfl⟩ ⟨Nat.le_of_ble_eq_true rfl, Nat.le_of_ble_eq_true rfl⟩ ⟨Nat.le_of_ble_eq_true rfl, Nat.le_of_ble_eq_true rfl⟩ hl.1 rfl (Nat.le_of_ble_eq_true rfl) dX12_station_32) hP (fun v_32 u_32 H locs h hP => ?_)
    refine lv_if_eq (tgt := 42) hx hb dX12_station_35 (by decide) (fun c35 => ?_) (fun c35 => ?_)
    · have h := h.1 c35
      exact b_X12_station_42 C hr hlk h (lv_sub hl [0, 1, 2, 3, 4] rfl) hP
    · have h := h.2 c35
      refine lv_iconst (v := (1 : Int32)) hx hb dX12_station_38 (by decide) ?_
      refine lv_goto (tgt := 43) hx hb dX12_station_39 (by decide) ?_
      exact b_X12_station_43 C hr hlk h (lv_sub hl [0, 1, 2, 3, 4] rfl) hP
set_option maxHeartbeats 4000000 in
set_option maxRecDepth 100000 in
theorem c_X12_station {l : Launch} {G : Gx} {p0 : Nat} {p1 : Int32} {p2 : Int32} {p3 : Int32} {p4 : Int32} {u : Mm} {Q : Int32 → Mm → Prop} (h : V_X12_station G p0 p1 p2 p3 p4 u Q) : Met l yX12_station [.code yX12_station cX12_station 6 (some .int)] rm_X12_station (va_Pc [.ref p0, .int p1, .int p2, .int p3, .int p4] (Wd G u)) (Ei G Q) 0 0 (ag G) := by
  refine q_met (by decide) (Nat.le_of_ble_eq_true rfl) ?_
  intro p e s m below meth c ls C hr hlk hnm hl hP
  have hl : lv_has ls 6 [(0, .ref p0), (1, .int p1), (2, .int p2), (3, .int p3), (4, .int p4)] := hl
  generalize ([.ref p0, .int p1, .int p2, .int p3, .int p4] : List Value).toArray = args
  have hx := C.1
  have hb := C.2.1
  unfold V_X12_station at h
  refine lv_aload_n hx hb dX12_station_0 rfl (lv_at hl 0 rfl) ?_
  refine lv_iconst (v := (0 : Int32)) hx hb dX12_station_1 (by decide) ?_
  obtain ⟨g1, h⟩ := h
  refine q_putI C hP (k := 1) tyX12_ok nmX12 (lay_X12 C.hA) rfl (by decide) rfl rfl rfl rfl g1 (fl_X12_147 C.hA) dX12_station_2 (fun H locs hP => ?_)
  obtain ⟨u_2, eu_2, hP⟩ := Hp.nm hP
  have h := h u_2 eu_2
  refine lv_iload_n hx hb dX12_station_5 rfl (lv_at hl 1 rfl) ?_
  refine lv_iload_n hx hb dX12_station_6 rfl (lv_at hl 2 rfl) ?_
  refine q_cali (q_runS C hP (c_X12_isPlace h) (cd_X12_isPlace C.hA) (ini_X12 C.hA) (ml_X12_330 C.hA) (st_X12_isPlace C.hA) hd_X12_isPlace ⟨rfl, rfl⟩ ⟨Nat.le_of_ble_eq_true rfl, Nat.le_of_ble_eq_true rfl⟩ ⟨Nat.le_of_ble_eq_true rfl, Nat.le_of_ble_eq_true rfl⟩ hl.1 rfl (Nat.le_of_ble_eq_true rfl) dX12_station_7) hP (fun v_7 u_7 H locs h hP => ?_)
  refine lv_if_ne (tgt := 23) hx hb dX12_station_10 (by decide) (fun c10 => ?_) (fun c10 => ?_)
  · have h := h.2 c10
    exact b_X12_station_23 C hr hlk h (lv_sub hl [0, 1, 2, 3, 4] rfl) hP
  · have h := h.1 c10
    refine lv_iload_n hx hb dX12_station_13 rfl (lv_at hl 1 rfl) ?_
    refine lv_iconst (v := (-1 : Int32)) hx hb dX12_station_14 (by decide) ?_
    refine lv_icmp_ne (tgt := 42) hx hb dX12_station_15 (by decide) (fun c15 => ?_) (fun c15 => ?_)
    · have h := h.2 c15
      exact b_X12_station_42 C hr hlk h (lv_sub hl [0, 1, 2, 3, 4] rfl) hP
    · have h := h.1 c15
      refine lv_iload_n hx hb dX12_station_18 rfl (lv_at hl 2 rfl) ?_
      refine lv_iconst (v := (-1 : Int32)) hx hb dX12_station_19 (by decide) ?_
      refine lv_icmp_ne (tgt := 42) hx hb dX12_station_20 (by decide) (fun c20 => ?_) (fun c20 => ?_)
      · have h := h.2 c20
        exact b_X12_station_42 C hr hlk h (lv_sub hl [0, 1, 2, 3, 4] rfl) hP
      · have h := h.1 c20
        exact b_X12_station_23 C hr hlk h (lv_sub hl [0, 1, 2, 3, 4] rfl) hP
-- X12_tick
abbrev rm_X12_tick : Room := { frames := 2, cells := 0, slots := 0, locals := 43 }
theorem hd_X12_tick : yX12_tick.cls ≠ "java/lang/invoke/MethodHandle" ∧ yX12_tick.cls ≠ "java/lang/invoke/VarHandle" ∧ (parseMethodDescriptor yX12_tick.desc).map (fun d => d.parameters.length) = some 2 := by decide +kernel
def V_X12_tick_112 (G : Gx) (Q : Int32 → Mm → Prop) (x0 : Nat) (x1 : Int32) (x2 : Int32) (x3 : Int32) (u : Mm) : Prop :=
  kd G x0 = 12 ∧ (gR u x0 35) ≠ 0 ∧ kd G (gR u x0 35) = 13 ∧ vp_in x3 (ln G (gR u x0 35)) ∧ ∀ u_118 : Mm, u_118 = sI u (gR u x0 35) x3.toNatClampNeg x2 → (gR u_118 x0 33) ≠ 0 ∧ kd G (gR u_118 x0 33) = 13 ∧ vp_in x1 (ln G (gR u_118 x0 33)) ∧ ∀ u_128 : Mm, u_128 = sI u_118 (gR u_118 x0 33) x1.toNatClampNeg ((gI u_118 (gR u_118 x0 33) x1.toNatClampNeg) + (1 : Int32)) → (gR u_128 x0 33) ≠ 0 ∧ kd G (gR u_128 x0 33) = 13 ∧ vp_in x1 (ln G (gR u_128 x0 33)) ∧ Q (gI u_128 (gR u_128 x0 33) x1.toNatClampNeg) u_128
def V_X12_tick_72_B (G : Gx) (Q : Int32 → Mm → Prop) (k_72 : Nat → Int32 → Int32 → Int32 → Mm → Prop) (x0 : Nat) (x1 : Int32) (x2 : Int32) (x3 : Int32) (u : Mm) : Prop :=
  ((x3 ≤ ((12 : Int32) * x1) → V_X12_tick_112 G Q x0 x1 x2 x3 u) ∧ (¬ x3 ≤ ((12 : Int32) * x1) → kd G x0 = 12 ∧ (gR u x0 35) ≠ 0 ∧ kd G (gR u x0 35) = 13 ∧ vp_in (x3 - (1 : Int32)) (ln G (gR u x0 35)) ∧ (((gI u (gR u x0 35) (x3 - (1 : Int32)).toNatClampNeg) ≤ x2 → V_X12_tick_112 G Q x0 x1 x2 x3 u) ∧ (¬ (gI u (gR u x0 35) (x3 - (1 : Int32)).toNatClampNeg) ≤ x2 → vp_in x3 (ln G (gR u x0 35)) ∧ ∀ u_105 : Mm, u_105 = sI u (gR u x0 35) x3.toNatClampNeg (gI u (gR u x0 35) (x3 - (1 : Int32)).toNatClampNeg) → ∀ x3_106 : Int32, x3_106 = x3 + (-1 : Int32) → k_72 x0 x1 x2 x3_106 u_105))))
def V_X12_tick_72 (G : Gx) (Q : Int32 → Mm → Prop) : Nat → (Nat → Int32 → Int32 → Int32 → Mm → Prop)
  | 0 => fun _ _ _ _ _ => False
  | n + 1 => fun x0 x1 x2 x3 u => V_X12_tick_72_B G Q (V_X12_tick_72 G Q n) x0 x1 x2 x3 u
def V_X12_tick_41 (G : Gx) (Q : Int32 → Mm → Prop) (x0 : Nat) (u : Mm) : Prop :=
  kd G x0 = 12 ∧ (gR u x0 10) ≠ 0 ∧ kd G (gR u x0 10) = 13 ∧ vp_in (2 : Int32) (ln G (gR u x0 10)) ∧ ∀ u_50 : Mm, u_50 = sI u (gR u x0 10) (2 : Int32).toNatClampNeg ((gI u (gR u x0 10) (2 : Int32).toNatClampNeg) + (1 : Int32)) → Q (-1 : Int32) u_50
def V_X12_tick (G : Gx) (p0 : Nat) (p1 : Int32) (p2 : Int32) (u : Mm) (Q : Int32 → Mm → Prop) : Prop :=
  kd G p0 = 12 ∧ ∀ u_2 : Mm, u_2 = sI u p0 1 (0 : Int32) → V_X12_isStation G p0 p1 u_2 (fun (v_7 : Int32) (u_7 : Mm) => ((v_7 = 0 → V_X12_fail G p0 (1 : Int32) u_7 (fun (v_15 : Int32) (u_15 : Mm) => Q v_15 u_15)) ∧ (¬ v_7 = 0 → (gR u_7 p0 33) ≠ 0 ∧ kd G (gR u_7 p0 33) = 13 ∧ vp_in p1 (ln G (gR u_7 p0 33)) ∧ (((gI u_7 (gR u_7 p0 33) p1.toNatClampNeg) = (12 : Int32) → V_X12_tick_41 G Q p0 u_7) ∧ (¬ (gI u_7 (gR u_7 p0 33) p1.toNatClampNeg) = (12 : Int32) → V_X12_isIn G p2 (0 : Int32) (9999 : Int32) u_7 (fun (v_35 : Int32) (u_35 : Mm) => ((v_35 = 0 → V_X12_tick_41 G Q p0 u_35) ∧ (¬ v_35 = 0 → (gR u_35 p0 33) ≠ 0 ∧ kd G (gR u_35 p0 33) = 13 ∧ vp_in p1 (ln G (gR u_35 p0 33)) ∧ ∀ x3_64 : Int32, x3_64 = (((12 : Int32) * p1) + (gI u_35 (gR u_35 p0 33) p1.toNatClampNeg)) → (gR u_35 p0 34) ≠ 0 ∧ kd G (gR u_35 p0 34) = 13 ∧ vp_in x3_64 (ln G (gR u_35 p0 34)) ∧ ∀ u_71 : Mm, u_71 = sI u_35 (gR u_35 p0 34) x3_64.toNatClampNeg p2 → ∃ n : Nat, V_X12_tick_72 G Q n p0 p1 p2 x3_64 u_71))))))))
set_option maxHeartbeats 4000000 in
set_option maxRecDepth 100000 in
theorem b_X12_tick_112 {G : Gx} {Q : Int32 → Mm → Prop} {p : Program} {l : Launch} {e : Env} {s : State} {m : MethodId} {args : Array Value} {below : List Frame} {meth : Method} {c : Code} (C : Cx G p s m c cX12_tick RX12 4) (hr : meth.sig.returnType = (some .int)) (hlk : meth.locks = false) {x0 : Nat} {x1 : Int32} {x2 : Int32} {x3 : Int32} {u : Mm} {H : Heap} {locs : List Loc} {ls : Array Slot} (h : V_X12_tick_112 G Q x0 x1 x2 x3 u) (hl : lv_has ls 4 [(0, .ref x0), (1, .int x1), (2, .int x2), (3, .int x3)]) (hP : Hp G u s H locs) : W p l e rm_X12_tick s m args below meth c H locs 0 0 (MQ below (Ei G Q) args s 0 0 (ag G)) (F0 m 112 ls []) := by
  have hx := C.1
  have hb := C.2.1
  unfold V_X12_tick_112 at h
  refine lv_aload_n hx hb dX12_tick_112 rfl (lv_at hl 0 rfl) ?_
  obtain ⟨g1, h⟩ := h
  obtain ⟨g2, h⟩ := h
  refine q_getR C hP (k := 35) (lay_X12 C.hA) rfl (by decide) g1 g2 (fl_X12_88 C.hA) dX12_tick_113 ?_
  refine lv_iload_n hx hb dX12_tick_116 rfl (lv_at hl 3 rfl) ?_
  refine lv_iload_n hx hb dX12_tick_117 rfl (lv_at hl 2 rfl) ?_
  obtain ⟨g3, h⟩ := h
  obtain ⟨g4, h⟩ := h
  refine q_iast C hP g3 g4 dX12_tick_118 (fun H locs hP => ?_)
  obtain ⟨u_118, eu_118, hP⟩ := Hp.nm hP
  have h := h u_118 eu_118
  refine lv_aload_n hx hb dX12_tick_119 rfl (lv_at hl 0 rfl) ?_
  obtain ⟨g5, h⟩ := h
  refine q_getR C hP (k := 33) (lay_X12 C.hA) rfl (by decide) g1 g5 (fl_X12_82 C.hA) dX12_tick_120 ?_
  refine lv_iload_n hx hb dX12_tick_123 rfl (lv_at hl 1 rfl) ?_
  refine lv_dup2_11 hx hb dX12_tick_124 rfl rfl ?_
  obtain ⟨g6, h⟩ := h
  obtain ⟨g7, h⟩ := h
  refine q_iald C hP g6 g7 dX12_tick_125 ?_
  refine lv_iconst (v := (1 : Int32)) hx hb dX12_tick_126 (by decide) ?_
  refine lv_iadd hx hb dX12_tick_127 ?_
  refine q_iast C hP g6 g7 dX12_tick_128 (fun H locs hP => ?_)
  obtain ⟨u_128, eu_128, hP⟩ := Hp.nm hP
  have h := h u_128 eu_128
  refine lv_aload_n hx hb dX12_tick_129 rfl (lv_at hl 0 rfl) ?_
  obtain ⟨g8, h⟩ := h
  refine q_getR C hP (k := 33) (lay_X12 C.hA) rfl (by decide) g1 g8 (fl_X12_82 C.hA) dX12_tick_130 ?_
  refine lv_iload_n hx hb dX12_tick_133 rfl (lv_at hl 1 rfl) ?_
  obtain ⟨g9, h⟩ := h
  obtain ⟨g10, h⟩ := h
  refine q_iald C hP g9 g10 dX12_tick_134 ?_
  exact q_iret C hr hlk hP h (by decide) (by decide) dX12_tick_135
set_option maxHeartbeats 4000000 in
set_option maxRecDepth 100000 in
theorem b_X12_tick_72 {G : Gx} {Q : Int32 → Mm → Prop} {p : Program} {l : Launch} {e : Env} {s : State} {m : MethodId} {args : Array Value} {below : List Frame} {meth : Method} {c : Code} (C : Cx G p s m c cX12_tick RX12 4) (hr : meth.sig.returnType = (some .int)) (hlk : meth.locks = false) {k_72 : Nat → Int32 → Int32 → Int32 → Mm → Prop} (hk_72 : ∀ (x0 : Nat) (x1 : Int32) (x2 : Int32) (x3 : Int32) (u : Mm) (H : Heap) (locs : List Loc) (ls : Array Slot), k_72 x0 x1 x2 x3 u → lv_has ls 4 [(0, .ref x0), (1, .int x1), (2, .int x2), (3, .int x3)] → Hp G u s H locs → W p l e rm_X12_tick s m args below meth c H locs 0 0 (MQ below (Ei G Q) args s 0 0 (ag G)) (F0 m 72 ls [])) {x0 : Nat} {x1 : Int32} {x2 : Int32} {x3 : Int32} {u : Mm} {H : Heap} {locs : List Loc} {ls : Array Slot} (h : V_X12_tick_72_B G Q k_72 x0 x1 x2 x3 u) (hl : lv_has ls 4 [(0, .ref x0), (1, .int x1), (2, .int x2), (3, .int x3)]) (hP : Hp G u s H locs) : W p l e rm_X12_tick s m args below meth c H locs 0 0 (MQ below (Ei G Q) args s 0 0 (ag G)) (F0 m 72 ls []) := by
  have hx := C.1
  have hb := C.2.1
  unfold V_X12_tick_72_B at h
  refine lv_iload_n hx hb dX12_tick_72 rfl (lv_at hl 3 rfl) ?_
  refine lv_bipush (v := (12 : Int32)) hx hb dX12_tick_73 (by decide) ?_
  refine lv_iload_n hx hb dX12_tick_75 rfl (lv_at hl 1 rfl) ?_
  refine lv_imul hx hb dX12_tick_76 ?_
  refine lv_icmp_le (tgt := 112) hx hb dX12_tick_77 (by decide) (fun c77 => ?_) (fun c77 => ?_)
  · have h := h.1 c77
    exact b_X12_tick_112 C hr hlk h (lv_sub hl [0, 1, 2, 3] rfl) hP
  · have h := h.2 c77
    refine lv_aload_n hx hb dX12_tick_80 rfl (lv_at hl 0 rfl) ?_
    obtain ⟨g1, h⟩ := h
    obtain ⟨g2, h⟩ := h
    refine q_getR C hP (k := 35) (lay_X12 C.hA) rfl (by decide) g1 g2 (fl_X12_88 C.hA) dX12_tick_81 ?_
    refine lv_iload_n hx hb dX12_tick_84 rfl (lv_at hl 3 rfl) ?_
    refine lv_iconst (v := (1 : Int32)) hx hb dX12_tick_85 (by decide) ?_
    refine lv_isub hx hb dX12_tick_86 ?_
    obtain ⟨g3, h⟩ := h
    obtain ⟨g4, h⟩ := h
    refine q_iald C hP g3 g4 dX12_tick_87 ?_
    refine lv_iload_n hx hb dX12_tick_88 rfl (lv_at hl 2 rfl) ?_
    refine lv_icmp_le (tgt := 112) hx hb dX12_tick_89 (by decide) (fun c89 => ?_) (fun c89 => ?_)
    · have h := h.1 c89
      exact b_X12_tick_112 C hr hlk h (lv_sub hl [0, 1, 2, 3] rfl) hP
    · have h := h.2 c89
      refine lv_aload_n hx hb dX12_tick_92 rfl (lv_at hl 0 rfl) ?_
      refine q_getR C hP (k := 35) (lay_X12 C.hA) rfl (by decide) g1 g2 (fl_X12_88 C.hA) dX12_tick_93 ?_
      refine lv_iload_n hx hb dX12_tick_96 rfl (lv_at hl 3 rfl) ?_
      refine lv_aload_n hx hb dX12_tick_97 rfl (lv_at hl 0 rfl) ?_
      refine q_getR C hP (k := 35) (lay_X12 C.hA) rfl (by decide) g1 g2 (fl_X12_88 C.hA) dX12_tick_98 ?_
      refine lv_iload_n hx hb dX12_tick_101 rfl (lv_at hl 3 rfl) ?_
      refine lv_iconst (v := (1 : Int32)) hx hb dX12_tick_102 (by decide) ?_
      refine lv_isub hx hb dX12_tick_103 ?_
      refine q_iald C hP g3 g4 dX12_tick_104 ?_
      obtain ⟨g5, h⟩ := h
      refine q_iast C hP g3 g5 dX12_tick_105 (fun H locs hP => ?_)
      obtain ⟨u_105, eu_105, hP⟩ := Hp.nm hP
      have h := h u_105 eu_105
      obtain ⟨x3_106, ex3_106⟩ : ∃ y : Int32, y = x3 + (-1 : Int32) := ⟨_, rfl⟩
      have h := h x3_106 ex3_106
      refine lv_iinc (v := x3_106) (lv' := [(3, .int x3_106), (0, .ref x0), (1, .int x1), (2, .int x2)]) hx hb dX12_tick_106 hl (k := 3) rfl (by rw [ex3_106]; rfl) (by decide) rfl (fun ls hl => ?_)
      refine lv_goto (tgt := 72) hx hb dX12_tick_109 (by decide) ?_
      exact hk_72 x0 x1 x2 x3_106 u_105 _ _ _ h (lv_sub hl [1, 2, 3, 0] rfl) hP
theorem l_X12_tick_72 {G : Gx} {Q : Int32 → Mm → Prop} {p : Program} {l : Launch} {e : Env} {s : State} {m : MethodId} {args : Array Value} {below : List Frame} {meth : Method} {c : Code} (C : Cx G p s m c cX12_tick RX12 4) (hr : meth.sig.returnType = (some .int)) (hlk : meth.locks = false) : ∀ (n : Nat) (x0 : Nat) (x1 : Int32) (x2 : Int32) (x3 : Int32) (u : Mm) (H : Heap) (locs : List Loc) (ls : Array Slot), V_X12_tick_72 G Q n x0 x1 x2 x3 u → lv_has ls 4 [(0, .ref x0), (1, .int x1), (2, .int x2), (3, .int x3)] → Hp G u s H locs → W p l e rm_X12_tick s m args below meth c H locs 0 0 (MQ below (Ei G Q) args s 0 0 (ag G)) (F0 m 72 ls []) := by
  intro n
  induction n with
  | zero => intro x0 x1 x2 x3 u H locs ls h; exact h.elim
  | succ n ih => intro x0 x1 x2 x3 u H locs ls h hl hP; exact b_X12_tick_72 C hr hlk ih h hl hP
set_option maxHeartbeats 4000000 in
set_option maxRecDepth 100000 in
theorem b_X12_tick_41 {G : Gx} {Q : Int32 → Mm → Prop} {p : Program} {l : Launch} {e : Env} {s : State} {m : MethodId} {args : Array Value} {below : List Frame} {meth : Method} {c : Code} (C : Cx G p s m c cX12_tick RX12 4) (hr : meth.sig.returnType = (some .int)) (hlk : meth.locks = false) {x0 : Nat} {u : Mm} {H : Heap} {locs : List Loc} {ls : Array Slot} (h : V_X12_tick_41 G Q x0 u) (hl : lv_has ls 4 [(0, .ref x0)]) (hP : Hp G u s H locs) : W p l e rm_X12_tick s m args below meth c H locs 0 0 (MQ below (Ei G Q) args s 0 0 (ag G)) (F0 m 41 ls []) := by
  have hx := C.1
  have hb := C.2.1
  unfold V_X12_tick_41 at h
  refine lv_aload_n hx hb dX12_tick_41 rfl (lv_at hl 0 rfl) ?_
  obtain ⟨g1, h⟩ := h
  obtain ⟨g2, h⟩ := h
  refine q_getR C hP (k := 10) (lay_X12 C.hA) rfl (by decide) g1 g2 (fl_X12_48 C.hA) dX12_tick_42 ?_
  refine lv_iconst (v := (2 : Int32)) hx hb dX12_tick_45 (by decide) ?_
  refine lv_dup2_11 hx hb dX12_tick_46 rfl rfl ?_
  obtain ⟨g3, h⟩ := h
  obtain ⟨g4, h⟩ := h
  refine q_iald C hP g3 g4 dX12_tick_47 ?_
  refine lv_iconst (v := (1 : Int32)) hx hb dX12_tick_48 (by decide) ?_
  refine lv_iadd hx hb dX12_tick_49 ?_
  refine q_iast C hP g3 g4 dX12_tick_50 (fun H locs hP => ?_)
  obtain ⟨u_50, eu_50, hP⟩ := Hp.nm hP
  have h := h u_50 eu_50
  refine lv_iconst (v := (-1 : Int32)) hx hb dX12_tick_51 (by decide) ?_
  exact q_iret C hr hlk hP h (by decide) (by decide) dX12_tick_52
set_option maxHeartbeats 4000000 in
set_option maxRecDepth 100000 in
theorem c_X12_tick {l : Launch} {G : Gx} {p0 : Nat} {p1 : Int32} {p2 : Int32} {u : Mm} {Q : Int32 → Mm → Prop} (h : V_X12_tick G p0 p1 p2 u Q) : Met l yX12_tick [.code yX12_tick cX12_tick 4 (some .int)] rm_X12_tick (va_Pc [.ref p0, .int p1, .int p2] (Wd G u)) (Ei G Q) 0 0 (ag G) := by
  refine q_met (by decide) (Nat.le_of_ble_eq_true rfl) ?_
  intro p e s m below meth c ls C hr hlk hnm hl hP
  have hl : lv_has ls 4 [(0, .ref p0), (1, .int p1), (2, .int p2)] := hl
  generalize ([.ref p0, .int p1, .int p2] : List Value).toArray = args
  have hx := C.1
  have hb := C.2.1
  unfold V_X12_tick at h
  refine lv_aload_n hx hb dX12_tick_0 rfl (lv_at hl 0 rfl) ?_
  refine lv_iconst (v := (0 : Int32)) hx hb dX12_tick_1 (by decide) ?_
  obtain ⟨g1, h⟩ := h
  refine q_putI C hP (k := 1) tyX12_ok nmX12 (lay_X12 C.hA) rfl (by decide) rfl rfl rfl rfl g1 (fl_X12_147 C.hA) dX12_tick_2 (fun H locs hP => ?_)
  obtain ⟨u_2, eu_2, hP⟩ := Hp.nm hP
  have h := h u_2 eu_2
  refine lv_aload_n hx hb dX12_tick_5 rfl (lv_at hl 0 rfl) ?_
  refine lv_iload_n hx hb dX12_tick_6 rfl (lv_at hl 1 rfl) ?_
  refine q_cali (q_runV C hP (c_X12_isStation h) (cd_X12_isStation C.hA) (ini_X12 C.hA) (ml_X12_342 C.hA) (im_X12_isStation C.hA) (sl_X12_isStation C.hA) g1 (by decide) rfl hd_X12_isStation ⟨rfl, rfl⟩ ⟨Nat.le_of_ble_eq_true rfl, Nat.le_of_ble_eq_true rfl⟩ ⟨Nat.le_of_ble_eq_true rfl, Nat.le_of_ble_eq_true rfl⟩ hl.1 rfl (Nat.le_of_ble_eq_true rfl) dX12_tick_7) hP (fun v_7 u_7 H locs h hP => ?_)
  refine lv_if_ne (tgt := 19) hx hb dX12_tick_10 (by decide) (fun c10 => ?_) (fun c10 => ?_)
  · have h := h.2 c10
    refine lv_aload_n hx hb dX12_tick_19 rfl (lv_at hl 0 rfl) ?_
    obtain ⟨g2, h⟩ := h
    refine q_getR C hP (k := 33) (lay_X12 C.hA) rfl (by decide) g1 g2 (fl_X12_82 C.hA) dX12_tick_20 ?_
    refine lv_iload_n hx hb dX12_tick_23 rfl (lv_at hl 1 rfl) ?_
    obtain ⟨g3, h⟩ := h
    obtain ⟨g4, h⟩ := h
    refine q_iald C hP g3 g4 dX12_tick_24 ?_
    refine lv_bipush (v := (12 : Int32)) hx hb dX12_tick_25 (by decide) ?_
    refine lv_icmp_eq (tgt := 41) hx hb dX12_tick_27 (by decide) (fun c27 => ?_) (fun c27 => ?_)
    · have h := h.1 c27
      exact b_X12_tick_41 C hr hlk h (lv_sub hl [0] rfl) hP
    · have h := h.2 c27
      refine lv_iload_n hx hb dX12_tick_30 rfl (lv_at hl 2 rfl) ?_
      refine lv_iconst (v := (0 : Int32)) hx hb dX12_tick_31 (by decide) ?_
      refine lv_sipush (v := (9999 : Int32)) hx hb dX12_tick_32 (by decide) ?_
      refine q_cali (q_runS C hP (c_X12_isIn h) (cd_X12_isIn C.hA) (ini_X12 C.hA) (ml_X12_150 C.hA) (st_X12_isIn C.hA) hd_X12_isIn ⟨rfl, rfl⟩ ⟨Nat.le_of_ble_eq_true rfl, Nat.le_of_ble_eq_true rfl⟩ ⟨Nat.le_of_ble_eq_true rfl, Nat.le_of_ble_eq_true rfl⟩ hl.1 rfl (Nat.le_of_ble_eq_true rfl) dX12_tick_35) hP (fun v_35 u_35 H locs h hP => ?_)
      refine lv_if_ne (tgt := 53) hx hb dX12_tick_38 (by decide) (fun c38 => ?_) (fun c38 => ?_)
      · have h := h.2 c38
        refine lv_bipush (v := (12 : Int32)) hx hb dX12_tick_53 (by decide) ?_
        refine lv_iload_n hx hb dX12_tick_55 rfl (lv_at hl 1 rfl) ?_
        refine lv_imul hx hb dX12_tick_56 ?_
        refine lv_aload_n hx hb dX12_tick_57 rfl (lv_at hl 0 rfl) ?_
        obtain ⟨g5, h⟩ := h
        refine q_getR C hP (k := 33) (lay_X12 C.hA) rfl (by decide) g1 g5 (fl_X12_82 C.hA) dX12_tick_58 ?_
        refine lv_iload_n hx hb dX12_tick_61 rfl (lv_at hl 1 rfl) ?_
        obtain ⟨g6, h⟩ := h
        obtain ⟨g7, h⟩ := h
        refine q_iald C hP g6 g7 dX12_tick_62 ?_
        refine lv_iadd hx hb dX12_tick_63 ?_
        refine lv_topi (fun x3_64 ex3_64 => ?_)
        have h := h x3_64 ex3_64
        refine lv_istore_n (lv' := [(3, .int x3_64), (0, .ref p0), (1, .int p1), (2, .int p2)]) hx hb dX12_tick_64 rfl hl (by decide) rfl (fun ls hl => ?_)
        refine lv_aload_n hx hb dX12_tick_65 rfl (lv_at hl 1 rfl) ?_
        obtain ⟨g8, h⟩ := h
        refine q_getR C hP (k := 34) (lay_X12 C.hA) rfl (by decide) g1 g8 (fl_X12_85 C.hA) dX12_tick_66 ?_
        refine lv_iload_n hx hb dX12_tick_69 rfl (lv_at hl 0 rfl) ?_
        refine lv_iload_n hx hb dX12_tick_70 rfl (lv_at hl 3 rfl) ?_
        obtain ⟨g9, h⟩ := h
        obtain ⟨g10, h⟩ := h
        refine q_iast C hP g9 g10 dX12_tick_71 (fun H locs hP => ?_)
        obtain ⟨u_71, eu_71, hP⟩ := Hp.nm hP
        have h := h u_71 eu_71
        obtain ⟨n, h⟩ := h
        exact l_X12_tick_72 C hr hlk n p0 p1 p2 x3_64 u_71 _ _ _ h (lv_sub hl [1, 2, 3, 0] rfl) hP
      · have h := h.1 c38
        exact b_X12_tick_41 C hr hlk h (lv_sub hl [0] rfl) hP
  · have h := h.1 c10
    refine lv_aload_n hx hb dX12_tick_13 rfl (lv_at hl 0 rfl) ?_
    refine lv_iconst (v := (1 : Int32)) hx hb dX12_tick_14 (by decide) ?_
    refine q_cali (q_runV C hP (c_X12_fail h) (cd_X12_fail C.hA) (ini_X12 C.hA) (ml_X12_249 C.hA) (im_X12_fail C.hA) (sl_X12_fail C.hA) g1 (by decide) rfl hd_X12_fail ⟨rfl, rfl⟩ ⟨Nat.le_of_ble_eq_true rfl, Nat.le_of_ble_eq_true rfl⟩ ⟨Nat.le_of_ble_eq_true rfl, Nat.le_of_ble_eq_true rfl⟩ hl.1 rfl (Nat.le_of_ble_eq_true rfl) dX12_tick_15) hP (fun v_15 u_15 H locs h hP => ?_)
    exact q_iret C hr hlk hP h (by decide) (by decide) dX12_tick_18
-- X12_told
abbrev rm_X12_told : Room := { frames := 2, cells := 0, slots := 0, locals := 43 }
theorem hd_X12_told : yX12_told.cls ≠ "java/lang/invoke/MethodHandle" ∧ yX12_told.cls ≠ "java/lang/invoke/VarHandle" ∧ (parseMethodDescriptor yX12_told.desc).map (fun d => d.parameters.length) = some 2 := by decide +kernel
def V_X12_told (G : Gx) (p0 : Nat) (p1 : Int32) (p2 : Int32) (u : Mm) (Q : Int32 → Mm → Prop) : Prop :=
  kd G p0 = 12 ∧ ∀ u_2 : Mm, u_2 = sI u p0 1 (0 : Int32) → V_X12_isStation G p0 p1 u_2 (fun (v_7 : Int32) (u_7 : Mm) => ((v_7 = 0 → V_X12_fail G p0 (1 : Int32) u_7 (fun (v_15 : Int32) (u_15 : Mm) => Q v_15 u_15)) ∧ (¬ v_7 = 0 → ((p2 < (10 : Int32) → ((p2 = (0 : Int32) → (gR u_7 p0 29) ≠ 0 ∧ kd G (gR u_7 p0 29) = 13 ∧ vp_in p1 (ln G (gR u_7 p0 29)) ∧ Q (gI u_7 (gR u_7 p0 29) p1.toNatClampNeg) u_7) ∧ (p2 = (1 : Int32) → (gR u_7 p0 30) ≠ 0 ∧ kd G (gR u_7 p0 30) = 13 ∧ vp_in p1 (ln G (gR u_7 p0 30)) ∧ Q (gI u_7 (gR u_7 p0 30) p1.toNatClampNeg) u_7) ∧ (p2 = (2 : Int32) → (gR u_7 p0 31) ≠ 0 ∧ kd G (gR u_7 p0 31) = 13 ∧ vp_in p1 (ln G (gR u_7 p0 31)) ∧ Q (gI u_7 (gR u_7 p0 31) p1.toNatClampNeg) u_7) ∧ (p2 = (3 : Int32) → (gR u_7 p0 32) ≠ 0 ∧ kd G (gR u_7 p0 32) = 13 ∧ vp_in p1 (ln G (gR u_7 p0 32)) ∧ Q (gI u_7 (gR u_7 p0 32) p1.toNatClampNeg) u_7) ∧ (p2 = (4 : Int32) → (gR u_7 p0 33) ≠ 0 ∧ kd G (gR u_7 p0 33) = 13 ∧ vp_in p1 (ln G (gR u_7 p0 33)) ∧ Q (gI u_7 (gR u_7 p0 33) p1.toNatClampNeg) u_7) ∧ (¬ p2 = (0 : Int32) ∧ ¬ p2 = (1 : Int32) ∧ ¬ p2 = (2 : Int32) ∧ ¬ p2 = (3 : Int32) ∧ ¬ p2 = (4 : Int32) → V_X12_fail G p0 (1 : Int32) u_7 (fun (v_133 : Int32) (u_133 : Mm) => Q v_133 u_133)))) ∧ (¬ p2 < (10 : Int32) → (gR u_7 p0 33) ≠ 0 ∧ kd G (gR u_7 p0 33) = 13 ∧ vp_in p1 (ln G (gR u_7 p0 33)) ∧ (((gI u_7 (gR u_7 p0 33) p1.toNatClampNeg) ≤ (p2 - (10 : Int32)) → V_X12_fail G p0 (1 : Int32) u_7 (fun (v_57 : Int32) (u_57 : Mm) => Q v_57 u_57)) ∧ (¬ (gI u_7 (gR u_7 p0 33) p1.toNatClampNeg) ≤ (p2 - (10 : Int32)) → (gR u_7 p0 34) ≠ 0 ∧ kd G (gR u_7 p0 34) = 13 ∧ vp_in ((((12 : Int32) * p1) + p2) - (10 : Int32)) (ln G (gR u_7 p0 34)) ∧ Q (gI u_7 (gR u_7 p0 34) ((((12 : Int32) * p1) + p2) - (10 : Int32)).toNatClampNeg) u_7)))))))
set_option maxHeartbeats 4000000 in
set_option maxRecDepth 100000 in
theorem c_X12_told {l : Launch} {G : Gx} {p0 : Nat} {p1 : Int32} {p2 : Int32} {u : Mm} {Q : Int32 → Mm → Prop} (h : V_X12_told G p0 p1 p2 u Q) : Met l yX12_told [.code yX12_told cX12_told 3 (some .int)] rm_X12_told (va_Pc [.ref p0, .int p1, .int p2] (Wd G u)) (Ei G Q) 0 0 (ag G) := by
  refine q_met (by decide) (Nat.le_of_ble_eq_true rfl) ?_
  intro p e s m below meth c ls C hr hlk hnm hl hP
  have hl : lv_has ls 3 [(0, .ref p0), (1, .int p1), (2, .int p2)] := hl
  generalize ([.ref p0, .int p1, .int p2] : List Value).toArray = args
  have hx := C.1
  have hb := C.2.1
  unfold V_X12_told at h
  refine lv_aload_n hx hb dX12_told_0 rfl (lv_at hl 0 rfl) ?_
  refine lv_iconst (v := (0 : Int32)) hx hb dX12_told_1 (by decide) ?_
  obtain ⟨g1, h⟩ := h
  refine q_putI C hP (k := 1) tyX12_ok nmX12 (lay_X12 C.hA) rfl (by decide) rfl rfl rfl rfl g1 (fl_X12_147 C.hA) dX12_told_2 (fun H locs hP => ?_)
  obtain ⟨u_2, eu_2, hP⟩ := Hp.nm hP
  have h := h u_2 eu_2
  refine lv_aload_n hx hb dX12_told_5 rfl (lv_at hl 0 rfl) ?_
  refine lv_iload_n hx hb dX12_told_6 rfl (lv_at hl 1 rfl) ?_
  refine q_cali (q_runV C hP (c_X12_isStation h) (cd_X12_isStation C.hA) (ini_X12 C.hA) (ml_X12_342 C.hA) (im_X12_isStation C.hA) (sl_X12_isStation C.hA) g1 (by decide) rfl hd_X12_isStation ⟨rfl, rfl⟩ ⟨Nat.le_of_ble_eq_true rfl, Nat.le_of_ble_eq_true rfl⟩ ⟨Nat.le_of_ble_eq_true rfl, Nat.le_of_ble_eq_true rfl⟩ hl.1 rfl (Nat.le_of_ble_eq_true rfl) dX12_told_7) hP (fun v_7 u_7 H locs h hP => ?_)
  refine lv_if_ne (tgt := 19) hx hb dX12_told_10 (by decide) (fun c10 => ?_) (fun c10 => ?_)
  · have h := h.2 c10
    refine lv_iload_n hx hb dX12_told_19 rfl (lv_at hl 2 rfl) ?_
    refine lv_bipush (v := (10 : Int32)) hx hb dX12_told_20 (by decide) ?_
    refine lv_icmp_lt (tgt := 61) hx hb dX12_told_22 (by decide) (fun c22 => ?_) (fun c22 => ?_)
    · have h := h.1 c22
      refine lv_iload_n hx hb dX12_told_61 rfl (lv_at hl 2 rfl) ?_
      by_cases c62_0 : p2 = (0 : Int32)
      · have h := h.1 c62_0
        refine lv_tableIn (tgt := 96) (off := 34) hx hb dX12_told_62 (by rw [c62_0]; decide) (by rw [c62_0]; decide) (by rw [c62_0]; rfl) (by decide) ?_
        refine lv_aload_n hx hb dX12_told_96 rfl (lv_at hl 0 rfl) ?_
        obtain ⟨g2, h⟩ := h
        refine q_getR C hP (k := 29) (lay_X12 C.hA) rfl (by decide) g1 g2 (fl_X12_70 C.hA) dX12_told_97 ?_
        refine lv_iload_n hx hb dX12_told_100 rfl (lv_at hl 1 rfl) ?_
        obtain ⟨g3, h⟩ := h
        obtain ⟨g4, h⟩ := h
        refine q_iald C hP g3 g4 dX12_told_101 ?_
        exact q_iret C hr hlk hP h (by decide) (by decide) dX12_told_102
      have h := h.2
      by_cases c62_1 : p2 = (1 : Int32)
      · have h := h.1 c62_1
        refine lv_tableIn (tgt := 103) (off := 41) hx hb dX12_told_62 (by rw [c62_1]; decide) (by rw [c62_1]; decide) (by rw [c62_1]; rfl) (by decide) ?_
        refine lv_aload_n hx hb dX12_told_103 rfl (lv_at hl 0 rfl) ?_
        obtain ⟨g5, h⟩ := h
        refine q_getR C hP (k := 30) (lay_X12 C.hA) rfl (by decide) g1 g5 (fl_X12_73 C.hA) dX12_told_104 ?_
        refine lv_iload_n hx hb dX12_told_107 rfl (lv_at hl 1 rfl) ?_
        obtain ⟨g6, h⟩ := h
        obtain ⟨g7, h⟩ := h
        refine q_iald C hP g6 g7 dX12_told_108 ?_
        exact q_iret C hr hlk hP h (by decide) (by decide) dX12_told_109
      have h := h.2
      by_cases c62_2 : p2 = (2 : Int32)
      · have h := h.1 c62_2
        refine lv_tableIn (tgt := 110) (off := 48) hx hb dX12_told_62 (by rw [c62_2]; decide) (by rw [c62_2]; decide) (by rw [c62_2]; rfl) (by decide) ?_
        refine lv_aload_n hx hb dX12_told_110 rfl (lv_at hl 0 rfl) ?_
        obtain ⟨g8, h⟩ := h
        refine q_getR C hP (k := 31) (lay_X12 C.hA) rfl (by decide) g1 g8 (fl_X12_76 C.hA) dX12_told_111 ?_
        refine lv_iload_n hx hb dX12_told_114 rfl (lv_at hl 1 rfl) ?_
        obtain ⟨g9, h⟩ := h
        obtain ⟨g10, h⟩ := h
        refine q_iald C hP g9 g10 dX12_told_115 ?_
        exact q_iret C hr hlk hP h (by decide) (by decide) dX12_told_116
      have h := h.2
      by_cases c62_3 : p2 = (3 : Int32)
      · have h := h.1 c62_3
        refine lv_tableIn (tgt := 117) (off := 55) hx hb dX12_told_62 (by rw [c62_3]; decide) (by rw [c62_3]; decide) (by rw [c62_3]; rfl) (by decide) ?_
        refine lv_aload_n hx hb dX12_told_117 rfl (lv_at hl 0 rfl) ?_
        obtain ⟨g11, h⟩ := h
        refine q_getR C hP (k := 32) (lay_X12 C.hA) rfl (by decide) g1 g11 (fl_X12_79 C.hA) dX12_told_118 ?_
        refine lv_iload_n hx hb dX12_told_121 rfl (lv_at hl 1 rfl) ?_
        obtain ⟨g12, h⟩ := h
        obtain ⟨g13, h⟩ := h
        refine q_iald C hP g12 g13 dX12_told_122 ?_
        exact q_iret C hr hlk hP h (by decide) (by decide) dX12_told_123
      have h := h.2
      by_cases c62_4 : p2 = (4 : Int32)
      · have h := h.1 c62_4
        refine lv_tableIn (tgt := 124) (off := 62) hx hb dX12_told_62 (by rw [c62_4]; decide) (by rw [c62_4]; decide) (by rw [c62_4]; rfl) (by decide) ?_
        refine lv_aload_n hx hb dX12_told_124 rfl (lv_at hl 0 rfl) ?_
        obtain ⟨g14, h⟩ := h
        refine q_getR C hP (k := 33) (lay_X12 C.hA) rfl (by decide) g1 g14 (fl_X12_82 C.hA) dX12_told_125 ?_
        refine lv_iload_n hx hb dX12_told_128 rfl (lv_at hl 1 rfl) ?_
        obtain ⟨g15, h⟩ := h
        obtain ⟨g16, h⟩ := h
        refine q_iald C hP g15 g16 dX12_told_129 ?_
        exact q_iret C hr hlk hP h (by decide) (by decide) dX12_told_130
      have h := h.2
      have h := h ⟨c62_0, c62_1, c62_2, c62_3, c62_4⟩
      refine lv_tableOut (tgt := 131) hx hb dX12_told_62 (by have := lv_neT c62_0 (a := 0) (by decide); have := lv_neT c62_1 (a := 1) (by decide); have := lv_neT c62_2 (a := 2) (by decide); have := lv_neT c62_3 (a := 3) (by decide); have := lv_neT c62_4 (a := 4) (by decide); omega) (by decide) ?_
      refine lv_aload_n hx hb dX12_told_131 rfl (lv_at hl 0 rfl) ?_
      refine lv_iconst (v := (1 : Int32)) hx hb dX12_told_132 (by decide) ?_
      refine q_cali (q_runV C hP (c_X12_fail h) (cd_X12_fail C.hA) (ini_X12 C.hA) (ml_X12_249 C.hA) (im_X12_fail C.hA) (sl_X12_fail C.hA) g1 (by decide) rfl hd_X12_fail ⟨rfl, rfl⟩ ⟨Nat.le_of_ble_eq_true rfl, Nat.le_of_ble_eq_true rfl⟩ ⟨Nat.le_of_ble_eq_true rfl, Nat.le_of_ble_eq_true rfl⟩ hl.1 rfl (Nat.le_of_ble_eq_true rfl) dX12_told_133) hP (fun v_133 u_133 H locs h hP => ?_)
      exact q_iret C hr hlk hP h (by decide) (by decide) dX12_told_136
    · have h := h.2 c22
      refine lv_iload_n hx hb dX12_told_25 rfl (lv_at hl 2 rfl) ?_
      refine lv_bipush (v := (10 : Int32)) hx hb dX12_told_26 (by decide) ?_
      refine lv_isub hx hb dX12_told_28 ?_
      refine lv_aload_n hx hb dX12_told_29 rfl (lv_at hl 0 rfl) ?_
      obtain ⟨g17, h⟩ := h
      refine q_getR C hP (k := 33) (lay_X12 C.hA) rfl (by decide) g1 g17 (fl_X12_82 C.hA) dX12_told_30 ?_
      refine lv_iload_n hx hb dX12_told_33 rfl (lv_at hl 1 rfl) ?_
      obtain ⟨g18, h⟩ := h
      obtain ⟨g19, h⟩ := h
      refine q_iald C hP g18 g19 dX12_told_34 ?_
      refine lv_icmp_ge (tgt := 55) hx hb dX12_told_35 (by decide) (fun c35 => ?_) (fun c35 => ?_)
      · have h := h.1 c35
        refine lv_aload_n hx hb dX12_told_55 rfl (lv_at hl 0 rfl) ?_
        refine lv_iconst (v := (1 : Int32)) hx hb dX12_told_56 (by decide) ?_
        refine q_cali (q_runV C hP (c_X12_fail h) (cd_X12_fail C.hA) (ini_X12 C.hA) (ml_X12_249 C.hA) (im_X12_fail C.hA) (sl_X12_fail C.hA) g1 (by decide) rfl hd_X12_fail ⟨rfl, rfl⟩ ⟨Nat.le_of_ble_eq_true rfl, Nat.le_of_ble_eq_true rfl⟩ ⟨Nat.le_of_ble_eq_true rfl, Nat.le_of_ble_eq_true rfl⟩ hl.1 rfl (Nat.le_of_ble_eq_true rfl) dX12_told_57) hP (fun v_57 u_57 H locs h hP => ?_)
        exact q_iret C hr hlk hP h (by decide) (by decide) dX12_told_60
      · have h := h.2 c35
        refine lv_aload_n hx hb dX12_told_38 rfl (lv_at hl 0 rfl) ?_
        obtain ⟨g20, h⟩ := h
        refine q_getR C hP (k := 34) (lay_X12 C.hA) rfl (by decide) g1 g20 (fl_X12_85 C.hA) dX12_told_39 ?_
        refine lv_bipush (v := (12 : Int32)) hx hb dX12_told_42 (by decide) ?_
        refine lv_iload_n hx hb dX12_told_44 rfl (lv_at hl 1 rfl) ?_
        refine lv_imul hx hb dX12_told_45 ?_
        refine lv_iload_n hx hb dX12_told_46 rfl (lv_at hl 2 rfl) ?_
        refine lv_iadd hx hb dX12_told_47 ?_
        refine lv_bipush (v := (10 : Int32)) hx hb dX12_told_48 (by decide) ?_
        refine lv_isub hx hb dX12_told_50 ?_
        obtain ⟨g21, h⟩ := h
        obtain ⟨g22, h⟩ := h
        refine q_iald C hP g21 g22 dX12_told_51 ?_
        refine lv_goto (tgt := 60) hx hb dX12_told_52 (by decide) ?_
        exact q_iret C hr hlk hP h (by decide) (by decide) dX12_told_60
  · have h := h.1 c10
    refine lv_aload_n hx hb dX12_told_13 rfl (lv_at hl 0 rfl) ?_
    refine lv_iconst (v := (1 : Int32)) hx hb dX12_told_14 (by decide) ?_
    refine q_cali (q_runV C hP (c_X12_fail h) (cd_X12_fail C.hA) (ini_X12 C.hA) (ml_X12_249 C.hA) (im_X12_fail C.hA) (sl_X12_fail C.hA) g1 (by decide) rfl hd_X12_fail ⟨rfl, rfl⟩ ⟨Nat.le_of_ble_eq_true rfl, Nat.le_of_ble_eq_true rfl⟩ ⟨Nat.le_of_ble_eq_true rfl, Nat.le_of_ble_eq_true rfl⟩ hl.1 rfl (Nat.le_of_ble_eq_true rfl) dX12_told_15) hP (fun v_15 u_15 H locs h hP => ?_)
    exact q_iret C hr hlk hP h (by decide) (by decide) dX12_told_18
-- X12_isWritten
abbrev rm_X12_isWritten : Room := { frames := 0, cells := 0, slots := 0, locals := 0 }
theorem hd_X12_isWritten : yX12_isWritten.cls ≠ "java/lang/invoke/MethodHandle" ∧ yX12_isWritten.cls ≠ "java/lang/invoke/VarHandle" ∧ (parseMethodDescriptor yX12_isWritten.desc).map (fun d => d.parameters.length) = some 1 := by decide +kernel
def V_X12_isWritten_17_B (G : Gx) (Q : Int32 → Mm → Prop) (k_17 : Nat → Int32 → Int32 → Mm → Prop) (x0 : Nat) (x1 : Int32) (x2 : Int32) (u : Mm) : Prop :=
  kd G x0 = 12 ∧ (((gI u x0 26) ≤ x2 → Q (1 : Int32) u) ∧ (¬ (gI u x0 26) ≤ x2 → (gR u x0 24) ≠ 0 ∧ kd G (gR u x0 24) = 13 ∧ vp_in x2 (ln G (gR u x0 24)) ∧ (gR u x0 35) ≠ 0 ∧ kd G (gR u x0 35) = 13 ∧ vp_in (((12 : Int32) * x1) + x2) (ln G (gR u x0 35)) ∧ (((gI u (gR u x0 24) x2.toNatClampNeg) = (gI u (gR u x0 35) (((12 : Int32) * x1) + x2).toNatClampNeg) → ∀ x2_47 : Int32, x2_47 = x2 + (1 : Int32) → k_17 x0 x1 x2_47 u) ∧ (¬ (gI u (gR u x0 24) x2.toNatClampNeg) = (gI u (gR u x0 35) (((12 : Int32) * x1) + x2).toNatClampNeg) → Q (0 : Int32) u))))
def V_X12_isWritten_17 (G : Gx) (Q : Int32 → Mm → Prop) : Nat → (Nat → Int32 → Int32 → Mm → Prop)
  | 0 => fun _ _ _ _ => False
  | n + 1 => fun x0 x1 x2 u => V_X12_isWritten_17_B G Q (V_X12_isWritten_17 G Q n) x0 x1 x2 u
def V_X12_isWritten (G : Gx) (p0 : Nat) (p1 : Int32) (u : Mm) (Q : Int32 → Mm → Prop) : Prop :=
  kd G p0 = 12 ∧ (gR u p0 33) ≠ 0 ∧ kd G (gR u p0 33) = 13 ∧ vp_in p1 (ln G (gR u p0 33)) ∧ (((gI u p0 26) = (gI u (gR u p0 33) p1.toNatClampNeg) → ∃ n : Nat, V_X12_isWritten_17 G Q n p0 p1 (0 : Int32) u) ∧ (¬ (gI u p0 26) = (gI u (gR u p0 33) p1.toNatClampNeg) → Q (0 : Int32) u))
set_option maxHeartbeats 4000000 in
set_option maxRecDepth 100000 in
theorem b_X12_isWritten_17 {G : Gx} {Q : Int32 → Mm → Prop} {p : Program} {l : Launch} {e : Env} {s : State} {m : MethodId} {args : Array Value} {below : List Frame} {meth : Method} {c : Code} (C : Cx G p s m c cX12_isWritten RX12 3) (hr : meth.sig.returnType = (some .boolean)) (hlk : meth.locks = false) {k_17 : Nat → Int32 → Int32 → Mm → Prop} (hk_17 : ∀ (x0 : Nat) (x1 : Int32) (x2 : Int32) (u : Mm) (H : Heap) (locs : List Loc) (ls : Array Slot), k_17 x0 x1 x2 u → lv_has ls 3 [(0, .ref x0), (1, .int x1), (2, .int x2)] → Hp G u s H locs → W p l e rm_X12_isWritten s m args below meth c H locs 0 0 (MQ below (Ei G Q) args s 0 0 (ag G)) (F0 m 17 ls [])) {x0 : Nat} {x1 : Int32} {x2 : Int32} {u : Mm} {H : Heap} {locs : List Loc} {ls : Array Slot} (h : V_X12_isWritten_17_B G Q k_17 x0 x1 x2 u) (hl : lv_has ls 3 [(0, .ref x0), (1, .int x1), (2, .int x2)]) (hP : Hp G u s H locs) : W p l e rm_X12_isWritten s m args below meth c H locs 0 0 (MQ below (Ei G Q) args s 0 0 (ag G)) (F0 m 17 ls []) := by
  have hx := C.1
  have hb := C.2.1
  unfold V_X12_isWritten_17_B at h
  refine lv_iload_n hx hb dX12_isWritten_17 rfl (lv_at hl 2 rfl) ?_
  refine lv_aload_n hx hb dX12_isWritten_18 rfl (lv_at hl 0 rfl) ?_
  obtain ⟨g1, h⟩ := h
  refine q_getI C hP (k := 26) (lay_X12 C.hA) rfl (by decide) g1 (fl_X12_313 C.hA) dX12_isWritten_19 ?_
  refine lv_icmp_ge (tgt := 53) hx hb dX12_isWritten_22 (by decide) (fun c22 => ?_) (fun c22 => ?_)
  · have h := h.1 c22
    refine lv_iconst (v := (1 : Int32)) hx hb dX12_isWritten_53 (by decide) ?_
    exact q_zret C hr hlk hP (by decide) h (by decide) (by decide) dX12_isWritten_54
  · have h := h.2 c22
    refine lv_aload_n hx hb dX12_isWritten_25 rfl (lv_at hl 0 rfl) ?_
    obtain ⟨g2, h⟩ := h
    refine q_getR C hP (k := 24) (lay_X12 C.hA) rfl (by decide) g1 g2 (fl_X12_64 C.hA) dX12_isWritten_26 ?_
    refine lv_iload_n hx hb dX12_isWritten_29 rfl (lv_at hl 2 rfl) ?_
    obtain ⟨g3, h⟩ := h
    obtain ⟨g4, h⟩ := h
    refine q_iald C hP g3 g4 dX12_isWritten_30 ?_
    refine lv_aload_n hx hb dX12_isWritten_31 rfl (lv_at hl 0 rfl) ?_
    obtain ⟨g5, h⟩ := h
    refine q_getR C hP (k := 35) (lay_X12 C.hA) rfl (by decide) g1 g5 (fl_X12_88 C.hA) dX12_isWritten_32 ?_
    refine lv_bipush (v := (12 : Int32)) hx hb dX12_isWritten_35 (by decide) ?_
    refine lv_iload_n hx hb dX12_isWritten_37 rfl (lv_at hl 1 rfl) ?_
    refine lv_imul hx hb dX12_isWritten_38 ?_
    refine lv_iload_n hx hb dX12_isWritten_39 rfl (lv_at hl 2 rfl) ?_
    refine lv_iadd hx hb dX12_isWritten_40 ?_
    obtain ⟨g6, h⟩ := h
    obtain ⟨g7, h⟩ := h
    refine q_iald C hP g6 g7 dX12_isWritten_41 ?_
    refine lv_icmp_eq (tgt := 47) hx hb dX12_isWritten_42 (by decide) (fun c42 => ?_) (fun c42 => ?_)
    · have h := h.1 c42
      obtain ⟨x2_47, ex2_47⟩ : ∃ y : Int32, y = x2 + (1 : Int32) := ⟨_, rfl⟩
      have h := h x2_47 ex2_47
      refine lv_iinc (v := x2_47) (lv' := [(2, .int x2_47), (0, .ref x0), (1, .int x1)]) hx hb dX12_isWritten_47 hl (k := 2) rfl (by rw [ex2_47]; rfl) (by decide) rfl (fun ls hl => ?_)
      refine lv_goto (tgt := 17) hx hb dX12_isWritten_50 (by decide) ?_
      exact hk_17 x0 x1 x2_47 u _ _ _ h (lv_sub hl [1, 2, 0] rfl) hP
    · have h := h.2 c42
      refine lv_iconst (v := (0 : Int32)) hx hb dX12_isWritten_45 (by decide) ?_
      exact q_zret C hr hlk hP (by decide) h (by decide) (by decide) dX12_isWritten_46
theorem l_X12_isWritten_17 {G : Gx} {Q : Int32 → Mm → Prop} {p : Program} {l : Launch} {e : Env} {s : State} {m : MethodId} {args : Array Value} {below : List Frame} {meth : Method} {c : Code} (C : Cx G p s m c cX12_isWritten RX12 3) (hr : meth.sig.returnType = (some .boolean)) (hlk : meth.locks = false) : ∀ (n : Nat) (x0 : Nat) (x1 : Int32) (x2 : Int32) (u : Mm) (H : Heap) (locs : List Loc) (ls : Array Slot), V_X12_isWritten_17 G Q n x0 x1 x2 u → lv_has ls 3 [(0, .ref x0), (1, .int x1), (2, .int x2)] → Hp G u s H locs → W p l e rm_X12_isWritten s m args below meth c H locs 0 0 (MQ below (Ei G Q) args s 0 0 (ag G)) (F0 m 17 ls []) := by
  intro n
  induction n with
  | zero => intro x0 x1 x2 u H locs ls h; exact h.elim
  | succ n ih => intro x0 x1 x2 u H locs ls h hl hP; exact b_X12_isWritten_17 C hr hlk ih h hl hP
set_option maxHeartbeats 4000000 in
set_option maxRecDepth 100000 in
theorem c_X12_isWritten {l : Launch} {G : Gx} {p0 : Nat} {p1 : Int32} {u : Mm} {Q : Int32 → Mm → Prop} (h : V_X12_isWritten G p0 p1 u Q) : Met l yX12_isWritten [.code yX12_isWritten cX12_isWritten 3 (some .boolean)] rm_X12_isWritten (va_Pc [.ref p0, .int p1] (Wd G u)) (Ei G Q) 0 0 (ag G) := by
  refine q_met (by decide) (Nat.le_of_ble_eq_true rfl) ?_
  intro p e s m below meth c ls C hr hlk hnm hl hP
  have hl : lv_has ls 3 [(0, .ref p0), (1, .int p1)] := hl
  generalize ([.ref p0, .int p1] : List Value).toArray = args
  have hx := C.1
  have hb := C.2.1
  unfold V_X12_isWritten at h
  refine lv_aload_n hx hb dX12_isWritten_0 rfl (lv_at hl 0 rfl) ?_
  obtain ⟨g1, h⟩ := h
  refine q_getI C hP (k := 26) (lay_X12 C.hA) rfl (by decide) g1 (fl_X12_313 C.hA) dX12_isWritten_1 ?_
  refine lv_aload_n hx hb dX12_isWritten_4 rfl (lv_at hl 0 rfl) ?_
  obtain ⟨g2, h⟩ := h
  refine q_getR C hP (k := 33) (lay_X12 C.hA) rfl (by decide) g1 g2 (fl_X12_82 C.hA) dX12_isWritten_5 ?_
  refine lv_iload_n hx hb dX12_isWritten_8 rfl (lv_at hl 1 rfl) ?_
  obtain ⟨g3, h⟩ := h
  obtain ⟨g4, h⟩ := h
  refine q_iald C hP g3 g4 dX12_isWritten_9 ?_
  refine lv_icmp_eq (tgt := 15) hx hb dX12_isWritten_10 (by decide) (fun c10 => ?_) (fun c10 => ?_)
  · have h := h.1 c10
    refine lv_iconst (v := (0 : Int32)) hx hb dX12_isWritten_15 (by decide) ?_
    refine lv_istore_n (lv' := [(2, .int (0 : Int32)), (0, .ref p0), (1, .int p1)]) hx hb dX12_isWritten_16 rfl hl (by decide) rfl (fun ls hl => ?_)
    obtain ⟨n, h⟩ := h
    exact l_X12_isWritten_17 C hr hlk n p0 p1 (0 : Int32) u _ _ _ h (lv_sub hl [1, 2, 0] rfl) hP
  · have h := h.2 c10
    refine lv_iconst (v := (0 : Int32)) hx hb dX12_isWritten_13 (by decide) ?_
    exact q_zret C hr hlk hP (by decide) h (by decide) (by decide) dX12_isWritten_14
-- X12_fitsAt
abbrev rm_X12_fitsAt : Room := { frames := 6, cells := 0, slots := 0, locals := 174 }
theorem hd_X12_fitsAt : yX12_fitsAt.cls ≠ "java/lang/invoke/MethodHandle" ∧ yX12_fitsAt.cls ≠ "java/lang/invoke/VarHandle" ∧ (parseMethodDescriptor yX12_fitsAt.desc).map (fun d => d.parameters.length) = some 6 := by decide +kernel
def V_X12_fitsAt (G : Gx) (p0 : Nat) (p1 : Int32) (p2 : Int32) (p3 : Int32) (p4 : Int32) (p5 : Int32) (p6 : Int32) (u : Mm) (Q : Int32 → Mm → Prop) : Prop :=
  kd G p0 = 12 ∧ (gR u p0 31) ≠ 0 ∧ kd G (gR u p0 31) = 13 ∧ vp_in p3 (ln G (gR u p0 31)) ∧ (gR u p0 32) ≠ 0 ∧ kd G (gR u p0 32) = 13 ∧ vp_in p3 (ln G (gR u p0 32)) ∧ V_X12_tellRow G p0 p1 p2 p4 p5 (gI u (gR u p0 31) p3.toNatClampNeg) (gI u (gR u p0 32) p3.toNatClampNeg) p6 u (fun (u_21 : Mm) => V_X12_isWritten G p0 p3 u_21 (fun (v_26 : Int32) (u_26 : Mm) => (v_26 = 0 ∨ v_26 = 1) ∧ Q v_26 u_26))
set_option maxHeartbeats 4000000 in
set_option maxRecDepth 100000 in
theorem c_X12_fitsAt {l : Launch} {G : Gx} {p0 : Nat} {p1 : Int32} {p2 : Int32} {p3 : Int32} {p4 : Int32} {p5 : Int32} {p6 : Int32} {u : Mm} {Q : Int32 → Mm → Prop} (h : V_X12_fitsAt G p0 p1 p2 p3 p4 p5 p6 u Q) : Met l yX12_fitsAt [.code yX12_fitsAt cX12_fitsAt 7 (some .boolean)] rm_X12_fitsAt (va_Pc [.ref p0, .int p1, .int p2, .int p3, .int p4, .int p5, .int p6] (Wd G u)) (Ei G Q) 0 0 (ag G) := by
  refine q_met (by decide) (Nat.le_of_ble_eq_true rfl) ?_
  intro p e s m below meth c ls C hr hlk hnm hl hP
  have hl : lv_has ls 7 [(0, .ref p0), (1, .int p1), (2, .int p2), (3, .int p3), (4, .int p4), (5, .int p5), (6, .int p6)] := hl
  generalize ([.ref p0, .int p1, .int p2, .int p3, .int p4, .int p5, .int p6] : List Value).toArray = args
  have hx := C.1
  have hb := C.2.1
  unfold V_X12_fitsAt at h
  refine lv_aload_n hx hb dX12_fitsAt_0 rfl (lv_at hl 0 rfl) ?_
  refine lv_iload_n hx hb dX12_fitsAt_1 rfl (lv_at hl 1 rfl) ?_
  refine lv_iload_n hx hb dX12_fitsAt_2 rfl (lv_at hl 2 rfl) ?_
  refine lv_iload hx hb dX12_fitsAt_3 (lv_at hl 4 rfl) ?_
  refine lv_iload hx hb dX12_fitsAt_5 (lv_at hl 5 rfl) ?_
  refine lv_aload_n hx hb dX12_fitsAt_7 rfl (lv_at hl 0 rfl) ?_
  obtain ⟨g1, h⟩ := h
  obtain ⟨g2, h⟩ := h
  refine q_getR C hP (k := 31) (lay_X12 C.hA) rfl (by decide) g1 g2 (fl_X12_76 C.hA) dX12_fitsAt_8 ?_
  refine lv_iload_n hx hb dX12_fitsAt_11 rfl (lv_at hl 3 rfl) ?_
  obtain ⟨g3, h⟩ := h
  obtain ⟨g4, h⟩ := h
  refine q_iald C hP g3 g4 dX12_fitsAt_12 ?_
  refine lv_aload_n hx hb dX12_fitsAt_13 rfl (lv_at hl 0 rfl) ?_
  obtain ⟨g5, h⟩ := h
  refine q_getR C hP (k := 32) (lay_X12 C.hA) rfl (by decide) g1 g5 (fl_X12_79 C.hA) dX12_fitsAt_14 ?_
  refine lv_iload_n hx hb dX12_fitsAt_17 rfl (lv_at hl 3 rfl) ?_
  obtain ⟨g6, h⟩ := h
  obtain ⟨g7, h⟩ := h
  refine q_iald C hP g6 g7 dX12_fitsAt_18 ?_
  refine lv_iload hx hb dX12_fitsAt_19 (lv_at hl 6 rfl) ?_
  refine q_calv (q_runV C hP (c_X12_tellRow h) (cd_X12_tellRow C.hA) (ini_X12 C.hA) (ml_X12_339 C.hA) (im_X12_tellRow C.hA) (sl_X12_tellRow C.hA) g1 (by decide) rfl hd_X12_tellRow ⟨rfl, rfl⟩ ⟨Nat.le_of_ble_eq_true rfl, Nat.le_of_ble_eq_true rfl⟩ ⟨Nat.le_of_ble_eq_true rfl, Nat.le_of_ble_eq_true rfl⟩ hl.1 rfl (Nat.le_of_ble_eq_true rfl) dX12_fitsAt_21) hP (fun u_21 H locs h hP => ?_)
  refine lv_aload_n hx hb dX12_fitsAt_24 rfl (lv_at hl 0 rfl) ?_
  refine lv_iload_n hx hb dX12_fitsAt_25 rfl (lv_at hl 3 rfl) ?_
  refine q_cali (q_runV C hP (c_X12_isWritten h) (cd_X12_isWritten C.hA) (ini_X12 C.hA) (ml_X12_345 C.hA) (im_X12_isWritten C.hA) (sl_X12_isWritten C.hA) g1 (by decide) rfl hd_X12_isWritten ⟨rfl, rfl⟩ ⟨Nat.le_of_ble_eq_true rfl, Nat.le_of_ble_eq_true rfl⟩ ⟨Nat.le_of_ble_eq_true rfl, Nat.le_of_ble_eq_true rfl⟩ hl.1 rfl (Nat.le_of_ble_eq_true rfl) dX12_fitsAt_26) hP (fun v_26 u_26 H locs h hP => ?_)
  obtain ⟨g8, h⟩ := h
  exact q_zret C hr hlk hP g8 h (by decide) (by decide) dX12_fitsAt_29
-- X12_isNamed
abbrev rm_X12_isNamed : Room := { frames := 0, cells := 0, slots := 0, locals := 0 }
theorem hd_X12_isNamed : yX12_isNamed.cls ≠ "java/lang/invoke/MethodHandle" ∧ yX12_isNamed.cls ≠ "java/lang/invoke/VarHandle" ∧ (parseMethodDescriptor yX12_isNamed.desc).map (fun d => d.parameters.length) = some 1 := by decide +kernel
def V_X12_isNamed (G : Gx) (p0 : Nat) (p1 : Int32) (u : Mm) (Q : Int32 → Mm → Prop) : Prop :=
  kd G p0 = 12 ∧ (gR u p0 29) ≠ 0 ∧ kd G (gR u p0 29) = 13 ∧ vp_in p1 (ln G (gR u p0 29)) ∧ (((gI u (gR u p0 29) p1.toNatClampNeg) = (-1 : Int32) → Q (0 : Int32) u) ∧ (¬ (gI u (gR u p0 29) p1.toNatClampNeg) = (-1 : Int32) → Q (1 : Int32) u))
set_option maxHeartbeats 4000000 in
set_option maxRecDepth 100000 in
theorem c_X12_isNamed {l : Launch} {G : Gx} {p0 : Nat} {p1 : Int32} {u : Mm} {Q : Int32 → Mm → Prop} (h : V_X12_isNamed G p0 p1 u Q) : Met l yX12_isNamed [.code yX12_isNamed cX12_isNamed 2 (some .boolean)] rm_X12_isNamed (va_Pc [.ref p0, .int p1] (Wd G u)) (Ei G Q) 0 0 (ag G) := by
  refine q_met (by decide) (Nat.le_of_ble_eq_true rfl) ?_
  intro p e s m below meth c ls C hr hlk hnm hl hP
  have hl : lv_has ls 2 [(0, .ref p0), (1, .int p1)] := hl
  generalize ([.ref p0, .int p1] : List Value).toArray = args
  have hx := C.1
  have hb := C.2.1
  unfold V_X12_isNamed at h
  refine lv_aload_n hx hb dX12_isNamed_0 rfl (lv_at hl 0 rfl) ?_
  obtain ⟨g1, h⟩ := h
  obtain ⟨g2, h⟩ := h
  refine q_getR C hP (k := 29) (lay_X12 C.hA) rfl (by decide) g1 g2 (fl_X12_70 C.hA) dX12_isNamed_1 ?_
  refine lv_iload_n hx hb dX12_isNamed_4 rfl (lv_at hl 1 rfl) ?_
  obtain ⟨g3, h⟩ := h
  obtain ⟨g4, h⟩ := h
  refine q_iald C hP g3 g4 dX12_isNamed_5 ?_
  refine lv_iconst (v := (-1 : Int32)) hx hb dX12_isNamed_6 (by decide) ?_
  refine lv_icmp_eq (tgt := 14) hx hb dX12_isNamed_7 (by decide) (fun c7 => ?_) (fun c7 => ?_)
  · have h := h.1 c7
    refine lv_iconst (v := (0 : Int32)) hx hb dX12_isNamed_14 (by decide) ?_
    exact q_zret C hr hlk hP (by decide) h (by decide) (by decide) dX12_isNamed_15
  · have h := h.2 c7
    refine lv_iconst (v := (1 : Int32)) hx hb dX12_isNamed_10 (by decide) ?_
    refine lv_goto (tgt := 15) hx hb dX12_isNamed_11 (by decide) ?_
    exact q_zret C hr hlk hP (by decide) h (by decide) (by decide) dX12_isNamed_15
-- X12_fits
abbrev rm_X12_fits : Room := { frames := 7, cells := 0, slots := 0, locals := 200 }
theorem hd_X12_fits : yX12_fits.cls ≠ "java/lang/invoke/MethodHandle" ∧ yX12_fits.cls ≠ "java/lang/invoke/VarHandle" ∧ (parseMethodDescriptor yX12_fits.desc).map (fun d => d.parameters.length) = some 2 := by decide +kernel
def V_X12_fits_20 (G : Gx) (Q : Int32 → Mm → Prop) (x0 : Nat) (u : Mm) : Prop :=
  kd G x0 = 12 ∧ ∀ u_22 : Mm, u_22 = sI u x0 1 (1 : Int32) → Q (0 : Int32) u_22
def V_X12_fits (G : Gx) (p0 : Nat) (p1 : Int32) (p2 : Int32) (u : Mm) (Q : Int32 → Mm → Prop) : Prop :=
  kd G p0 = 12 ∧ ∀ u_2 : Mm, u_2 = sI u p0 1 (0 : Int32) → V_X12_isLand G p1 u_2 (fun (v_6 : Int32) (u_6 : Mm) => ((v_6 = 0 → V_X12_fits_20 G Q p0 u_6) ∧ (¬ v_6 = 0 → V_X12_isStation G p0 p2 u_6 (fun (v_14 : Int32) (u_14 : Mm) => ((v_14 = 0 → V_X12_fits_20 G Q p0 u_14) ∧ (¬ v_14 = 0 → V_X12_isNamed G p0 p2 u_14 (fun (v_29 : Int32) (u_29 : Mm) => ((v_29 = 0 → Q (0 : Int32) u_29) ∧ (¬ v_29 = 0 → (gR u_29 p0 29) ≠ 0 ∧ kd G (gR u_29 p0 29) = 13 ∧ vp_in p2 (ln G (gR u_29 p0 29)) ∧ (gR u_29 p0 30) ≠ 0 ∧ kd G (gR u_29 p0 30) = 13 ∧ vp_in p2 (ln G (gR u_29 p0 30)) ∧ (gR u_29 p0 6) ≠ 0 ∧ kd G (gR u_29 p0 6) = 13 ∧ vp_in p1 (ln G (gR u_29 p0 6)) ∧ V_X12_fitsAt G p0 p1 (0 : Int32) p2 (gI u_29 (gR u_29 p0 29) p2.toNatClampNeg) (gI u_29 (gR u_29 p0 30) p2.toNatClampNeg) (gI u_29 (gR u_29 p0 6) p1.toNatClampNeg) u_29 (fun (v_57 : Int32) (u_57 : Mm) => ((v_57 = 0 → Q (0 : Int32) u_57) ∧ (¬ v_57 = 0 → Q (1 : Int32) u_57))))))))))))
set_option maxHeartbeats 4000000 in
set_option maxRecDepth 100000 in
theorem b_X12_fits_20 {G : Gx} {Q : Int32 → Mm → Prop} {p : Program} {l : Launch} {e : Env} {s : State} {m : MethodId} {args : Array Value} {below : List Frame} {meth : Method} {c : Code} (C : Cx G p s m c cX12_fits RX12 3) (hr : meth.sig.returnType = (some .boolean)) (hlk : meth.locks = false) {x0 : Nat} {u : Mm} {H : Heap} {locs : List Loc} {ls : Array Slot} (h : V_X12_fits_20 G Q x0 u) (hl : lv_has ls 3 [(0, .ref x0)]) (hP : Hp G u s H locs) : W p l e rm_X12_fits s m args below meth c H locs 0 0 (MQ below (Ei G Q) args s 0 0 (ag G)) (F0 m 20 ls []) := by
  have hx := C.1
  have hb := C.2.1
  unfold V_X12_fits_20 at h
  refine lv_aload_n hx hb dX12_fits_20 rfl (lv_at hl 0 rfl) ?_
  refine lv_iconst (v := (1 : Int32)) hx hb dX12_fits_21 (by decide) ?_
  obtain ⟨g1, h⟩ := h
  refine q_putI C hP (k := 1) tyX12_ok nmX12 (lay_X12 C.hA) rfl (by decide) rfl rfl rfl rfl g1 (fl_X12_147 C.hA) dX12_fits_22 (fun H locs hP => ?_)
  obtain ⟨u_22, eu_22, hP⟩ := Hp.nm hP
  have h := h u_22 eu_22
  refine lv_iconst (v := (0 : Int32)) hx hb dX12_fits_25 (by decide) ?_
  exact q_zret C hr hlk hP (by decide) h (by decide) (by decide) dX12_fits_26
set_option maxHeartbeats 4000000 in
set_option maxRecDepth 100000 in
theorem c_X12_fits {l : Launch} {G : Gx} {p0 : Nat} {p1 : Int32} {p2 : Int32} {u : Mm} {Q : Int32 → Mm → Prop} (h : V_X12_fits G p0 p1 p2 u Q) : Met l yX12_fits [.code yX12_fits cX12_fits 3 (some .boolean)] rm_X12_fits (va_Pc [.ref p0, .int p1, .int p2] (Wd G u)) (Ei G Q) 0 0 (ag G) := by
  refine q_met (by decide) (Nat.le_of_ble_eq_true rfl) ?_
  intro p e s m below meth c ls C hr hlk hnm hl hP
  have hl : lv_has ls 3 [(0, .ref p0), (1, .int p1), (2, .int p2)] := hl
  generalize ([.ref p0, .int p1, .int p2] : List Value).toArray = args
  have hx := C.1
  have hb := C.2.1
  unfold V_X12_fits at h
  refine lv_aload_n hx hb dX12_fits_0 rfl (lv_at hl 0 rfl) ?_
  refine lv_iconst (v := (0 : Int32)) hx hb dX12_fits_1 (by decide) ?_
  obtain ⟨g1, h⟩ := h
  refine q_putI C hP (k := 1) tyX12_ok nmX12 (lay_X12 C.hA) rfl (by decide) rfl rfl rfl rfl g1 (fl_X12_147 C.hA) dX12_fits_2 (fun H locs hP => ?_)
  obtain ⟨u_2, eu_2, hP⟩ := Hp.nm hP
  have h := h u_2 eu_2
  refine lv_iload_n hx hb dX12_fits_5 rfl (lv_at hl 1 rfl) ?_
  refine q_cali (q_runS C hP (c_X12_isLand h) (cd_X12_isLand C.hA) (ini_X12 C.hA) (ml_X12_246 C.hA) (st_X12_isLand C.hA) hd_X12_isLand ⟨rfl, rfl⟩ ⟨Nat.le_of_ble_eq_true rfl, Nat.le_of_ble_eq_true rfl⟩ ⟨Nat.le_of_ble_eq_true rfl, Nat.le_of_ble_eq_true rfl⟩ hl.1 rfl (Nat.le_of_ble_eq_true rfl) dX12_fits_6) hP (fun v_6 u_6 H locs h hP => ?_)
  refine lv_if_eq (tgt := 20) hx hb dX12_fits_9 (by decide) (fun c9 => ?_) (fun c9 => ?_)
  · have h := h.1 c9
    exact b_X12_fits_20 C hr hlk h (lv_sub hl [0] rfl) hP
  · have h := h.2 c9
    refine lv_aload_n hx hb dX12_fits_12 rfl (lv_at hl 0 rfl) ?_
    refine lv_iload_n hx hb dX12_fits_13 rfl (lv_at hl 2 rfl) ?_
    refine q_cali (q_runV C hP (c_X12_isStation h) (cd_X12_isStation C.hA) (ini_X12 C.hA) (ml_X12_342 C.hA) (im_X12_isStation C.hA) (sl_X12_isStation C.hA) g1 (by decide) rfl hd_X12_isStation ⟨rfl, rfl⟩ ⟨Nat.le_of_ble_eq_true rfl, Nat.le_of_ble_eq_true rfl⟩ ⟨Nat.le_of_ble_eq_true rfl, Nat.le_of_ble_eq_true rfl⟩ hl.1 rfl (Nat.le_of_ble_eq_true rfl) dX12_fits_14) hP (fun v_14 u_14 H locs h hP => ?_)
    refine lv_if_ne (tgt := 27) hx hb dX12_fits_17 (by decide) (fun c17 => ?_) (fun c17 => ?_)
    · have h := h.2 c17
      refine lv_aload_n hx hb dX12_fits_27 rfl (lv_at hl 0 rfl) ?_
      refine lv_iload_n hx hb dX12_fits_28 rfl (lv_at hl 2 rfl) ?_
      refine q_cali (q_runV C hP (c_X12_isNamed h) (cd_X12_isNamed C.hA) (ini_X12 C.hA) (ml_X12_348 C.hA) (im_X12_isNamed C.hA) (sl_X12_isNamed C.hA) g1 (by decide) rfl hd_X12_isNamed ⟨rfl, rfl⟩ ⟨Nat.le_of_ble_eq_true rfl, Nat.le_of_ble_eq_true rfl⟩ ⟨Nat.le_of_ble_eq_true rfl, Nat.le_of_ble_eq_true rfl⟩ hl.1 rfl (Nat.le_of_ble_eq_true rfl) dX12_fits_29) hP (fun v_29 u_29 H locs h hP => ?_)
      refine lv_if_eq (tgt := 67) hx hb dX12_fits_32 (by decide) (fun c32 => ?_) (fun c32 => ?_)
      · have h := h.1 c32
        refine lv_iconst (v := (0 : Int32)) hx hb dX12_fits_67 (by decide) ?_
        exact q_zret C hr hlk hP (by decide) h (by decide) (by decide) dX12_fits_68
      · have h := h.2 c32
        refine lv_aload_n hx hb dX12_fits_35 rfl (lv_at hl 0 rfl) ?_
        refine lv_iload_n hx hb dX12_fits_36 rfl (lv_at hl 1 rfl) ?_
        refine lv_iconst (v := (0 : Int32)) hx hb dX12_fits_37 (by decide) ?_
        refine lv_iload_n hx hb dX12_fits_38 rfl (lv_at hl 2 rfl) ?_
        refine lv_aload_n hx hb dX12_fits_39 rfl (lv_at hl 0 rfl) ?_
        obtain ⟨g2, h⟩ := h
        refine q_getR C hP (k := 29) (lay_X12 C.hA) rfl (by decide) g1 g2 (fl_X12_70 C.hA) dX12_fits_40 ?_
        refine lv_iload_n hx hb dX12_fits_43 rfl (lv_at hl 2 rfl) ?_
        obtain ⟨g3, h⟩ := h
        obtain ⟨g4, h⟩ := h
        refine q_iald C hP g3 g4 dX12_fits_44 ?_
        refine lv_aload_n hx hb dX12_fits_45 rfl (lv_at hl 0 rfl) ?_
        obtain ⟨g5, h⟩ := h
        refine q_getR C hP (k := 30) (lay_X12 C.hA) rfl (by decide) g1 g5 (fl_X12_73 C.hA) dX12_fits_46 ?_
        refine lv_iload_n hx hb dX12_fits_49 rfl (lv_at hl 2 rfl) ?_
        obtain ⟨g6, h⟩ := h
        obtain ⟨g7, h⟩ := h
        refine q_iald C hP g6 g7 dX12_fits_50 ?_
        refine lv_aload_n hx hb dX12_fits_51 rfl (lv_at hl 0 rfl) ?_
        obtain ⟨g8, h⟩ := h
        refine q_getR C hP (k := 6) (lay_X12 C.hA) rfl (by decide) g1 g8 (fl_X12_39 C.hA) dX12_fits_52 ?_
        refine lv_iload_n hx hb dX12_fits_55 rfl (lv_at hl 1 rfl) ?_
        obtain ⟨g9, h⟩ := h
        obtain ⟨g10, h⟩ := h
        refine q_iald C hP g9 g10 dX12_fits_56 ?_
        refine q_cali (q_runV C hP (c_X12_fitsAt h) (cd_X12_fitsAt C.hA) (ini_X12 C.hA) (ml_X12_351 C.hA) (im_X12_fitsAt C.hA) (sl_X12_fitsAt C.hA) g1 (by decide) rfl hd_X12_fitsAt ⟨rfl, rfl⟩ ⟨Nat.le_of_ble_eq_true rfl, Nat.le_of_ble_eq_true rfl⟩ ⟨Nat.le_of_ble_eq_true rfl, Nat.le_of_ble_eq_true rfl⟩ hl.1 rfl (Nat.le_of_ble_eq_true rfl) dX12_fits_57) hP (fun v_57 u_57 H locs h hP => ?_)
        refine lv_if_eq (tgt := 67) hx hb dX12_fits_60 (by decide) (fun c60 => ?_) (fun c60 => ?_)
        · have h := h.1 c60
          refine lv_iconst (v := (0 : Int32)) hx hb dX12_fits_67 (by decide) ?_
          exact q_zret C hr hlk hP (by decide) h (by decide) (by decide) dX12_fits_68
        · have h := h.2 c60
          refine lv_iconst (v := (1 : Int32)) hx hb dX12_fits_63 (by decide) ?_
          refine lv_goto (tgt := 68) hx hb dX12_fits_64 (by decide) ?_
          exact q_zret C hr hlk hP (by decide) h (by decide) (by decide) dX12_fits_68
    · have h := h.1 c17
      exact b_X12_fits_20 C hr hlk h (lv_sub hl [0] rfl) hP
-- X12_where
abbrev rm_X12_where : Room := { frames := 7, cells := 0, slots := 0, locals := 200 }
theorem hd_X12_where : yX12_where.cls ≠ "java/lang/invoke/MethodHandle" ∧ yX12_where.cls ≠ "java/lang/invoke/VarHandle" ∧ (parseMethodDescriptor yX12_where.desc).map (fun d => d.parameters.length) = some 3 := by decide +kernel
def V_X12_where_86 (G : Gx) (Q : Int32 → Mm → Prop) (k_37 : Nat → Int32 → Int32 → Int32 → Int32 → Int32 → Mm → Prop) (x0 : Nat) (x1 : Int32) (x2 : Int32) (x3 : Int32) (x4 : Int32) (x5 : Int32) (u : Mm) : Prop :=
  ∀ x5_86 : Int32, x5_86 = x5 + (1 : Int32) → k_37 x0 x1 x2 x3 x4 x5_86 u
def V_X12_where_37_B (G : Gx) (Q : Int32 → Mm → Prop) (k_37 : Nat → Int32 → Int32 → Int32 → Int32 → Int32 → Mm → Prop) (x0 : Nat) (x1 : Int32) (x2 : Int32) (x3 : Int32) (x4 : Int32) (x5 : Int32) (u : Mm) : Prop :=
  (((1681 : Int32) ≤ x5 → ((x3 = (-1 : Int32) → Q x4 u) ∧ (¬ x3 = (-1 : Int32) → kd G x0 = 12 ∧ V_X12_fail G x0 (1 : Int32) u (fun (v_104 : Int32) (u_104 : Mm) => Q v_104 u_104)))) ∧ (¬ (1681 : Int32) ≤ x5 → kd G x0 = 12 ∧ (gR u x0 6) ≠ 0 ∧ kd G (gR u x0 6) = 13 ∧ vp_in x1 (ln G (gR u x0 6)) ∧ V_X12_fitsAt G x0 x1 (0 : Int32) x2 (irm x5 (41 : Int32)) (x5 / (41 : Int32)) (gI u (gR u x0 6) x1.toNatClampNeg) u (fun (v_65 : Int32) (u_65 : Mm) => ((v_65 = 0 → V_X12_where_86 G Q k_37 x0 x1 x2 x3 x4 x5 u_65) ∧ (¬ v_65 = 0 → ((x4 = x3 → Q x5 u_65) ∧ (¬ x4 = x3 → ∀ x4_83 : Int32, x4_83 = x4 + (1 : Int32) → V_X12_where_86 G Q k_37 x0 x1 x2 x3 x4_83 x5 u_65)))))))
def V_X12_where_37 (G : Gx) (Q : Int32 → Mm → Prop) : Nat → (Nat → Int32 → Int32 → Int32 → Int32 → Int32 → Mm → Prop)
  | 0 => fun _ _ _ _ _ _ _ => False
  | n + 1 => fun x0 x1 x2 x3 x4 x5 u => V_X12_where_37_B G Q (V_X12_where_37 G Q n) x0 x1 x2 x3 x4 x5 u
def V_X12_where_25 (G : Gx) (Q : Int32 → Mm → Prop) (x0 : Nat) (u : Mm) : Prop :=
  kd G x0 = 12 ∧ V_X12_fail G x0 (1 : Int32) u (fun (v_27 : Int32) (u_27 : Mm) => Q v_27 u_27)
def V_X12_where (G : Gx) (p0 : Nat) (p1 : Int32) (p2 : Int32) (p3 : Int32) (u : Mm) (Q : Int32 → Mm → Prop) : Prop :=
  kd G p0 = 12 ∧ ∀ u_2 : Mm, u_2 = sI u p0 1 (0 : Int32) → V_X12_isLand G p1 u_2 (fun (v_6 : Int32) (u_6 : Mm) => ((v_6 = 0 → V_X12_where_25 G Q p0 u_6) ∧ (¬ v_6 = 0 → V_X12_isStation G p0 p2 u_6 (fun (v_14 : Int32) (u_14 : Mm) => ((v_14 = 0 → V_X12_where_25 G Q p0 u_14) ∧ (¬ v_14 = 0 → (((-1 : Int32) ≤ p3 → ∃ n : Nat, V_X12_where_37 G Q n p0 p1 p2 p3 (0 : Int32) (0 : Int32) u_14) ∧ (¬ (-1 : Int32) ≤ p3 → V_X12_where_25 G Q p0 u_14))))))))
set_option maxHeartbeats 4000000 in
set_option maxRecDepth 100000 in
theorem b_X12_where_86 {G : Gx} {Q : Int32 → Mm → Prop} {p : Program} {l : Launch} {e : Env} {s : State} {m : MethodId} {args : Array Value} {below : List Frame} {meth : Method} {c : Code} (C : Cx G p s m c cX12_where RX12 6) (hr : meth.sig.returnType = (some .int)) (hlk : meth.locks = false) {k_37 : Nat → Int32 → Int32 → Int32 → Int32 → Int32 → Mm → Prop} (hk_37 : ∀ (x0 : Nat) (x1 : Int32) (x2 : Int32) (x3 : Int32) (x4 : Int32) (x5 : Int32) (u : Mm) (H : Heap) (locs : List Loc) (ls : Array Slot), k_37 x0 x1 x2 x3 x4 x5 u → lv_has ls 6 [(0, .ref x0), (1, .int x1), (2, .int x2), (3, .int x3), (4, .int x4), (5, .int x5)] → Hp G u s H locs → W p l e rm_X12_where s m args below meth c H locs 0 0 (MQ below (Ei G Q) args s 0 0 (ag G)) (F0 m 37 ls [])) {x0 : Nat} {x1 : Int32} {x2 : Int32} {x3 : Int32} {x4 : Int32} {x5 : Int32} {u : Mm} {H : Heap} {locs : List Loc} {ls : Array Slot} (h : V_X12_where_86 G Q k_37 x0 x1 x2 x3 x4 x5 u) (hl : lv_has ls 6 [(0, .ref x0), (1, .int x1), (2, .int x2), (3, .int x3), (4, .int x4), (5, .int x5)]) (hP : Hp G u s H locs) : W p l e rm_X12_where s m args below meth c H locs 0 0 (MQ below (Ei G Q) args s 0 0 (ag G)) (F0 m 86 ls []) := by
  have hx := C.1
  have hb := C.2.1
  unfold V_X12_where_86 at h
  obtain ⟨x5_86, ex5_86⟩ : ∃ y : Int32, y = x5 + (1 : Int32) := ⟨_, rfl⟩
  have h := h x5_86 ex5_86
  refine lv_iinc (v := x5_86) (lv' := [(5, .int x5_86), (0, .ref x0), (1, .int x1), (2, .int x2), (3, .int x3), (4, .int x4)]) hx hb dX12_where_86 hl (k := 5) rfl (by rw [ex5_86]; rfl) (by decide) rfl (fun ls hl => ?_)
  refine lv_goto (tgt := 37) hx hb dX12_where_89 (by decide) ?_
  exact hk_37 x0 x1 x2 x3 x4 x5_86 u _ _ _ h (lv_sub hl [1, 2, 3, 4, 5, 0] rfl) hP
set_option maxHeartbeats 4000000 in
set_option maxRecDepth 100000 in
theorem b_X12_where_37 {G : Gx} {Q : Int32 → Mm → Prop} {p : Program} {l : Launch} {e : Env} {s : State} {m : MethodId} {args : Array Value} {below : List Frame} {meth : Method} {c : Code} (C : Cx G p s m c cX12_where RX12 6) (hr : meth.sig.returnType = (some .int)) (hlk : meth.locks = false) {k_37 : Nat → Int32 → Int32 → Int32 → Int32 → Int32 → Mm → Prop} (hk_37 : ∀ (x0 : Nat) (x1 : Int32) (x2 : Int32) (x3 : Int32) (x4 : Int32) (x5 : Int32) (u : Mm) (H : Heap) (locs : List Loc) (ls : Array Slot), k_37 x0 x1 x2 x3 x4 x5 u → lv_has ls 6 [(0, .ref x0), (1, .int x1), (2, .int x2), (3, .int x3), (4, .int x4), (5, .int x5)] → Hp G u s H locs → W p l e rm_X12_where s m args below meth c H locs 0 0 (MQ below (Ei G Q) args s 0 0 (ag G)) (F0 m 37 ls [])) {x0 : Nat} {x1 : Int32} {x2 : Int32} {x3 : Int32} {x4 : Int32} {x5 : Int32} {u : Mm} {H : Heap} {locs : List Loc} {ls : Array Slot} (h : V_X12_where_37_B G Q k_37 x0 x1 x2 x3 x4 x5 u) (hl : lv_has ls 6 [(0, .ref x0), (1, .int x1), (2, .int x2), (3, .int x3), (4, .int x4), (5, .int x5)]) (hP : Hp G u s H locs) : W p l e rm_X12_where s m args below meth c H locs 0 0 (MQ below (Ei G Q) args s 0 0 (ag G)) (F0 m 37 ls []) := by
  have hx := C.1
  have hb := C.2.1
  unfold V_X12_where_37_B at h
  refine lv_iload hx hb dX12_where_37 (lv_at hl 5 rfl) ?_
  refine lv_sipush (v := (1681 : Int32)) hx hb dX12_where_39 (by decide) ?_
  refine lv_icmp_ge (tgt := 92) hx hb dX12_where_42 (by decide) (fun c42 => ?_) (fun c42 => ?_)
  · have h := h.1 c42
    refine lv_iload_n hx hb dX12_where_92 rfl (lv_at hl 3 rfl) ?_
    refine lv_iconst (v := (-1 : Int32)) hx hb dX12_where_93 (by decide) ?_
    refine lv_icmp_ne (tgt := 102) hx hb dX12_where_94 (by decide) (fun c94 => ?_) (fun c94 => ?_)
    · have h := h.2 c94
      refine lv_aload_n hx hb dX12_where_102 rfl (lv_at hl 0 rfl) ?_
      refine lv_iconst (v := (1 : Int32)) hx hb dX12_where_103 (by decide) ?_
      obtain ⟨g1, h⟩ := h
      refine q_cali (q_runV C hP (c_X12_fail h) (cd_X12_fail C.hA) (ini_X12 C.hA) (ml_X12_249 C.hA) (im_X12_fail C.hA) (sl_X12_fail C.hA) g1 (by decide) rfl hd_X12_fail ⟨rfl, rfl⟩ ⟨Nat.le_of_ble_eq_true rfl, Nat.le_of_ble_eq_true rfl⟩ ⟨Nat.le_of_ble_eq_true rfl, Nat.le_of_ble_eq_true rfl⟩ hl.1 rfl (Nat.le_of_ble_eq_true rfl) dX12_where_104) hP (fun v_104 u_104 H locs h hP => ?_)
      exact q_iret C hr hlk hP h (by decide) (by decide) dX12_where_107
    · have h := h.1 c94
      refine lv_iload hx hb dX12_where_97 (lv_at hl 4 rfl) ?_
      refine lv_goto (tgt := 107) hx hb dX12_where_99 (by decide) ?_
      exact q_iret C hr hlk hP h (by decide) (by decide) dX12_where_107
  · have h := h.2 c42
    refine lv_aload_n hx hb dX12_where_45 rfl (lv_at hl 0 rfl) ?_
    refine lv_iload_n hx hb dX12_where_46 rfl (lv_at hl 1 rfl) ?_
    refine lv_iconst (v := (0 : Int32)) hx hb dX12_where_47 (by decide) ?_
    refine lv_iload_n hx hb dX12_where_48 rfl (lv_at hl 2 rfl) ?_
    refine lv_iload hx hb dX12_where_49 (lv_at hl 5 rfl) ?_
    refine lv_bipush (v := (41 : Int32)) hx hb dX12_where_51 (by decide) ?_
    refine lv_irem hx hb dX12_where_53 (by decide) ?_
    refine lv_iload hx hb dX12_where_54 (lv_at hl 5 rfl) ?_
    refine lv_bipush (v := (41 : Int32)) hx hb dX12_where_56 (by decide) ?_
    refine lv_idiv hx hb dX12_where_58 (by decide) ?_
    refine lv_aload_n hx hb dX12_where_59 rfl (lv_at hl 0 rfl) ?_
    obtain ⟨g2, h⟩ := h
    obtain ⟨g3, h⟩ := h
    refine q_getR C hP (k := 6) (lay_X12 C.hA) rfl (by decide) g2 g3 (fl_X12_39 C.hA) dX12_where_60 ?_
    refine lv_iload_n hx hb dX12_where_63 rfl (lv_at hl 1 rfl) ?_
    obtain ⟨g4, h⟩ := h
    obtain ⟨g5, h⟩ := h
    refine q_iald C hP g4 g5 dX12_where_64 ?_
    refine q_cali (q_runV C hP (c_X12_fitsAt h) (cd_X12_fitsAt C.hA) (ini_X12 C.hA) (ml_X12_351 C.hA) (im_X12_fitsAt C.hA) (sl_X12_fitsAt C.hA) g2 (by decide) rfl hd_X12_fitsAt ⟨rfl, rfl⟩ ⟨Nat.le_of_ble_eq_true rfl, Nat.le_of_ble_eq_true rfl⟩ ⟨Nat.le_of_ble_eq_true rfl, Nat.le_of_ble_eq_true rfl⟩ hl.1 rfl (Nat.le_of_ble_eq_true rfl) dX12_where_65) hP (fun v_65 u_65 H locs h hP => ?_)
    refine lv_if_ne (tgt := 74) hx hb dX12_where_68 (by decide) (fun c68 => ?_) (fun c68 => ?_)
    · have h := h.2 c68
      refine lv_iload hx hb dX12_where_74 (lv_at hl 4 rfl) ?_
      refine lv_iload_n hx hb dX12_where_76 rfl (lv_at hl 3 rfl) ?_
      refine lv_icmp_ne (tgt := 83) hx hb dX12_where_77 (by decide) (fun c77 => ?_) (fun c77 => ?_)
      · have h := h.2 c77
        obtain ⟨x4_83, ex4_83⟩ : ∃ y : Int32, y = x4 + (1 : Int32) := ⟨_, rfl⟩
        have h := h x4_83 ex4_83
        refine lv_iinc (v := x4_83) (lv' := [(4, .int x4_83), (0, .ref x0), (1, .int x1), (2, .int x2), (3, .int x3), (5, .int x5)]) hx hb dX12_where_83 hl (k := 4) rfl (by rw [ex4_83]; rfl) (by decide) rfl (fun ls hl => ?_)
        exact b_X12_where_86 C hr hlk hk_37 h (lv_sub hl [1, 2, 3, 4, 0, 5] rfl) hP
      · have h := h.1 c77
        refine lv_iload hx hb dX12_where_80 (lv_at hl 5 rfl) ?_
        exact q_iret C hr hlk hP h (by decide) (by decide) dX12_where_82
    · have h := h.1 c68
      refine lv_goto (tgt := 86) hx hb dX12_where_71 (by decide) ?_
      exact b_X12_where_86 C hr hlk hk_37 h (lv_sub hl [0, 1, 2, 3, 4, 5] rfl) hP
theorem l_X12_where_37 {G : Gx} {Q : Int32 → Mm → Prop} {p : Program} {l : Launch} {e : Env} {s : State} {m : MethodId} {args : Array Value} {below : List Frame} {meth : Method} {c : Code} (C : Cx G p s m c cX12_where RX12 6) (hr : meth.sig.returnType = (some .int)) (hlk : meth.locks = false) : ∀ (n : Nat) (x0 : Nat) (x1 : Int32) (x2 : Int32) (x3 : Int32) (x4 : Int32) (x5 : Int32) (u : Mm) (H : Heap) (locs : List Loc) (ls : Array Slot), V_X12_where_37 G Q n x0 x1 x2 x3 x4 x5 u → lv_has ls 6 [(0, .ref x0), (1, .int x1), (2, .int x2), (3, .int x3), (4, .int x4), (5, .int x5)] → Hp G u s H locs → W p l e rm_X12_where s m args below meth c H locs 0 0 (MQ below (Ei G Q) args s 0 0 (ag G)) (F0 m 37 ls []) := by
  intro n
  induction n with
  | zero => intro x0 x1 x2 x3 x4 x5 u H locs ls h; exact h.elim
  | succ n ih => intro x0 x1 x2 x3 x4 x5 u H locs ls h hl hP; exact b_X12_where_37 C hr hlk ih h hl hP
set_option maxHeartbeats 4000000 in
set_option maxRecDepth 100000 in
theorem b_X12_where_25 {G : Gx} {Q : Int32 → Mm → Prop} {p : Program} {l : Launch} {e : Env} {s : State} {m : MethodId} {args : Array Value} {below : List Frame} {meth : Method} {c : Code} (C : Cx G p s m c cX12_where RX12 6) (hr : meth.sig.returnType = (some .int)) (hlk : meth.locks = false) {x0 : Nat} {u : Mm} {H : Heap} {locs : List Loc} {ls : Array Slot} (h : V_X12_where_25 G Q x0 u) (hl : lv_has ls 6 [(0, .ref x0)]) (hP : Hp G u s H locs) : W p l e rm_X12_where s m args below meth c H locs 0 0 (MQ below (Ei G Q) args s 0 0 (ag G)) (F0 m 25 ls []) := by
  have hx := C.1
  have hb := C.2.1
  unfold V_X12_where_25 at h
  refine lv_aload_n hx hb dX12_where_25 rfl (lv_at hl 0 rfl) ?_
  refine lv_iconst (v := (1 : Int32)) hx hb dX12_where_26 (by decide) ?_
  obtain ⟨g1, h⟩ := h
  refine q_cali (q_runV C hP (c_X12_fail h) (cd_X12_fail C.hA) (ini_X12 C.hA) (ml_X12_249 C.hA) (im_X12_fail C.hA) (sl_X12_fail C.hA) g1 (by decide) rfl hd_X12_fail ⟨rfl, rfl⟩ ⟨Nat.le_of_ble_eq_true rfl, Nat.le_of_ble_eq_true rfl⟩ ⟨Nat.le_of_ble_eq_true rfl, Nat.le_of_ble_eq_true rfl⟩ hl.1 rfl (Nat.le_of_ble_eq_true rfl) dX12_where_27) hP (fun v_27 u_27 H locs h hP => ?_)
  exact q_iret C hr hlk hP h (by decide) (by decide) dX12_where_30
set_option maxHeartbeats 4000000 in
set_option maxRecDepth 100000 in
theorem c_X12_where {l : Launch} {G : Gx} {p0 : Nat} {p1 : Int32} {p2 : Int32} {p3 : Int32} {u : Mm} {Q : Int32 → Mm → Prop} (h : V_X12_where G p0 p1 p2 p3 u Q) : Met l yX12_where [.code yX12_where cX12_where 6 (some .int)] rm_X12_where (va_Pc [.ref p0, .int p1, .int p2, .int p3] (Wd G u)) (Ei G Q) 0 0 (ag G) := by
  refine q_met (by decide) (Nat.le_of_ble_eq_true rfl) ?_
  intro p e s m below meth c ls C hr hlk hnm hl hP
  have hl : lv_has ls 6 [(0, .ref p0), (1, .int p1), (2, .int p2), (3, .int p3)] := hl
  generalize ([.ref p0, .int p1, .int p2, .int p3] : List Value).toArray = args
  have hx := C.1
  have hb := C.2.1
  unfold V_X12_where at h
  refine lv_aload_n hx hb dX12_where_0 rfl (lv_at hl 0 rfl) ?_
  refine lv_iconst (v := (0 : Int32)) hx hb dX12_where_1 (by decide) ?_
  obtain ⟨g1, h⟩ := h
  refine q_putI C hP (k := 1) tyX12_ok nmX12 (lay_X12 C.hA) rfl (by decide) rfl rfl rfl rfl g1 (fl_X12_147 C.hA) dX12_where_2 (fun H locs hP => ?_)
  obtain ⟨u_2, eu_2, hP⟩ := Hp.nm hP
  have h := h u_2 eu_2
  refine lv_iload_n hx hb dX12_where_5 rfl (lv_at hl 1 rfl) ?_
  refine q_cali (q_runS C hP (c_X12_isLand h) (cd_X12_isLand C.hA) (ini_X12 C.hA) (ml_X12_246 C.hA) (st_X12_isLand C.hA) hd_X12_isLand ⟨rfl, rfl⟩ ⟨Nat.le_of_ble_eq_true rfl, Nat.le_of_ble_eq_true rfl⟩ ⟨Nat.le_of_ble_eq_true rfl, Nat.le_of_ble_eq_true rfl⟩ hl.1 rfl (Nat.le_of_ble_eq_true rfl) dX12_where_6) hP (fun v_6 u_6 H locs h hP => ?_)
  refine lv_if_eq (tgt := 25) hx hb dX12_where_9 (by decide) (fun c9 => ?_) (fun c9 => ?_)
  · have h := h.1 c9
    exact b_X12_where_25 C hr hlk h (lv_sub hl [0] rfl) hP
  · have h := h.2 c9
    refine lv_aload_n hx hb dX12_where_12 rfl (lv_at hl 0 rfl) ?_
    refine lv_iload_n hx hb dX12_where_13 rfl (lv_at hl 2 rfl) ?_
    refine q_cali (q_runV C hP (c_X12_isStation h) (cd_X12_isStation C.hA) (ini_X12 C.hA) (ml_X12_342 C.hA) (im_X12_isStation C.hA) (sl_X12_isStation C.hA) g1 (by decide) rfl hd_X12_isStation ⟨rfl, rfl⟩ ⟨Nat.le_of_ble_eq_true rfl, Nat.le_of_ble_eq_true rfl⟩ ⟨Nat.le_of_ble_eq_true rfl, Nat.le_of_ble_eq_true rfl⟩ hl.1 rfl (Nat.le_of_ble_eq_true rfl) dX12_where_14) hP (fun v_14 u_14 H locs h hP => ?_)
    refine lv_if_eq (tgt := 25) hx hb dX12_where_17 (by decide) (fun c17 => ?_) (fun c17 => ?_)
    · have h := h.1 c17
      exact b_X12_where_25 C hr hlk h (lv_sub hl [0] rfl) hP
    · have h := h.2 c17
      refine lv_iload_n hx hb dX12_where_20 rfl (lv_at hl 3 rfl) ?_
      refine lv_iconst (v := (-1 : Int32)) hx hb dX12_where_21 (by decide) ?_
      refine lv_icmp_ge (tgt := 31) hx hb dX12_where_22 (by decide) (fun c22 => ?_) (fun c22 => ?_)
      · have h := h.1 c22
        refine lv_iconst (v := (0 : Int32)) hx hb dX12_where_31 (by decide) ?_
        refine lv_istore (lv' := [(4, .int (0 : Int32)), (0, .ref p0), (1, .int p1), (2, .int p2), (3, .int p3)]) hx hb dX12_where_32 hl (by decide) rfl (fun ls hl => ?_)
        refine lv_iconst (v := (0 : Int32)) hx hb dX12_where_34 (by decide) ?_
        refine lv_istore (lv' := [(5, .int (0 : Int32)), (4, .int (0 : Int32)), (0, .ref p0), (1, .int p1), (2, .int p2), (3, .int p3)]) hx hb dX12_where_35 hl (by decide) rfl (fun ls hl => ?_)
        obtain ⟨n, h⟩ := h
        exact l_X12_where_37 C hr hlk n p0 p1 p2 p3 (0 : Int32) (0 : Int32) u_14 _ _ _ h (lv_sub hl [2, 3, 4, 5, 1, 0] rfl) hP
      · have h := h.2 c22
        exact b_X12_where_25 C hr hlk h (lv_sub hl [0] rfl) hP
-- X12_airs
abbrev rm_X12_airs : Room := { frames := 7, cells := 0, slots := 0, locals := 200 }
theorem hd_X12_airs : yX12_airs.cls ≠ "java/lang/invoke/MethodHandle" ∧ yX12_airs.cls ≠ "java/lang/invoke/VarHandle" ∧ (parseMethodDescriptor yX12_airs.desc).map (fun d => d.parameters.length) = some 3 := by decide +kernel
def V_X12_airs_113 (G : Gx) (Q : Int32 → Mm → Prop) (k_56 : Nat → Int32 → Int32 → Int32 → Int32 → Int32 → Int32 → Int32 → Mm → Prop) (x0 : Nat) (x1 : Int32) (x2 : Int32) (x3 : Int32) (x4 : Int32) (x5 : Int32) (x6 : Int32) (x7 : Int32) (u : Mm) : Prop :=
  ∀ x7_113 : Int32, x7_113 = x7 + (1 : Int32) → k_56 x0 x1 x2 x3 x4 x5 x6 x7_113 u
def V_X12_airs_107 (G : Gx) (Q : Int32 → Mm → Prop) (k_56 : Nat → Int32 → Int32 → Int32 → Int32 → Int32 → Int32 → Int32 → Mm → Prop) (x0 : Nat) (x1 : Int32) (x2 : Int32) (x3 : Int32) (x4 : Int32) (x7 : Int32) (t0 : Int32) (u : Mm) : Prop :=
  V_X12_airs_113 G Q k_56 x0 x1 x2 x3 x4 t0 x7 x7 u
def V_X12_airs_56_B (G : Gx) (Q : Int32 → Mm → Prop) (k_56 : Nat → Int32 → Int32 → Int32 → Int32 → Int32 → Int32 → Int32 → Mm → Prop) (x0 : Nat) (x1 : Int32) (x2 : Int32) (x3 : Int32) (x4 : Int32) (x5 : Int32) (x6 : Int32) (x7 : Int32) (u : Mm) : Prop :=
  (((150 : Int32) < x7 → ((x3 = 0 → Q x4 u) ∧ (¬ x3 = 0 → ((x3 = (1 : Int32) → Q x5 u) ∧ (¬ x3 = (1 : Int32) → Q x6 u))))) ∧ (¬ (150 : Int32) < x7 → kd G x0 = 12 ∧ (gR u x0 29) ≠ 0 ∧ kd G (gR u x0 29) = 13 ∧ vp_in x2 (ln G (gR u x0 29)) ∧ (gR u x0 30) ≠ 0 ∧ kd G (gR u x0 30) = 13 ∧ vp_in x2 (ln G (gR u x0 30)) ∧ V_X12_fitsAt G x0 x1 (0 : Int32) x2 (gI u (gR u x0 29) x2.toNatClampNeg) (gI u (gR u x0 30) x2.toNatClampNeg) x7 u (fun (v_82 : Int32) (u_82 : Mm) => ((v_82 = 0 → V_X12_airs_113 G Q k_56 x0 x1 x2 x3 x4 x5 x6 x7 u_82) ∧ (¬ v_82 = 0 → ∀ x4_91 : Int32, x4_91 = x4 + (1 : Int32) → ((x5 = (-1 : Int32) → V_X12_airs_107 G Q k_56 x0 x1 x2 x3 x4_91 x7 x7 u_82) ∧ (¬ x5 = (-1 : Int32) → V_X12_airs_107 G Q k_56 x0 x1 x2 x3 x4_91 x7 x5 u_82)))))))
def V_X12_airs_56 (G : Gx) (Q : Int32 → Mm → Prop) : Nat → (Nat → Int32 → Int32 → Int32 → Int32 → Int32 → Int32 → Int32 → Mm → Prop)
  | 0 => fun _ _ _ _ _ _ _ _ _ => False
  | n + 1 => fun x0 x1 x2 x3 x4 x5 x6 x7 u => V_X12_airs_56_B G Q (V_X12_airs_56 G Q n) x0 x1 x2 x3 x4 x5 x6 x7 u
def V_X12_airs_37 (G : Gx) (Q : Int32 → Mm → Prop) (x0 : Nat) (u : Mm) : Prop :=
  kd G x0 = 12 ∧ V_X12_fail G x0 (1 : Int32) u (fun (v_39 : Int32) (u_39 : Mm) => Q v_39 u_39)
def V_X12_airs (G : Gx) (p0 : Nat) (p1 : Int32) (p2 : Int32) (p3 : Int32) (u : Mm) (Q : Int32 → Mm → Prop) : Prop :=
  kd G p0 = 12 ∧ ∀ u_2 : Mm, u_2 = sI u p0 1 (0 : Int32) → V_X12_isLand G p1 u_2 (fun (v_6 : Int32) (u_6 : Mm) => ((v_6 = 0 → V_X12_airs_37 G Q p0 u_6) ∧ (¬ v_6 = 0 → V_X12_isStation G p0 p2 u_6 (fun (v_14 : Int32) (u_14 : Mm) => ((v_14 = 0 → V_X12_airs_37 G Q p0 u_14) ∧ (¬ v_14 = 0 → V_X12_isNamed G p0 p2 u_14 (fun (v_22 : Int32) (u_22 : Mm) => ((v_22 = 0 → V_X12_airs_37 G Q p0 u_22) ∧ (¬ v_22 = 0 → V_X12_isIn G p3 (0 : Int32) (2 : Int32) u_22 (fun (v_31 : Int32) (u_31 : Mm) => ((v_31 = 0 → V_X12_airs_37 G Q p0 u_31) ∧ (¬ v_31 = 0 → ∃ n : Nat, V_X12_airs_56 G Q n p0 p1 p2 p3 (0 : Int32) (-1 : Int32) (-1 : Int32) (50 : Int32) u_31))))))))))))
set_option maxHeartbeats 4000000 in
set_option maxRecDepth 100000 in
theorem b_X12_airs_113 {G : Gx} {Q : Int32 → Mm → Prop} {p : Program} {l : Launch} {e : Env} {s : State} {m : MethodId} {args : Array Value} {below : List Frame} {meth : Method} {c : Code} (C : Cx G p s m c cX12_airs RX12 8) (hr : meth.sig.returnType = (some .int)) (hlk : meth.locks = false) {k_56 : Nat → Int32 → Int32 → Int32 → Int32 → Int32 → Int32 → Int32 → Mm → Prop} (hk_56 : ∀ (x0 : Nat) (x1 : Int32) (x2 : Int32) (x3 : Int32) (x4 : Int32) (x5 : Int32) (x6 : Int32) (x7 : Int32) (u : Mm) (H : Heap) (locs : List Loc) (ls : Array Slot), k_56 x0 x1 x2 x3 x4 x5 x6 x7 u → lv_has ls 8 [(0, .ref x0), (1, .int x1), (2, .int x2), (3, .int x3), (4, .int x4), (5, .int x5), (6, .int x6), (7, .int x7)] → Hp G u s H locs → W p l e rm_X12_airs s m args below meth c H locs 0 0 (MQ below (Ei G Q) args s 0 0 (ag G)) (F0 m 56 ls [])) {x0 : Nat} {x1 : Int32} {x2 : Int32} {x3 : Int32} {x4 : Int32} {x5 : Int32} {x6 : Int32} {x7 : Int32} {u : Mm} {H : Heap} {locs : List Loc} {ls : Array Slot} (h : V_X12_airs_113 G Q k_56 x0 x1 x2 x3 x4 x5 x6 x7 u) (hl : lv_has ls 8 [(0, .ref x0), (1, .int x1), (2, .int x2), (3, .int x3), (4, .int x4), (5, .int x5), (6, .int x6), (7, .int x7)]) (hP : Hp G u s H locs) : W p l e rm_X12_airs s m args below meth c H locs 0 0 (MQ below (Ei G Q) args s 0 0 (ag G)) (F0 m 113 ls []) := by
  have hx := C.1
  have hb := C.2.1
  unfold V_X12_airs_113 at h
  obtain ⟨x7_113, ex7_113⟩ : ∃ y : Int32, y = x7 + (1 : Int32) := ⟨_, rfl⟩
  have h := h x7_113 ex7_113
  refine lv_iinc (v := x7_113) (lv' := [(7, .int x7_113), (0, .ref x0), (1, .int x1), (2, .int x2), (3, .int x3), (4, .int x4), (5, .int x5), (6, .int x6)]) hx hb dX12_airs_113 hl (k := 7) rfl (by rw [ex7_113]; rfl) (by decide) rfl (fun ls hl => ?_)
  refine lv_goto (tgt := 56) hx hb dX12_airs_116 (by decide) ?_
  exact hk_56 x0 x1 x2 x3 x4 x5 x6 x7_113 u _ _ _ h (lv_sub hl [1, 2, 3, 4, 5, 6, 7, 0] rfl) hP
set_option maxHeartbeats 4000000 in
set_option maxRecDepth 100000 in
theorem b_X12_airs_107 {G : Gx} {Q : Int32 → Mm → Prop} {p : Program} {l : Launch} {e : Env} {s : State} {m : MethodId} {args : Array Value} {below : List Frame} {meth : Method} {c : Code} (C : Cx G p s m c cX12_airs RX12 8) (hr : meth.sig.returnType = (some .int)) (hlk : meth.locks = false) {k_56 : Nat → Int32 → Int32 → Int32 → Int32 → Int32 → Int32 → Int32 → Mm → Prop} (hk_56 : ∀ (x0 : Nat) (x1 : Int32) (x2 : Int32) (x3 : Int32) (x4 : Int32) (x5 : Int32) (x6 : Int32) (x7 : Int32) (u : Mm) (H : Heap) (locs : List Loc) (ls : Array Slot), k_56 x0 x1 x2 x3 x4 x5 x6 x7 u → lv_has ls 8 [(0, .ref x0), (1, .int x1), (2, .int x2), (3, .int x3), (4, .int x4), (5, .int x5), (6, .int x6), (7, .int x7)] → Hp G u s H locs → W p l e rm_X12_airs s m args below meth c H locs 0 0 (MQ below (Ei G Q) args s 0 0 (ag G)) (F0 m 56 ls [])) {x0 : Nat} {x1 : Int32} {x2 : Int32} {x3 : Int32} {x4 : Int32} {x7 : Int32} {t0 : Int32} {u : Mm} {H : Heap} {locs : List Loc} {ls : Array Slot} (h : V_X12_airs_107 G Q k_56 x0 x1 x2 x3 x4 x7 t0 u) (hl : lv_has ls 8 [(0, .ref x0), (1, .int x1), (2, .int x2), (3, .int x3), (4, .int x4), (7, .int x7)]) (hP : Hp G u s H locs) : W p l e rm_X12_airs s m args below meth c H locs 0 0 (MQ below (Ei G Q) args s 0 0 (ag G)) (F0 m 107 ls [.int t0]) := by
  have hx := C.1
  have hb := C.2.1
  unfold V_X12_airs_107 at h
  refine lv_istore (lv' := [(5, .int t0), (0, .ref x0), (1, .int x1), (2, .int x2), (3, .int x3), (4, .int x4), (7, .int x7)]) hx hb dX12_airs_107 hl (by decide) rfl (fun ls hl => ?_)
  refine lv_iload hx hb dX12_airs_109 (lv_at hl 6 rfl) ?_
  refine lv_istore (lv' := [(6, .int x7), (5, .int t0), (0, .ref x0), (1, .int x1), (2, .int x2), (3, .int x3), (4, .int x4), (7, .int x7)]) hx hb dX12_airs_111 hl (by decide) rfl (fun ls hl => ?_)
  exact b_X12_airs_113 C hr hlk hk_56 h (lv_sub hl [2, 3, 4, 5, 6, 1, 0, 7] rfl) hP
set_option maxHeartbeats 4000000 in
set_option maxRecDepth 100000 in
theorem b_X12_airs_56 {G : Gx} {Q : Int32 → Mm → Prop} {p : Program} {l : Launch} {e : Env} {s : State} {m : MethodId} {args : Array Value} {below : List Frame} {meth : Method} {c : Code} (C : Cx G p s m c cX12_airs RX12 8) (hr : meth.sig.returnType = (some .int)) (hlk : meth.locks = false) {k_56 : Nat → Int32 → Int32 → Int32 → Int32 → Int32 → Int32 → Int32 → Mm → Prop} (hk_56 : ∀ (x0 : Nat) (x1 : Int32) (x2 : Int32) (x3 : Int32) (x4 : Int32) (x5 : Int32) (x6 : Int32) (x7 : Int32) (u : Mm) (H : Heap) (locs : List Loc) (ls : Array Slot), k_56 x0 x1 x2 x3 x4 x5 x6 x7 u → lv_has ls 8 [(0, .ref x0), (1, .int x1), (2, .int x2), (3, .int x3), (4, .int x4), (5, .int x5), (6, .int x6), (7, .int x7)] → Hp G u s H locs → W p l e rm_X12_airs s m args below meth c H locs 0 0 (MQ below (Ei G Q) args s 0 0 (ag G)) (F0 m 56 ls [])) {x0 : Nat} {x1 : Int32} {x2 : Int32} {x3 : Int32} {x4 : Int32} {x5 : Int32} {x6 : Int32} {x7 : Int32} {u : Mm} {H : Heap} {locs : List Loc} {ls : Array Slot} (h : V_X12_airs_56_B G Q k_56 x0 x1 x2 x3 x4 x5 x6 x7 u) (hl : lv_has ls 8 [(0, .ref x0), (1, .int x1), (2, .int x2), (3, .int x3), (4, .int x4), (5, .int x5), (6, .int x6), (7, .int x7)]) (hP : Hp G u s H locs) : W p l e rm_X12_airs s m args below meth c H locs 0 0 (MQ below (Ei G Q) args s 0 0 (ag G)) (F0 m 56 ls []) := by
  have hx := C.1
  have hb := C.2.1
  unfold V_X12_airs_56_B at h
  refine lv_iload hx hb dX12_airs_56 (lv_at hl 7 rfl) ?_
  refine lv_sipush (v := (150 : Int32)) hx hb dX12_airs_58 (by decide) ?_
  refine lv_icmp_gt (tgt := 119) hx hb dX12_airs_61 (by decide) (fun c61 => ?_) (fun c61 => ?_)
  · have h := h.1 c61
    refine lv_iload_n hx hb dX12_airs_119 rfl (lv_at hl 3 rfl) ?_
    refine lv_if_ne (tgt := 128) hx hb dX12_airs_120 (by decide) (fun c120 => ?_) (fun c120 => ?_)
    · have h := h.2 c120
      refine lv_iload_n hx hb dX12_airs_128 rfl (lv_at hl 3 rfl) ?_
      refine lv_iconst (v := (1 : Int32)) hx hb dX12_airs_129 (by decide) ?_
      refine lv_icmp_ne (tgt := 138) hx hb dX12_airs_130 (by decide) (fun c130 => ?_) (fun c130 => ?_)
      · have h := h.2 c130
        refine lv_iload hx hb dX12_airs_138 (lv_at hl 6 rfl) ?_
        exact q_iret C hr hlk hP h (by decide) (by decide) dX12_airs_140
      · have h := h.1 c130
        refine lv_iload hx hb dX12_airs_133 (lv_at hl 5 rfl) ?_
        refine lv_goto (tgt := 140) hx hb dX12_airs_135 (by decide) ?_
        exact q_iret C hr hlk hP h (by decide) (by decide) dX12_airs_140
    · have h := h.1 c120
      refine lv_iload hx hb dX12_airs_123 (lv_at hl 4 rfl) ?_
      refine lv_goto (tgt := 140) hx hb dX12_airs_125 (by decide) ?_
      exact q_iret C hr hlk hP h (by decide) (by decide) dX12_airs_140
  · have h := h.2 c61
    refine lv_aload_n hx hb dX12_airs_64 rfl (lv_at hl 0 rfl) ?_
    refine lv_iload_n hx hb dX12_airs_65 rfl (lv_at hl 1 rfl) ?_
    refine lv_iconst (v := (0 : Int32)) hx hb dX12_airs_66 (by decide) ?_
    refine lv_iload_n hx hb dX12_airs_67 rfl (lv_at hl 2 rfl) ?_
    refine lv_aload_n hx hb dX12_airs_68 rfl (lv_at hl 0 rfl) ?_
    obtain ⟨g1, h⟩ := h
    obtain ⟨g2, h⟩ := h
    refine q_getR C hP (k := 29) (lay_X12 C.hA) rfl (by decide) g1 g2 (fl_X12_70 C.hA) dX12_airs_69 ?_
    refine lv_iload_n hx hb dX12_airs_72 rfl (lv_at hl 2 rfl) ?_
    obtain ⟨g3, h⟩ := h
    obtain ⟨g4, h⟩ := h
    refine q_iald C hP g3 g4 dX12_airs_73 ?_
    refine lv_aload_n hx hb dX12_airs_74 rfl (lv_at hl 0 rfl) ?_
    obtain ⟨g5, h⟩ := h
    refine q_getR C hP (k := 30) (lay_X12 C.hA) rfl (by decide) g1 g5 (fl_X12_73 C.hA) dX12_airs_75 ?_
    refine lv_iload_n hx hb dX12_airs_78 rfl (lv_at hl 2 rfl) ?_
    obtain ⟨g6, h⟩ := h
    obtain ⟨g7, h⟩ := h
    refine q_iald C hP g6 g7 dX12_airs_79 ?_
    refine lv_iload hx hb dX12_airs_80 (lv_at hl 7 rfl) ?_
    refine q_cali (q_runV C hP (c_X12_fitsAt h) (cd_X12_fitsAt C.hA) (ini_X12 C.hA) (ml_X12_351 C.hA) (im_X12_fitsAt C.hA) (sl_X12_fitsAt C.hA) g1 (by decide) rfl hd_X12_fitsAt ⟨rfl, rfl⟩ ⟨Nat.le_of_ble_eq_true rfl, Nat.le_of_ble_eq_true rfl⟩ ⟨Nat.le_of_ble_eq_true rfl, Nat.le_of_ble_eq_true rfl⟩ hl.1 rfl (Nat.le_of_ble_eq_true rfl) dX12_airs_82) hP (fun v_82 u_82 H locs h hP => ?_)
    refine lv_if_ne (tgt := 91) hx hb dX12_airs_85 (by decide) (fun c85 => ?_) (fun c85 => ?_)
    · have h := h.2 c85
      obtain ⟨x4_91, ex4_91⟩ : ∃ y : Int32, y = x4 + (1 : Int32) := ⟨_, rfl⟩
      have h := h x4_91 ex4_91
      refine lv_iinc (v := x4_91) (lv' := [(4, .int x4_91), (0, .ref x0), (1, .int x1), (2, .int x2), (3, .int x3), (5, .int x5), (6, .int x6), (7, .int x7)]) hx hb dX12_airs_91 hl (k := 4) rfl (by rw [ex4_91]; rfl) (by decide) rfl (fun ls hl => ?_)
      refine lv_iload hx hb dX12_airs_94 (lv_at hl 5 rfl) ?_
      refine lv_iconst (v := (-1 : Int32)) hx hb dX12_airs_96 (by decide) ?_
      refine lv_icmp_ne (tgt := 105) hx hb dX12_airs_97 (by decide) (fun c97 => ?_) (fun c97 => ?_)
      · have h := h.2 c97
        refine lv_iload hx hb dX12_airs_105 (lv_at hl 5 rfl) ?_
        exact b_X12_airs_107 C hr hlk hk_56 h (lv_sub hl [1, 2, 3, 4, 0, 7] rfl) hP
      · have h := h.1 c97
        refine lv_iload hx hb dX12_airs_100 (lv_at hl 7 rfl) ?_
        refine lv_goto (tgt := 107) hx hb dX12_airs_102 (by decide) ?_
        exact b_X12_airs_107 C hr hlk hk_56 h (lv_sub hl [1, 2, 3, 4, 0, 7] rfl) hP
    · have h := h.1 c85
      refine lv_goto (tgt := 113) hx hb dX12_airs_88 (by decide) ?_
      exact b_X12_airs_113 C hr hlk hk_56 h (lv_sub hl [0, 1, 2, 3, 4, 5, 6, 7] rfl) hP
theorem l_X12_airs_56 {G : Gx} {Q : Int32 → Mm → Prop} {p : Program} {l : Launch} {e : Env} {s : State} {m : MethodId} {args : Array Value} {below : List Frame} {meth : Method} {c : Code} (C : Cx G p s m c cX12_airs RX12 8) (hr : meth.sig.returnType = (some .int)) (hlk : meth.locks = false) : ∀ (n : Nat) (x0 : Nat) (x1 : Int32) (x2 : Int32) (x3 : Int32) (x4 : Int32) (x5 : Int32) (x6 : Int32) (x7 : Int32) (u : Mm) (H : Heap) (locs : List Loc) (ls : Array Slot), V_X12_airs_56 G Q n x0 x1 x2 x3 x4 x5 x6 x7 u → lv_has ls 8 [(0, .ref x0), (1, .int x1), (2, .int x2), (3, .int x3), (4, .int x4), (5, .int x5), (6, .int x6), (7, .int x7)] → Hp G u s H locs → W p l e rm_X12_airs s m args below meth c H locs 0 0 (MQ below (Ei G Q) args s 0 0 (ag G)) (F0 m 56 ls []) := by
  intro n
  induction n with
  | zero => intro x0 x1 x2 x3 x4 x5 x6 x7 u H locs ls h; exact h.elim
  | succ n ih => intro x0 x1 x2 x3 x4 x5 x6 x7 u H locs ls h hl hP; exact b_X12_airs_56 C hr hlk ih h hl hP
set_option maxHeartbeats 4000000 in
set_option maxRecDepth 100000 in
theorem b_X12_airs_37 {G : Gx} {Q : Int32 → Mm → Prop} {p : Program} {l : Launch} {e : Env} {s : State} {m : MethodId} {args : Array Value} {below : List Frame} {meth : Method} {c : Code} (C : Cx G p s m c cX12_airs RX12 8) (hr : meth.sig.returnType = (some .int)) (hlk : meth.locks = false) {x0 : Nat} {u : Mm} {H : Heap} {locs : List Loc} {ls : Array Slot} (h : V_X12_airs_37 G Q x0 u) (hl : lv_has ls 8 [(0, .ref x0)]) (hP : Hp G u s H locs) : W p l e rm_X12_airs s m args below meth c H locs 0 0 (MQ below (Ei G Q) args s 0 0 (ag G)) (F0 m 37 ls []) := by
  have hx := C.1
  have hb := C.2.1
  unfold V_X12_airs_37 at h
  refine lv_aload_n hx hb dX12_airs_37 rfl (lv_at hl 0 rfl) ?_
  refine lv_iconst (v := (1 : Int32)) hx hb dX12_airs_38 (by decide) ?_
  obtain ⟨g1, h⟩ := h
  refine q_cali (q_runV C hP (c_X12_fail h) (cd_X12_fail C.hA) (ini_X12 C.hA) (ml_X12_249 C.hA) (im_X12_fail C.hA) (sl_X12_fail C.hA) g1 (by decide) rfl hd_X12_fail ⟨rfl, rfl⟩ ⟨Nat.le_of_ble_eq_true rfl, Nat.le_of_ble_eq_true rfl⟩ ⟨Nat.le_of_ble_eq_true rfl, Nat.le_of_ble_eq_true rfl⟩ hl.1 rfl (Nat.le_of_ble_eq_true rfl) dX12_airs_39) hP (fun v_39 u_39 H locs h hP => ?_)
  exact q_iret C hr hlk hP h (by decide) (by decide) dX12_airs_42
set_option maxHeartbeats 4000000 in
set_option maxRecDepth 100000 in
theorem c_X12_airs {l : Launch} {G : Gx} {p0 : Nat} {p1 : Int32} {p2 : Int32} {p3 : Int32} {u : Mm} {Q : Int32 → Mm → Prop} (h : V_X12_airs G p0 p1 p2 p3 u Q) : Met l yX12_airs [.code yX12_airs cX12_airs 8 (some .int)] rm_X12_airs (va_Pc [.ref p0, .int p1, .int p2, .int p3] (Wd G u)) (Ei G Q) 0 0 (ag G) := by
  refine q_met (by decide) (Nat.le_of_ble_eq_true rfl) ?_
  intro p e s m below meth c ls C hr hlk hnm hl hP
  have hl : lv_has ls 8 [(0, .ref p0), (1, .int p1), (2, .int p2), (3, .int p3)] := hl
  generalize ([.ref p0, .int p1, .int p2, .int p3] : List Value).toArray = args
  have hx := C.1
  have hb := C.2.1
  unfold V_X12_airs at h
  refine lv_aload_n hx hb dX12_airs_0 rfl (lv_at hl 0 rfl) ?_
  refine lv_iconst (v := (0 : Int32)) hx hb dX12_airs_1 (by decide) ?_
  obtain ⟨g1, h⟩ := h
  refine q_putI C hP (k := 1) tyX12_ok nmX12 (lay_X12 C.hA) rfl (by decide) rfl rfl rfl rfl g1 (fl_X12_147 C.hA) dX12_airs_2 (fun H locs hP => ?_)
  obtain ⟨u_2, eu_2, hP⟩ := Hp.nm hP
  have h := h u_2 eu_2
  refine lv_iload_n hx hb dX12_airs_5 rfl (lv_at hl 1 rfl) ?_
  refine q_cali (q_runS C hP (c_X12_isLand h) (cd_X12_isLand C.hA) (ini_X12 C.hA) (ml_X12_246 C.hA) (st_X12_isLand C.hA) hd_X12_isLand ⟨rfl, rfl⟩ ⟨Nat.le_of_ble_eq_true rfl, Nat.le_of_ble_eq_true rfl⟩ ⟨Nat.le_of_ble_eq_true rfl, Nat.le_of_ble_eq_true rfl⟩ hl.1 rfl (Nat.le_of_ble_eq_true rfl) dX12_airs_6) hP (fun v_6 u_6 H locs h hP => ?_)
  refine lv_if_eq (tgt := 37) hx hb dX12_airs_9 (by decide) (fun c9 => ?_) (fun c9 => ?_)
  · have h := h.1 c9
    exact b_X12_airs_37 C hr hlk h (lv_sub hl [0] rfl) hP
  · have h := h.2 c9
    refine lv_aload_n hx hb dX12_airs_12 rfl (lv_at hl 0 rfl) ?_
    refine lv_iload_n hx hb dX12_airs_13 rfl (lv_at hl 2 rfl) ?_
    refine q_cali (q_runV C hP (c_X12_isStation h) (cd_X12_isStation C.hA) (ini_X12 C.hA) (ml_X12_342 C.hA) (im_X12_isStation C.hA) (sl_X12_isStation C.hA) g1 (by decide) rfl hd_X12_isStation ⟨rfl, rfl⟩ ⟨Nat.le_of_ble_eq_true rfl, Nat.le_of_ble_eq_true rfl⟩ ⟨Nat.le_of_ble_eq_true rfl, Nat.le_of_ble_eq_true rfl⟩ hl.1 rfl (Nat.le_of_ble_eq_true rfl) dX12_airs_14) hP (fun v_14 u_14 H locs h hP => ?_)
    refine lv_if_eq (tgt := 37) hx hb dX12_airs_17 (by decide) (fun c17 => ?_) (fun c17 => ?_)
    · have h := h.1 c17
      exact b_X12_airs_37 C hr hlk h (lv_sub hl [0] rfl) hP
    · have h := h.2 c17
      refine lv_aload_n hx hb dX12_airs_20 rfl (lv_at hl 0 rfl) ?_
      refine lv_iload_n hx hb dX12_airs_21 rfl (lv_at hl 2 rfl) ?_
      refine q_cali (q_runV C hP (c_X12_isNamed h) (cd_X12_isNamed C.hA) (ini_X12 C.hA) (ml_X12_348 C.hA) (im_X12_isNamed C.hA) (sl_X12_isNamed C.hA) g1 (by decide) rfl hd_X12_isNamed ⟨rfl, rfl⟩ ⟨Nat.le_of_ble_eq_true rfl, Nat.le_of_ble_eq_true rfl⟩ ⟨Nat.le_of_ble_eq_true rfl, Nat.le_of_ble_eq_true rfl⟩ hl.1 rfl (Nat.le_of_ble_eq_true rfl) dX12_airs_22) hP (fun v_22 u_22 H locs h hP => ?_)
      refine lv_if_eq (tgt := 37) hx hb dX12_airs_25 (by decide) (fun c25 => ?_) (fun c25 => ?_)
      · have h := h.1 c25
        exact b_X12_airs_37 C hr hlk h (lv_sub hl [0] rfl) hP
      · have h := h.2 c25
        refine lv_iload_n hx hb dX12_airs_28 rfl (lv_at hl 3 rfl) ?_
        refine lv_iconst (v := (0 : Int32)) hx hb dX12_airs_29 (by decide) ?_
        refine lv_iconst (v := (2 : Int32)) hx hb dX12_airs_30 (by decide) ?_
        refine q_cali (q_runS C hP (c_X12_isIn h) (cd_X12_isIn C.hA) (ini_X12 C.hA) (ml_X12_150 C.hA) (st_X12_isIn C.hA) hd_X12_isIn ⟨rfl, rfl⟩ ⟨Nat.le_of_ble_eq_true rfl, Nat.le_of_ble_eq_true rfl⟩ ⟨Nat.le_of_ble_eq_true rfl, Nat.le_of_ble_eq_true rfl⟩ hl.1 rfl (Nat.le_of_ble_eq_true rfl) dX12_airs_31) hP (fun v_31 u_31 H locs h hP => ?_)
        refine lv_if_ne (tgt := 43) hx hb dX12_airs_34 (by decide) (fun c34 => ?_) (fun c34 => ?_)
        · have h := h.2 c34
          refine lv_iconst (v := (0 : Int32)) hx hb dX12_airs_43 (by decide) ?_
          refine lv_istore (lv' := [(4, .int (0 : Int32)), (0, .ref p0), (1, .int p1), (2, .int p2), (3, .int p3)]) hx hb dX12_airs_44 hl (by decide) rfl (fun ls hl => ?_)
          refine lv_iconst (v := (-1 : Int32)) hx hb dX12_airs_46 (by decide) ?_
          refine lv_istore (lv' := [(5, .int (-1 : Int32)), (4, .int (0 : Int32)), (0, .ref p0), (1, .int p1), (2, .int p2), (3, .int p3)]) hx hb dX12_airs_47 hl (by decide) rfl (fun ls hl => ?_)
          refine lv_iconst (v := (-1 : Int32)) hx hb dX12_airs_49 (by decide) ?_
          refine lv_istore (lv' := [(6, .int (-1 : Int32)), (5, .int (-1 : Int32)), (4, .int (0 : Int32)), (0, .ref p0), (1, .int p1), (2, .int p2), (3, .int p3)]) hx hb dX12_airs_50 hl (by decide) rfl (fun ls hl => ?_)
          refine lv_bipush (v := (50 : Int32)) hx hb dX12_airs_52 (by decide) ?_
          refine lv_istore (lv' := [(7, .int (50 : Int32)), (6, .int (-1 : Int32)), (5, .int (-1 : Int32)), (4, .int (0 : Int32)), (0, .ref p0), (1, .int p1), (2, .int p2), (3, .int p3)]) hx hb dX12_airs_54 hl (by decide) rfl (fun ls hl => ?_)
          obtain ⟨n, h⟩ := h
          exact l_X12_airs_56 C hr hlk n p0 p1 p2 p3 (0 : Int32) (-1 : Int32) (-1 : Int32) (50 : Int32) u_31 _ _ _ h (lv_sub hl [4, 5, 6, 7, 3, 2, 1, 0] rfl) hP
        · have h := h.1 c34
          exact b_X12_airs_37 C hr hlk h (lv_sub hl [0] rfl) hP
-- X12_whose
abbrev rm_X12_whose : Room := { frames := 5, cells := 0, slots := 0, locals := 146 }
theorem hd_X12_whose : yX12_whose.cls ≠ "java/lang/invoke/MethodHandle" ∧ yX12_whose.cls ≠ "java/lang/invoke/VarHandle" ∧ (parseMethodDescriptor yX12_whose.desc).map (fun d => d.parameters.length) = some 4 := by decide +kernel
def V_X12_whose_152 (G : Gx) (Q : Int32 → Mm → Prop) (k_101 : Nat → Int32 → Int32 → Int32 → Int32 → Int32 → Int32 → Int32 → Mm → Prop) (x0 : Nat) (x1 : Int32) (x2 : Int32) (x3 : Int32) (x4 : Int32) (x5 : Int32) (x6 : Int32) (x7 : Int32) (u : Mm) : Prop :=
  ∀ x7_152 : Int32, x7_152 = x7 + (-1 : Int32) → k_101 x0 x1 x2 x3 x4 x5 x6 x7_152 u
def V_X12_whose_101_B (G : Gx) (Q : Int32 → Mm → Prop) (k_101 : Nat → Int32 → Int32 → Int32 → Int32 → Int32 → Int32 → Int32 → Mm → Prop) (x0 : Nat) (x1 : Int32) (x2 : Int32) (x3 : Int32) (x4 : Int32) (x5 : Int32) (x6 : Int32) (x7 : Int32) (u : Mm) : Prop :=
  ((x7 < 0 → ((x4 = 0 → Q x5 u) ∧ (¬ x4 = 0 → Q x6 u))) ∧ (¬ x7 < 0 → kd G x0 = 12 ∧ V_X12_isHeard G x0 x1 x7 u (fun (v_110 : Int32) (u_110 : Mm) => ((v_110 = 0 → V_X12_whose_152 G Q k_101 x0 x1 x2 x3 x4 x5 x6 x7 u_110) ∧ (¬ v_110 = 0 → (gR u_110 x0 6) ≠ 0 ∧ kd G (gR u_110 x0 6) = 13 ∧ vp_in x1 (ln G (gR u_110 x0 6)) ∧ V_X12_tickOf G x0 x7 (gI u_110 (gR u_110 x0 6) x1.toNatClampNeg) u_110 (fun (v_125 : Int32) (u_125 : Mm) => (gR u_125 x0 34) ≠ 0 ∧ kd G (gR u_125 x0 34) = 13 ∧ vp_in (((12 : Int32) * x2) + x3) (ln G (gR u_125 x0 34)) ∧ ((v_125 = (gI u_125 (gR u_125 x0 34) (((12 : Int32) * x2) + x3).toNatClampNeg) → ∀ x5_145 : Int32, x5_145 = x5 + (1 : Int32) → V_X12_whose_152 G Q k_101 x0 x1 x2 x3 x4 x5_145 x7 x7 u_125) ∧ (¬ v_125 = (gI u_125 (gR u_125 x0 34) (((12 : Int32) * x2) + x3).toNatClampNeg) → V_X12_whose_152 G Q k_101 x0 x1 x2 x3 x4 x5 x6 x7 u_125))))))))
def V_X12_whose_101 (G : Gx) (Q : Int32 → Mm → Prop) : Nat → (Nat → Int32 → Int32 → Int32 → Int32 → Int32 → Int32 → Int32 → Mm → Prop)
  | 0 => fun _ _ _ _ _ _ _ _ _ => False
  | n + 1 => fun x0 x1 x2 x3 x4 x5 x6 x7 u => V_X12_whose_101_B G Q (V_X12_whose_101 G Q n) x0 x1 x2 x3 x4 x5 x6 x7 u
def V_X12_whose_55 (G : Gx) (Q : Int32 → Mm → Prop) (x0 : Nat) (u : Mm) : Prop :=
  kd G x0 = 12 ∧ V_X12_fail G x0 (1 : Int32) u (fun (v_57 : Int32) (u_57 : Mm) => Q v_57 u_57)
def V_X12_whose (G : Gx) (p0 : Nat) (p1 : Int32) (p2 : Int32) (p3 : Int32) (p4 : Int32) (u : Mm) (Q : Int32 → Mm → Prop) : Prop :=
  kd G p0 = 12 ∧ ∀ u_2 : Mm, u_2 = sI u p0 1 (0 : Int32) → V_X12_isLand G p1 u_2 (fun (v_6 : Int32) (u_6 : Mm) => ((v_6 = 0 → V_X12_whose_55 G Q p0 u_6) ∧ (¬ v_6 = 0 → V_X12_isStation G p0 p2 u_6 (fun (v_14 : Int32) (u_14 : Mm) => ((v_14 = 0 → V_X12_whose_55 G Q p0 u_14) ∧ (¬ v_14 = 0 → V_X12_isNamed G p0 p2 u_14 (fun (v_22 : Int32) (u_22 : Mm) => ((v_22 = 0 → V_X12_whose_55 G Q p0 u_22) ∧ (¬ v_22 = 0 → (gR u_22 p0 33) ≠ 0 ∧ kd G (gR u_22 p0 33) = 13 ∧ vp_in p2 (ln G (gR u_22 p0 33)) ∧ V_X12_isIn G p3 (0 : Int32) ((gI u_22 (gR u_22 p0 33) p2.toNatClampNeg) - (1 : Int32)) u_22 (fun (v_38 : Int32) (u_38 : Mm) => ((v_38 = 0 → V_X12_whose_55 G Q p0 u_38) ∧ (¬ v_38 = 0 → ((p4 < 0 → V_X12_whose_55 G Q p0 u_38) ∧ (¬ p4 < 0 → ((p4 ≤ (1 : Int32) → (gR u_38 p0 29) ≠ 0 ∧ kd G (gR u_38 p0 29) = 13 ∧ vp_in p2 (ln G (gR u_38 p0 29)) ∧ (gR u_38 p0 30) ≠ 0 ∧ kd G (gR u_38 p0 30) = 13 ∧ vp_in p2 (ln G (gR u_38 p0 30)) ∧ (gR u_38 p0 31) ≠ 0 ∧ kd G (gR u_38 p0 31) = 13 ∧ vp_in p2 (ln G (gR u_38 p0 31)) ∧ (gR u_38 p0 32) ≠ 0 ∧ kd G (gR u_38 p0 32) = 13 ∧ vp_in p2 (ln G (gR u_38 p0 32)) ∧ V_X12_tellEchoes G p0 p1 (0 : Int32) (gI u_38 (gR u_38 p0 29) p2.toNatClampNeg) (gI u_38 (gR u_38 p0 30) p2.toNatClampNeg) (gI u_38 (gR u_38 p0 31) p2.toNatClampNeg) (gI u_38 (gR u_38 p0 32) p2.toNatClampNeg) u_38 (fun (u_88 : Mm) => ∃ n : Nat, V_X12_whose_101 G Q n p0 p1 p2 p3 p4 (0 : Int32) (-1 : Int32) (79 : Int32) u_88)) ∧ (¬ p4 ≤ (1 : Int32) → V_X12_whose_55 G Q p0 u_38))))))))))))))))
set_option maxHeartbeats 4000000 in
set_option maxRecDepth 100000 in
theorem b_X12_whose_152 {G : Gx} {Q : Int32 → Mm → Prop} {p : Program} {l : Launch} {e : Env} {s : State} {m : MethodId} {args : Array Value} {below : List Frame} {meth : Method} {c : Code} (C : Cx G p s m c cX12_whose RX12 8) (hr : meth.sig.returnType = (some .int)) (hlk : meth.locks = false) {k_101 : Nat → Int32 → Int32 → Int32 → Int32 → Int32 → Int32 → Int32 → Mm → Prop} (hk_101 : ∀ (x0 : Nat) (x1 : Int32) (x2 : Int32) (x3 : Int32) (x4 : Int32) (x5 : Int32) (x6 : Int32) (x7 : Int32) (u : Mm) (H : Heap) (locs : List Loc) (ls : Array Slot), k_101 x0 x1 x2 x3 x4 x5 x6 x7 u → lv_has ls 8 [(0, .ref x0), (1, .int x1), (2, .int x2), (3, .int x3), (4, .int x4), (5, .int x5), (6, .int x6), (7, .int x7)] → Hp G u s H locs → W p l e rm_X12_whose s m args below meth c H locs 0 0 (MQ below (Ei G Q) args s 0 0 (ag G)) (F0 m 101 ls [])) {x0 : Nat} {x1 : Int32} {x2 : Int32} {x3 : Int32} {x4 : Int32} {x5 : Int32} {x6 : Int32} {x7 : Int32} {u : Mm} {H : Heap} {locs : List Loc} {ls : Array Slot} (h : V_X12_whose_152 G Q k_101 x0 x1 x2 x3 x4 x5 x6 x7 u) (hl : lv_has ls 8 [(0, .ref x0), (1, .int x1), (2, .int x2), (3, .int x3), (4, .int x4), (5, .int x5), (6, .int x6), (7, .int x7)]) (hP : Hp G u s H locs) : W p l e rm_X12_whose s m args below meth c H locs 0 0 (MQ below (Ei G Q) args s 0 0 (ag G)) (F0 m 152 ls []) := by
  have hx := C.1
  have hb := C.2.1
  unfold V_X12_whose_152 at h
  obtain ⟨x7_152, ex7_152⟩ : ∃ y : Int32, y = x7 + (-1 : Int32) := ⟨_, rfl⟩
  have h := h x7_152 ex7_152
  refine lv_iinc (v := x7_152) (lv' := [(7, .int x7_152), (0, .ref x0), (1, .int x1), (2, .int x2), (3, .int x3), (4, .int x4), (5, .int x5), (6, .int x6)]) hx hb dX12_whose_152 hl (k := 7) rfl (by rw [ex7_152]; rfl) (by decide) rfl (fun ls hl => ?_)
  refine lv_goto (tgt := 101) hx hb dX12_whose_155 (by decide) ?_
  exact hk_101 x0 x1 x2 x3 x4 x5 x6 x7_152 u _ _ _ h (lv_sub hl [1, 2, 3, 4, 5, 6, 7, 0] rfl) hP
set_option maxHeartbeats 4000000 in
set_option maxRecDepth 100000 in
theorem b_X12_whose_101 {G : Gx} {Q : Int32 → Mm → Prop} {p : Program} {l : Launch} {e : Env} {s : State} {m : MethodId} {args : Array Value} {below : List Frame} {meth : Method} {c : Code} (C : Cx G p s m c cX12_whose RX12 8) (hr : meth.sig.returnType = (some .int)) (hlk : meth.locks = false) {k_101 : Nat → Int32 → Int32 → Int32 → Int32 → Int32 → Int32 → Int32 → Mm → Prop} (hk_101 : ∀ (x0 : Nat) (x1 : Int32) (x2 : Int32) (x3 : Int32) (x4 : Int32) (x5 : Int32) (x6 : Int32) (x7 : Int32) (u : Mm) (H : Heap) (locs : List Loc) (ls : Array Slot), k_101 x0 x1 x2 x3 x4 x5 x6 x7 u → lv_has ls 8 [(0, .ref x0), (1, .int x1), (2, .int x2), (3, .int x3), (4, .int x4), (5, .int x5), (6, .int x6), (7, .int x7)] → Hp G u s H locs → W p l e rm_X12_whose s m args below meth c H locs 0 0 (MQ below (Ei G Q) args s 0 0 (ag G)) (F0 m 101 ls [])) {x0 : Nat} {x1 : Int32} {x2 : Int32} {x3 : Int32} {x4 : Int32} {x5 : Int32} {x6 : Int32} {x7 : Int32} {u : Mm} {H : Heap} {locs : List Loc} {ls : Array Slot} (h : V_X12_whose_101_B G Q k_101 x0 x1 x2 x3 x4 x5 x6 x7 u) (hl : lv_has ls 8 [(0, .ref x0), (1, .int x1), (2, .int x2), (3, .int x3), (4, .int x4), (5, .int x5), (6, .int x6), (7, .int x7)]) (hP : Hp G u s H locs) : W p l e rm_X12_whose s m args below meth c H locs 0 0 (MQ below (Ei G Q) args s 0 0 (ag G)) (F0 m 101 ls []) := by
  have hx := C.1
  have hb := C.2.1
  unfold V_X12_whose_101_B at h
  refine lv_iload hx hb dX12_whose_101 (lv_at hl 7 rfl) ?_
  refine lv_if_lt (tgt := 158) hx hb dX12_whose_103 (by decide) (fun c103 => ?_) (fun c103 => ?_)
  · have h := h.1 c103
    refine lv_iload hx hb dX12_whose_158 (lv_at hl 4 rfl) ?_
    refine lv_if_ne (tgt := 168) hx hb dX12_whose_160 (by decide) (fun c160 => ?_) (fun c160 => ?_)
    · have h := h.2 c160
      refine lv_iload hx hb dX12_whose_168 (lv_at hl 6 rfl) ?_
      exact q_iret C hr hlk hP h (by decide) (by decide) dX12_whose_170
    · have h := h.1 c160
      refine lv_iload hx hb dX12_whose_163 (lv_at hl 5 rfl) ?_
      refine lv_goto (tgt := 170) hx hb dX12_whose_165 (by decide) ?_
      exact q_iret C hr hlk hP h (by decide) (by decide) dX12_whose_170
  · have h := h.2 c103
    refine lv_aload_n hx hb dX12_whose_106 rfl (lv_at hl 0 rfl) ?_
    refine lv_iload_n hx hb dX12_whose_107 rfl (lv_at hl 1 rfl) ?_
    refine lv_iload hx hb dX12_whose_108 (lv_at hl 7 rfl) ?_
    obtain ⟨g1, h⟩ := h
    refine q_cali (q_runV C hP (c_X12_isHeard h) (cd_X12_isHeard C.hA) (ini_X12 C.hA) (ml_X12_320 C.hA) (im_X12_isHeard C.hA) (sl_X12_isHeard C.hA) g1 (by decide) rfl hd_X12_isHeard ⟨rfl, rfl⟩ ⟨Nat.le_of_ble_eq_true rfl, Nat.le_of_ble_eq_true rfl⟩ ⟨Nat.le_of_ble_eq_true rfl, Nat.le_of_ble_eq_true rfl⟩ hl.1 rfl (Nat.le_of_ble_eq_true rfl) dX12_whose_110) hP (fun v_110 u_110 H locs h hP => ?_)
    refine lv_if_eq (tgt := 152) hx hb dX12_whose_113 (by decide) (fun c113 => ?_) (fun c113 => ?_)
    · have h := h.1 c113
      exact b_X12_whose_152 C hr hlk hk_101 h (lv_sub hl [0, 1, 2, 3, 4, 5, 6, 7] rfl) hP
    · have h := h.2 c113
      refine lv_aload_n hx hb dX12_whose_116 rfl (lv_at hl 0 rfl) ?_
      refine lv_iload hx hb dX12_whose_117 (lv_at hl 7 rfl) ?_
      refine lv_aload_n hx hb dX12_whose_119 rfl (lv_at hl 0 rfl) ?_
      obtain ⟨g2, h⟩ := h
      refine q_getR C hP (k := 6) (lay_X12 C.hA) rfl (by decide) g1 g2 (fl_X12_39 C.hA) dX12_whose_120 ?_
      refine lv_iload_n hx hb dX12_whose_123 rfl (lv_at hl 1 rfl) ?_
      obtain ⟨g3, h⟩ := h
      obtain ⟨g4, h⟩ := h
      refine q_iald C hP g3 g4 dX12_whose_124 ?_
      refine q_cali (q_runV C hP (c_X12_tickOf h) (cd_X12_tickOf C.hA) (ini_X12 C.hA) (ml_X12_324 C.hA) (im_X12_tickOf C.hA) (sl_X12_tickOf C.hA) g1 (by decide) rfl hd_X12_tickOf ⟨rfl, rfl⟩ ⟨Nat.le_of_ble_eq_true rfl, Nat.le_of_ble_eq_true rfl⟩ ⟨Nat.le_of_ble_eq_true rfl, Nat.le_of_ble_eq_true rfl⟩ hl.1 rfl (Nat.le_of_ble_eq_true rfl) dX12_whose_125) hP (fun v_125 u_125 H locs h hP => ?_)
      refine lv_aload_n hx hb dX12_whose_128 rfl (lv_at hl 0 rfl) ?_
      obtain ⟨g5, h⟩ := h
      refine q_getR C hP (k := 34) (lay_X12 C.hA) rfl (by decide) g1 g5 (fl_X12_85 C.hA) dX12_whose_129 ?_
      refine lv_bipush (v := (12 : Int32)) hx hb dX12_whose_132 (by decide) ?_
      refine lv_iload_n hx hb dX12_whose_134 rfl (lv_at hl 2 rfl) ?_
      refine lv_imul hx hb dX12_whose_135 ?_
      refine lv_iload_n hx hb dX12_whose_136 rfl (lv_at hl 3 rfl) ?_
      refine lv_iadd hx hb dX12_whose_137 ?_
      obtain ⟨g6, h⟩ := h
      obtain ⟨g7, h⟩ := h
      refine q_iald C hP g6 g7 dX12_whose_138 ?_
      refine lv_icmp_eq (tgt := 145) hx hb dX12_whose_139 (by decide) (fun c139 => ?_) (fun c139 => ?_)
      · have h := h.1 c139
        obtain ⟨x5_145, ex5_145⟩ : ∃ y : Int32, y = x5 + (1 : Int32) := ⟨_, rfl⟩
        have h := h x5_145 ex5_145
        refine lv_iinc (v := x5_145) (lv' := [(5, .int x5_145), (0, .ref x0), (1, .int x1), (2, .int x2), (3, .int x3), (4, .int x4), (6, .int x6), (7, .int x7)]) hx hb dX12_whose_145 hl (k := 5) rfl (by rw [ex5_145]; rfl) (by decide) rfl (fun ls hl => ?_)
        refine lv_iload hx hb dX12_whose_148 (lv_at hl 7 rfl) ?_
        refine lv_istore (lv' := [(6, .int x7), (5, .int x5_145), (0, .ref x0), (1, .int x1), (2, .int x2), (3, .int x3), (4, .int x4), (7, .int x7)]) hx hb dX12_whose_150 hl (by decide) rfl (fun ls hl => ?_)
        exact b_X12_whose_152 C hr hlk hk_101 h (lv_sub hl [2, 3, 4, 5, 6, 1, 0, 7] rfl) hP
      · have h := h.2 c139
        refine lv_goto (tgt := 152) hx hb dX12_whose_142 (by decide) ?_
        exact b_X12_whose_152 C hr hlk hk_101 h (lv_sub hl [0, 1, 2, 3, 4, 5, 6, 7] rfl) hP
theorem l_X12_whose_101 {G : Gx} {Q : Int32 → Mm → Prop} {p : Program} {l : Launch} {e : Env} {s : State} {m : MethodId} {args : Array Value} {below : List Frame} {meth : Method} {c : Code} (C : Cx G p s m c cX12_whose RX12 8) (hr : meth.sig.returnType = (some .int)) (hlk : meth.locks = false) : ∀ (n : Nat) (x0 : Nat) (x1 : Int32) (x2 : Int32) (x3 : Int32) (x4 : Int32) (x5 : Int32) (x6 : Int32) (x7 : Int32) (u : Mm) (H : Heap) (locs : List Loc) (ls : Array Slot), V_X12_whose_101 G Q n x0 x1 x2 x3 x4 x5 x6 x7 u → lv_has ls 8 [(0, .ref x0), (1, .int x1), (2, .int x2), (3, .int x3), (4, .int x4), (5, .int x5), (6, .int x6), (7, .int x7)] → Hp G u s H locs → W p l e rm_X12_whose s m args below meth c H locs 0 0 (MQ below (Ei G Q) args s 0 0 (ag G)) (F0 m 101 ls []) := by
  intro n
  induction n with
  | zero => intro x0 x1 x2 x3 x4 x5 x6 x7 u H locs ls h; exact h.elim
  | succ n ih => intro x0 x1 x2 x3 x4 x5 x6 x7 u H locs ls h hl hP; exact b_X12_whose_101 C hr hlk ih h hl hP
set_option maxHeartbeats 4000000 in
set_option maxRecDepth 100000 in
theorem b_X12_whose_55 {G : Gx} {Q : Int32 → Mm → Prop} {p : Program} {l : Launch} {e : Env} {s : State} {m : MethodId} {args : Array Value} {below : List Frame} {meth : Method} {c : Code} (C : Cx G p s m c cX12_whose RX12 8) (hr : meth.sig.returnType = (some .int)) (hlk : meth.locks = false) {x0 : Nat} {u : Mm} {H : Heap} {locs : List Loc} {ls : Array Slot} (h : V_X12_whose_55 G Q x0 u) (hl : lv_has ls 8 [(0, .ref x0)]) (hP : Hp G u s H locs) : W p l e rm_X12_whose s m args below meth c H locs 0 0 (MQ below (Ei G Q) args s 0 0 (ag G)) (F0 m 55 ls []) := by
  have hx := C.1
  have hb := C.2.1
  unfold V_X12_whose_55 at h
  refine lv_aload_n hx hb dX12_whose_55 rfl (lv_at hl 0 rfl) ?_
  refine lv_iconst (v := (1 : Int32)) hx hb dX12_whose_56 (by decide) ?_
  obtain ⟨g1, h⟩ := h
  refine q_cali (q_runV C hP (c_X12_fail h) (cd_X12_fail C.hA) (ini_X12 C.hA) (ml_X12_249 C.hA) (im_X12_fail C.hA) (sl_X12_fail C.hA) g1 (by decide) rfl hd_X12_fail ⟨rfl, rfl⟩ ⟨Nat.le_of_ble_eq_true rfl, Nat.le_of_ble_eq_true rfl⟩ ⟨Nat.le_of_ble_eq_true rfl, Nat.le_of_ble_eq_true rfl⟩ hl.1 rfl (Nat.le_of_ble_eq_true rfl) dX12_whose_57) hP (fun v_57 u_57 H locs h hP => ?_)
  exact q_iret C hr hlk hP h (by decide) (by decide) dX12_whose_60
set_option maxHeartbeats 4000000 in
set_option maxRecDepth 100000 in
theorem c_X12_whose {l : Launch} {G : Gx} {p0 : Nat} {p1 : Int32} {p2 : Int32} {p3 : Int32} {p4 : Int32} {u : Mm} {Q : Int32 → Mm → Prop} (h : V_X12_whose G p0 p1 p2 p3 p4 u Q) : Met l yX12_whose [.code yX12_whose cX12_whose 8 (some .int)] rm_X12_whose (va_Pc [.ref p0, .int p1, .int p2, .int p3, .int p4] (Wd G u)) (Ei G Q) 0 0 (ag G) := by
  refine q_met (by decide) (Nat.le_of_ble_eq_true rfl) ?_
  intro p e s m below meth c ls C hr hlk hnm hl hP
  have hl : lv_has ls 8 [(0, .ref p0), (1, .int p1), (2, .int p2), (3, .int p3), (4, .int p4)] := hl
  generalize ([.ref p0, .int p1, .int p2, .int p3, .int p4] : List Value).toArray = args
  have hx := C.1
  have hb := C.2.1
  unfold V_X12_whose at h
  refine lv_aload_n hx hb dX12_whose_0 rfl (lv_at hl 0 rfl) ?_
  refine lv_iconst (v := (0 : Int32)) hx hb dX12_whose_1 (by decide) ?_
  obtain ⟨g1, h⟩ := h
  refine q_putI C hP (k := 1) tyX12_ok nmX12 (lay_X12 C.hA) rfl (by decide) rfl rfl rfl rfl g1 (fl_X12_147 C.hA) dX12_whose_2 (fun H locs hP => ?_)
  obtain ⟨u_2, eu_2, hP⟩ := Hp.nm hP
  have h := h u_2 eu_2
  refine lv_iload_n hx hb dX12_whose_5 rfl (lv_at hl 1 rfl) ?_
  refine q_cali (q_runS C hP (c_X12_isLand h) (cd_X12_isLand C.hA) (ini_X12 C.hA) (ml_X12_246 C.hA) (st_X12_isLand C.hA) hd_X12_isLand ⟨rfl, rfl⟩ ⟨Nat.le_of_ble_eq_true rfl, Nat.le_of_ble_eq_true rfl⟩ ⟨Nat.le_of_ble_eq_true rfl, Nat.le_of_ble_eq_true rfl⟩ hl.1 rfl (Nat.le_of_ble_eq_true rfl) dX12_whose_6) hP (fun v_6 u_6 H locs h hP => ?_)
  refine lv_if_eq (tgt := 55) hx hb dX12_whose_9 (by decide) (fun c9 => ?_) (fun c9 => ?_)
  · have h := h.1 c9
    exact b_X12_whose_55 C hr hlk h (lv_sub hl [0] rfl) hP
  · have h := h.2 c9
    refine lv_aload_n hx hb dX12_whose_12 rfl (lv_at hl 0 rfl) ?_
    refine lv_iload_n hx hb dX12_whose_13 rfl (lv_at hl 2 rfl) ?_
    refine q_cali (q_runV C hP (c_X12_isStation h) (cd_X12_isStation C.hA) (ini_X12 C.hA) (ml_X12_342 C.hA) (im_X12_isStation C.hA) (sl_X12_isStation C.hA) g1 (by decide) rfl hd_X12_isStation ⟨rfl, rfl⟩ ⟨Nat.le_of_ble_eq_true rfl, Nat.le_of_ble_eq_true rfl⟩ ⟨Nat.le_of_ble_eq_true rfl, Nat.le_of_ble_eq_true rfl⟩ hl.1 rfl (Nat.le_of_ble_eq_true rfl) dX12_whose_14) hP (fun v_14 u_14 H locs h hP => ?_)
    refine lv_if_eq (tgt := 55) hx hb dX12_whose_17 (by decide) (fun c17 => ?_) (fun c17 => ?_)
    · have h := h.1 c17
      exact b_X12_whose_55 C hr hlk h (lv_sub hl [0] rfl) hP
    · have h := h.2 c17
      refine lv_aload_n hx hb dX12_whose_20 rfl (lv_at hl 0 rfl) ?_
      refine lv_iload_n hx hb dX12_whose_21 rfl (lv_at hl 2 rfl) ?_
      refine q_cali (q_runV C hP (c_X12_isNamed h) (cd_X12_isNamed C.hA) (ini_X12 C.hA) (ml_X12_348 C.hA) (im_X12_isNamed C.hA) (sl_X12_isNamed C.hA) g1 (by decide) rfl hd_X12_isNamed ⟨rfl, rfl⟩ ⟨Nat.le_of_ble_eq_true rfl, Nat.le_of_ble_eq_true rfl⟩ ⟨Nat.le_of_ble_eq_true rfl, Nat.le_of_ble_eq_true rfl⟩ hl.1 rfl (Nat.le_of_ble_eq_true rfl) dX12_whose_22) hP (fun v_22 u_22 H locs h hP => ?_)
      refine lv_if_eq (tgt := 55) hx hb dX12_whose_25 (by decide) (fun c25 => ?_) (fun c25 => ?_)
      · have h := h.1 c25
        exact b_X12_whose_55 C hr hlk h (lv_sub hl [0] rfl) hP
      · have h := h.2 c25
        refine lv_iload_n hx hb dX12_whose_28 rfl (lv_at hl 3 rfl) ?_
        refine lv_iconst (v := (0 : Int32)) hx hb dX12_whose_29 (by decide) ?_
        refine lv_aload_n hx hb dX12_whose_30 rfl (lv_at hl 0 rfl) ?_
        obtain ⟨g2, h⟩ := h
        refine q_getR C hP (k := 33) (lay_X12 C.hA) rfl (by decide) g1 g2 (fl_X12_82 C.hA) dX12_whose_31 ?_
        refine lv_iload_n hx hb dX12_whose_34 rfl (lv_at hl 2 rfl) ?_
        obtain ⟨g3, h⟩ := h
        obtain ⟨g4, h⟩ := h
        refine q_iald C hP g3 g4 dX12_whose_35 ?_
        refine lv_iconst (v := (1 : Int32)) hx hb dX12_whose_36 (by decide) ?_
        refine lv_isub hx hb dX12_whose_37 ?_
        refine q_cali (q_runS C hP (c_X12_isIn h) (cd_X12_isIn C.hA) (ini_X12 C.hA) (ml_X12_150 C.hA) (st_X12_isIn C.hA) hd_X12_isIn ⟨rfl, rfl⟩ ⟨Nat.le_of_ble_eq_true rfl, Nat.le_of_ble_eq_true rfl⟩ ⟨Nat.le_of_ble_eq_true rfl, Nat.le_of_ble_eq_true rfl⟩ hl.1 rfl (Nat.le_of_ble_eq_true rfl) dX12_whose_38) hP (fun v_38 u_38 H locs h hP => ?_)
        refine lv_if_eq (tgt := 55) hx hb dX12_whose_41 (by decide) (fun c41 => ?_) (fun c41 => ?_)
        · have h := h.1 c41
          exact b_X12_whose_55 C hr hlk h (lv_sub hl [0] rfl) hP
        · have h := h.2 c41
          refine lv_iload hx hb dX12_whose_44 (lv_at hl 4 rfl) ?_
          refine lv_if_lt (tgt := 55) hx hb dX12_whose_46 (by decide) (fun c46 => ?_) (fun c46 => ?_)
          · have h := h.1 c46
            exact b_X12_whose_55 C hr hlk h (lv_sub hl [0] rfl) hP
          · have h := h.2 c46
            refine lv_iload hx hb dX12_whose_49 (lv_at hl 4 rfl) ?_
            refine lv_iconst (v := (1 : Int32)) hx hb dX12_whose_51 (by decide) ?_
            refine lv_icmp_le (tgt := 61) hx hb dX12_whose_52 (by decide) (fun c52 => ?_) (fun c52 => ?_)
            · have h := h.1 c52
              refine lv_aload_n hx hb dX12_whose_61 rfl (lv_at hl 0 rfl) ?_
              refine lv_iload_n hx hb dX12_whose_62 rfl (lv_at hl 1 rfl) ?_
              refine lv_iconst (v := (0 : Int32)) hx hb dX12_whose_63 (by decide) ?_
              refine lv_aload_n hx hb dX12_whose_64 rfl (lv_at hl 0 rfl) ?_
              obtain ⟨g5, h⟩ := h
              refine q_getR C hP (k := 29) (lay_X12 C.hA) rfl (by decide) g1 g5 (fl_X12_70 C.hA) dX12_whose_65 ?_
              refine lv_iload_n hx hb dX12_whose_68 rfl (lv_at hl 2 rfl) ?_
              obtain ⟨g6, h⟩ := h
              obtain ⟨g7, h⟩ := h
              refine q_iald C hP g6 g7 dX12_whose_69 ?_
              refine lv_aload_n hx hb dX12_whose_70 rfl (lv_at hl 0 rfl) ?_
              obtain ⟨g8, h⟩ := h
              refine q_getR C hP (k := 30) (lay_X12 C.hA) rfl (by decide) g1 g8 (fl_X12_73 C.hA) dX12_whose_71 ?_
              refine lv_iload_n hx hb dX12_whose_74 rfl (lv_at hl 2 rfl) ?_
              obtain ⟨g9, h⟩ := h
              obtain ⟨g10, h⟩ := h
              refine q_iald C hP g9 g10 dX12_whose_75 ?_
              refine lv_aload_n hx hb dX12_whose_76 rfl (lv_at hl 0 rfl) ?_
              obtain ⟨g11, h⟩ := h
              refine q_getR C hP (k := 31) (lay_X12 C.hA) rfl (by decide) g1 g11 (fl_X12_76 C.hA) dX12_whose_77 ?_
              refine lv_iload_n hx hb dX12_whose_80 rfl (lv_at hl 2 rfl) ?_
              obtain ⟨g12, h⟩ := h
              obtain ⟨g13, h⟩ := h
              refine q_iald C hP g12 g13 dX12_whose_81 ?_
              refine lv_aload_n hx hb dX12_whose_82 rfl (lv_at hl 0 rfl) ?_
              obtain ⟨g14, h⟩ := h
              refine q_getR C hP (k := 32) (lay_X12 C.hA) rfl (by decide) g1 g14 (fl_X12_79 C.hA) dX12_whose_83 ?_
              refine lv_iload_n hx hb dX12_whose_86 rfl (lv_at hl 2 rfl) ?_
              obtain ⟨g15, h⟩ := h
              obtain ⟨g16, h⟩ := h
              refine q_iald C hP g15 g16 dX12_whose_87 ?_
              refine q_calv (q_runV C hP (c_X12_tellEchoes h) (cd_X12_tellEchoes C.hA) (ini_X12 C.hA) (ml_X12_316 C.hA) (im_X12_tellEchoes C.hA) (sl_X12_tellEchoes C.hA) g1 (by decide) rfl hd_X12_tellEchoes ⟨rfl, rfl⟩ ⟨Nat.le_of_ble_eq_true rfl, Nat.le_of_ble_eq_true rfl⟩ ⟨Nat.le_of_ble_eq_true rfl, Nat.le_of_ble_eq_true rfl⟩ hl.1 rfl (Nat.le_of_ble_eq_true rfl) dX12_whose_88) hP (fun u_88 H locs h hP => ?_)
              refine lv_iconst (v := (0 : Int32)) hx hb dX12_whose_91 (by decide) ?_
              refine lv_istore (lv' := [(5, .int (0 : Int32)), (0, .ref p0), (1, .int p1), (2, .int p2), (3, .int p3), (4, .int p4)]) hx hb dX12_whose_92 hl (by decide) rfl (fun ls hl => ?_)
              refine lv_iconst (v := (-1 : Int32)) hx hb dX12_whose_94 (by decide) ?_
              refine lv_istore (lv' := [(6, .int (-1 : Int32)), (5, .int (0 : Int32)), (0, .ref p0), (1, .int p1), (2, .int p2), (3, .int p3), (4, .int p4)]) hx hb dX12_whose_95 hl (by decide) rfl (fun ls hl => ?_)
              refine lv_bipush (v := (79 : Int32)) hx hb dX12_whose_97 (by decide) ?_
              refine lv_istore (lv' := [(7, .int (79 : Int32)), (6, .int (-1 : Int32)), (5, .int (0 : Int32)), (0, .ref p0), (1, .int p1), (2, .int p2), (3, .int p3), (4, .int p4)]) hx hb dX12_whose_99 hl (by decide) rfl (fun ls hl => ?_)
              obtain ⟨n, h⟩ := h
              exact l_X12_whose_101 C hr hlk n p0 p1 p2 p3 p4 (0 : Int32) (-1 : Int32) (79 : Int32) u_88 _ _ _ h (lv_sub hl [3, 4, 5, 6, 7, 2, 1, 0] rfl) hP
            · have h := h.2 c52
              exact b_X12_whose_55 C hr hlk h (lv_sub hl [0] rfl) hP
-- X12_allFit
abbrev rm_X12_allFit : Room := { frames := 7, cells := 0, slots := 0, locals := 200 }
theorem hd_X12_allFit : yX12_allFit.cls ≠ "java/lang/invoke/MethodHandle" ∧ yX12_allFit.cls ≠ "java/lang/invoke/VarHandle" ∧ (parseMethodDescriptor yX12_allFit.desc).map (fun d => d.parameters.length) = some 3 := by decide +kernel
def V_X12_allFit_65 (G : Gx) (Q : Int32 → Mm → Prop) (k_3 : Nat → Int32 → Int32 → Int32 → Int32 → Mm → Prop) (x0 : Nat) (x1 : Int32) (x2 : Int32) (x3 : Int32) (x4 : Int32) (u : Mm) : Prop :=
  ∀ x4_65 : Int32, x4_65 = x4 + (1 : Int32) → k_3 x0 x1 x2 x3 x4_65 u
def V_X12_allFit_3_B (G : Gx) (Q : Int32 → Mm → Prop) (k_3 : Nat → Int32 → Int32 → Int32 → Int32 → Mm → Prop) (x0 : Nat) (x1 : Int32) (x2 : Int32) (x3 : Int32) (x4 : Int32) (u : Mm) : Prop :=
  kd G x0 = 12 ∧ (((gI u x0 27) ≤ x4 → Q (1 : Int32) u) ∧ (¬ (gI u x0 27) ≤ x4 → V_X12_isNamed G x0 x4 u (fun (v_15 : Int32) (u_15 : Mm) => ((v_15 = 0 → V_X12_allFit_65 G Q k_3 x0 x1 x2 x3 x4 u_15) ∧ (¬ v_15 = 0 → (gR u_15 x0 31) ≠ 0 ∧ kd G (gR u_15 x0 31) = 13 ∧ vp_in x4 (ln G (gR u_15 x0 31)) ∧ (((gI u_15 (gR u_15 x0 31) x4.toNatClampNeg) = x3 → (gR u_15 x0 29) ≠ 0 ∧ kd G (gR u_15 x0 29) = 13 ∧ vp_in x4 (ln G (gR u_15 x0 29)) ∧ (gR u_15 x0 30) ≠ 0 ∧ kd G (gR u_15 x0 30) = 13 ∧ vp_in x4 (ln G (gR u_15 x0 30)) ∧ (gR u_15 x0 6) ≠ 0 ∧ kd G (gR u_15 x0 6) = 13 ∧ vp_in x1 (ln G (gR u_15 x0 6)) ∧ V_X12_fitsAt G x0 x1 x2 x4 (gI u_15 (gR u_15 x0 29) x4.toNatClampNeg) (gI u_15 (gR u_15 x0 30) x4.toNatClampNeg) (gI u_15 (gR u_15 x0 6) x1.toNatClampNeg) u_15 (fun (v_57 : Int32) (u_57 : Mm) => ((v_57 = 0 → Q (0 : Int32) u_57) ∧ (¬ v_57 = 0 → V_X12_allFit_65 G Q k_3 x0 x1 x2 x3 x4 u_57)))) ∧ (¬ (gI u_15 (gR u_15 x0 31) x4.toNatClampNeg) = x3 → V_X12_allFit_65 G Q k_3 x0 x1 x2 x3 x4 u_15)))))))
def V_X12_allFit_3 (G : Gx) (Q : Int32 → Mm → Prop) : Nat → (Nat → Int32 → Int32 → Int32 → Int32 → Mm → Prop)
  | 0 => fun _ _ _ _ _ _ => False
  | n + 1 => fun x0 x1 x2 x3 x4 u => V_X12_allFit_3_B G Q (V_X12_allFit_3 G Q n) x0 x1 x2 x3 x4 u
def V_X12_allFit (G : Gx) (p0 : Nat) (p1 : Int32) (p2 : Int32) (p3 : Int32) (u : Mm) (Q : Int32 → Mm → Prop) : Prop :=
  ∃ n : Nat, V_X12_allFit_3 G Q n p0 p1 p2 p3 (0 : Int32) u
set_option maxHeartbeats 4000000 in
set_option maxRecDepth 100000 in
theorem b_X12_allFit_65 {G : Gx} {Q : Int32 → Mm → Prop} {p : Program} {l : Launch} {e : Env} {s : State} {m : MethodId} {args : Array Value} {below : List Frame} {meth : Method} {c : Code} (C : Cx G p s m c cX12_allFit RX12 5) (hr : meth.sig.returnType = (some .boolean)) (hlk : meth.locks = false) {k_3 : Nat → Int32 → Int32 → Int32 → Int32 → Mm → Prop} (hk_3 : ∀ (x0 : Nat) (x1 : Int32) (x2 : Int32) (x3 : Int32) (x4 : Int32) (u : Mm) (H : Heap) (locs : List Loc) (ls : Array Slot), k_3 x0 x1 x2 x3 x4 u → lv_has ls 5 [(0, .ref x0), (1, .int x1), (2, .int x2), (3, .int x3), (4, .int x4)] → Hp G u s H locs → W p l e rm_X12_allFit s m args below meth c H locs 0 0 (MQ below (Ei G Q) args s 0 0 (ag G)) (F0 m 3 ls [])) {x0 : Nat} {x1 : Int32} {x2 : Int32} {x3 : Int32} {x4 : Int32} {u : Mm} {H : Heap} {locs : List Loc} {ls : Array Slot} (h : V_X12_allFit_65 G Q k_3 x0 x1 x2 x3 x4 u) (hl : lv_has ls 5 [(0, .ref x0), (1, .int x1), (2, .int x2), (3, .int x3), (4, .int x4)]) (hP : Hp G u s H locs) : W p l e rm_X12_allFit s m args below meth c H locs 0 0 (MQ below (Ei G Q) args s 0 0 (ag G)) (F0 m 65 ls []) := by
  have hx := C.1
  have hb := C.2.1
  unfold V_X12_allFit_65 at h
  obtain ⟨x4_65, ex4_65⟩ : ∃ y : Int32, y = x4 + (1 : Int32) := ⟨_, rfl⟩
  have h := h x4_65 ex4_65
  refine lv_iinc (v := x4_65) (lv' := [(4, .int x4_65), (0, .ref x0), (1, .int x1), (2, .int x2), (3, .int x3)]) hx hb dX12_allFit_65 hl (k := 4) rfl (by rw [ex4_65]; rfl) (by decide) rfl (fun ls hl => ?_)
  refine lv_goto (tgt := 3) hx hb dX12_allFit_68 (by decide) ?_
  exact hk_3 x0 x1 x2 x3 x4_65 u _ _ _ h (lv_sub hl [1, 2, 3, 4, 0] rfl) hP
set_option maxHeartbeats 4000000 in
set_option maxRecDepth 100000 in
theorem b_X12_allFit_3 {G : Gx} {Q : Int32 → Mm → Prop} {p : Program} {l : Launch} {e : Env} {s : State} {m : MethodId} {args : Array Value} {below : List Frame} {meth : Method} {c : Code} (C : Cx G p s m c cX12_allFit RX12 5) (hr : meth.sig.returnType = (some .boolean)) (hlk : meth.locks = false) {k_3 : Nat → Int32 → Int32 → Int32 → Int32 → Mm → Prop} (hk_3 : ∀ (x0 : Nat) (x1 : Int32) (x2 : Int32) (x3 : Int32) (x4 : Int32) (u : Mm) (H : Heap) (locs : List Loc) (ls : Array Slot), k_3 x0 x1 x2 x3 x4 u → lv_has ls 5 [(0, .ref x0), (1, .int x1), (2, .int x2), (3, .int x3), (4, .int x4)] → Hp G u s H locs → W p l e rm_X12_allFit s m args below meth c H locs 0 0 (MQ below (Ei G Q) args s 0 0 (ag G)) (F0 m 3 ls [])) {x0 : Nat} {x1 : Int32} {x2 : Int32} {x3 : Int32} {x4 : Int32} {u : Mm} {H : Heap} {locs : List Loc} {ls : Array Slot} (h : V_X12_allFit_3_B G Q k_3 x0 x1 x2 x3 x4 u) (hl : lv_has ls 5 [(0, .ref x0), (1, .int x1), (2, .int x2), (3, .int x3), (4, .int x4)]) (hP : Hp G u s H locs) : W p l e rm_X12_allFit s m args below meth c H locs 0 0 (MQ below (Ei G Q) args s 0 0 (ag G)) (F0 m 3 ls []) := by
  have hx := C.1
  have hb := C.2.1
  unfold V_X12_allFit_3_B at h
  refine lv_iload hx hb dX12_allFit_3 (lv_at hl 4 rfl) ?_
  refine lv_aload_n hx hb dX12_allFit_5 rfl (lv_at hl 0 rfl) ?_
  obtain ⟨g1, h⟩ := h
  refine q_getI C hP (k := 27) (lay_X12 C.hA) rfl (by decide) g1 (fl_X12_255 C.hA) dX12_allFit_6 ?_
  refine lv_icmp_ge (tgt := 71) hx hb dX12_allFit_9 (by decide) (fun c9 => ?_) (fun c9 => ?_)
  · have h := h.1 c9
    refine lv_iconst (v := (1 : Int32)) hx hb dX12_allFit_71 (by decide) ?_
    exact q_zret C hr hlk hP (by decide) h (by decide) (by decide) dX12_allFit_72
  · have h := h.2 c9
    refine lv_aload_n hx hb dX12_allFit_12 rfl (lv_at hl 0 rfl) ?_
    refine lv_iload hx hb dX12_allFit_13 (lv_at hl 4 rfl) ?_
    refine q_cali (q_runV C hP (c_X12_isNamed h) (cd_X12_isNamed C.hA) (ini_X12 C.hA) (ml_X12_348 C.hA) (im_X12_isNamed C.hA) (sl_X12_isNamed C.hA) g1 (by decide) rfl hd_X12_isNamed ⟨rfl, rfl⟩ ⟨Nat.le_of_ble_eq_true rfl, Nat.le_of_ble_eq_true rfl⟩ ⟨Nat.le_of_ble_eq_true rfl, Nat.le_of_ble_eq_true rfl⟩ hl.1 rfl (Nat.le_of_ble_eq_true rfl) dX12_allFit_15) hP (fun v_15 u_15 H locs h hP => ?_)
    refine lv_if_eq (tgt := 65) hx hb dX12_allFit_18 (by decide) (fun c18 => ?_) (fun c18 => ?_)
    · have h := h.1 c18
      exact b_X12_allFit_65 C hr hlk hk_3 h (lv_sub hl [0, 1, 2, 3, 4] rfl) hP
    · have h := h.2 c18
      refine lv_aload_n hx hb dX12_allFit_21 rfl (lv_at hl 0 rfl) ?_
      obtain ⟨g2, h⟩ := h
      refine q_getR C hP (k := 31) (lay_X12 C.hA) rfl (by decide) g1 g2 (fl_X12_76 C.hA) dX12_allFit_22 ?_
      refine lv_iload hx hb dX12_allFit_25 (lv_at hl 4 rfl) ?_
      obtain ⟨g3, h⟩ := h
      obtain ⟨g4, h⟩ := h
      refine q_iald C hP g3 g4 dX12_allFit_27 ?_
      refine lv_iload_n hx hb dX12_allFit_28 rfl (lv_at hl 3 rfl) ?_
      refine lv_icmp_ne (tgt := 65) hx hb dX12_allFit_29 (by decide) (fun c29 => ?_) (fun c29 => ?_)
      · have h := h.2 c29
        exact b_X12_allFit_65 C hr hlk hk_3 h (lv_sub hl [0, 1, 2, 3, 4] rfl) hP
      · have h := h.1 c29
        refine lv_aload_n hx hb dX12_allFit_32 rfl (lv_at hl 0 rfl) ?_
        refine lv_iload_n hx hb dX12_allFit_33 rfl (lv_at hl 1 rfl) ?_
        refine lv_iload_n hx hb dX12_allFit_34 rfl (lv_at hl 2 rfl) ?_
        refine lv_iload hx hb dX12_allFit_35 (lv_at hl 4 rfl) ?_
        refine lv_aload_n hx hb dX12_allFit_37 rfl (lv_at hl 0 rfl) ?_
        obtain ⟨g5, h⟩ := h
        refine q_getR C hP (k := 29) (lay_X12 C.hA) rfl (by decide) g1 g5 (fl_X12_70 C.hA) dX12_allFit_38 ?_
        refine lv_iload hx hb dX12_allFit_41 (lv_at hl 4 rfl) ?_
        obtain ⟨g6, h⟩ := h
        obtain ⟨g7, h⟩ := h
        refine q_iald C hP g6 g7 dX12_allFit_43 ?_
        refine lv_aload_n hx hb dX12_allFit_44 rfl (lv_at hl 0 rfl) ?_
        obtain ⟨g8, h⟩ := h
        refine q_getR C hP (k := 30) (lay_X12 C.hA) rfl (by decide) g1 g8 (fl_X12_73 C.hA) dX12_allFit_45 ?_
        refine lv_iload hx hb dX12_allFit_48 (lv_at hl 4 rfl) ?_
        obtain ⟨g9, h⟩ := h
        obtain ⟨g10, h⟩ := h
        refine q_iald C hP g9 g10 dX12_allFit_50 ?_
        refine lv_aload_n hx hb dX12_allFit_51 rfl (lv_at hl 0 rfl) ?_
        obtain ⟨g11, h⟩ := h
        refine q_getR C hP (k := 6) (lay_X12 C.hA) rfl (by decide) g1 g11 (fl_X12_39 C.hA) dX12_allFit_52 ?_
        refine lv_iload_n hx hb dX12_allFit_55 rfl (lv_at hl 1 rfl) ?_
        obtain ⟨g12, h⟩ := h
        obtain ⟨g13, h⟩ := h
        refine q_iald C hP g12 g13 dX12_allFit_56 ?_
        refine q_cali (q_runV C hP (c_X12_fitsAt h) (cd_X12_fitsAt C.hA) (ini_X12 C.hA) (ml_X12_351 C.hA) (im_X12_fitsAt C.hA) (sl_X12_fitsAt C.hA) g1 (by decide) rfl hd_X12_fitsAt ⟨rfl, rfl⟩ ⟨Nat.le_of_ble_eq_true rfl, Nat.le_of_ble_eq_true rfl⟩ ⟨Nat.le_of_ble_eq_true rfl, Nat.le_of_ble_eq_true rfl⟩ hl.1 rfl (Nat.le_of_ble_eq_true rfl) dX12_allFit_57) hP (fun v_57 u_57 H locs h hP => ?_)
        refine lv_if_ne (tgt := 65) hx hb dX12_allFit_60 (by decide) (fun c60 => ?_) (fun c60 => ?_)
        · have h := h.2 c60
          exact b_X12_allFit_65 C hr hlk hk_3 h (lv_sub hl [0, 1, 2, 3, 4] rfl) hP
        · have h := h.1 c60
          refine lv_iconst (v := (0 : Int32)) hx hb dX12_allFit_63 (by decide) ?_
          exact q_zret C hr hlk hP (by decide) h (by decide) (by decide) dX12_allFit_64
theorem l_X12_allFit_3 {G : Gx} {Q : Int32 → Mm → Prop} {p : Program} {l : Launch} {e : Env} {s : State} {m : MethodId} {args : Array Value} {below : List Frame} {meth : Method} {c : Code} (C : Cx G p s m c cX12_allFit RX12 5) (hr : meth.sig.returnType = (some .boolean)) (hlk : meth.locks = false) : ∀ (n : Nat) (x0 : Nat) (x1 : Int32) (x2 : Int32) (x3 : Int32) (x4 : Int32) (u : Mm) (H : Heap) (locs : List Loc) (ls : Array Slot), V_X12_allFit_3 G Q n x0 x1 x2 x3 x4 u → lv_has ls 5 [(0, .ref x0), (1, .int x1), (2, .int x2), (3, .int x3), (4, .int x4)] → Hp G u s H locs → W p l e rm_X12_allFit s m args below meth c H locs 0 0 (MQ below (Ei G Q) args s 0 0 (ag G)) (F0 m 3 ls []) := by
  intro n
  induction n with
  | zero => intro x0 x1 x2 x3 x4 u H locs ls h; exact h.elim
  | succ n ih => intro x0 x1 x2 x3 x4 u H locs ls h hl hP; exact b_X12_allFit_3 C hr hlk ih h hl hP
set_option maxHeartbeats 4000000 in
set_option maxRecDepth 100000 in
theorem c_X12_allFit {l : Launch} {G : Gx} {p0 : Nat} {p1 : Int32} {p2 : Int32} {p3 : Int32} {u : Mm} {Q : Int32 → Mm → Prop} (h : V_X12_allFit G p0 p1 p2 p3 u Q) : Met l yX12_allFit [.code yX12_allFit cX12_allFit 5 (some .boolean)] rm_X12_allFit (va_Pc [.ref p0, .int p1, .int p2, .int p3] (Wd G u)) (Ei G Q) 0 0 (ag G) := by
  refine q_met (by decide) (Nat.le_of_ble_eq_true rfl) ?_
  intro p e s m below meth c ls C hr hlk hnm hl hP
  have hl : lv_has ls 5 [(0, .ref p0), (1, .int p1), (2, .int p2), (3, .int p3)] := hl
  generalize ([.ref p0, .int p1, .int p2, .int p3] : List Value).toArray = args
  have hx := C.1
  have hb := C.2.1
  unfold V_X12_allFit at h
  refine lv_iconst (v := (0 : Int32)) hx hb dX12_allFit_0 (by decide) ?_
  refine lv_istore (lv' := [(4, .int (0 : Int32)), (0, .ref p0), (1, .int p1), (2, .int p2), (3, .int p3)]) hx hb dX12_allFit_1 hl (by decide) rfl (fun ls hl => ?_)
  obtain ⟨n, h⟩ := h
  exact l_X12_allFit_3 C hr hlk n p0 p1 p2 p3 (0 : Int32) u _ _ _ h (lv_sub hl [1, 2, 3, 4, 0] rfl) hP
-- X12_bitsOf
abbrev rm_X12_bitsOf : Room := { frames := 0, cells := 0, slots := 0, locals := 0 }
theorem hd_X12_bitsOf : yX12_bitsOf.cls ≠ "java/lang/invoke/MethodHandle" ∧ yX12_bitsOf.cls ≠ "java/lang/invoke/VarHandle" ∧ (parseMethodDescriptor yX12_bitsOf.desc).map (fun d => d.parameters.length) = some 1 := by decide +kernel
def V_X12_bitsOf_4_B (G : Gx) (Q : Int32 → Mm → Prop) (k_4 : Int32 → Int32 → Mm → Prop) (x1 : Int32) (x2 : Int32) (u : Mm) : Prop :=
  ((x2 = 0 → Q x1 u) ∧ (¬ x2 = 0 → ∀ x1_8 : Int32, x1_8 = x1 + (1 : Int32) → ∀ x2_16 : Int32, x2_16 = (x2 &&& (x2 - (1 : Int32))) → k_4 x1_8 x2_16 u))
def V_X12_bitsOf_4 (G : Gx) (Q : Int32 → Mm → Prop) : Nat → (Int32 → Int32 → Mm → Prop)
  | 0 => fun _ _ _ => False
  | n + 1 => fun x1 x2 u => V_X12_bitsOf_4_B G Q (V_X12_bitsOf_4 G Q n) x1 x2 u
def V_X12_bitsOf (G : Gx) (p0 : Int32) (u : Mm) (Q : Int32 → Mm → Prop) : Prop :=
  ∃ n : Nat, V_X12_bitsOf_4 G Q n (0 : Int32) p0 u
set_option maxHeartbeats 4000000 in
set_option maxRecDepth 100000 in
theorem b_X12_bitsOf_4 {G : Gx} {Q : Int32 → Mm → Prop} {p : Program} {l : Launch} {e : Env} {s : State} {m : MethodId} {args : Array Value} {below : List Frame} {meth : Method} {c : Code} (C : Cx G p s m c cX12_bitsOf RX12 3) (hr : meth.sig.returnType = (some .int)) (hlk : meth.locks = false) {k_4 : Int32 → Int32 → Mm → Prop} (hk_4 : ∀ (x1 : Int32) (x2 : Int32) (u : Mm) (H : Heap) (locs : List Loc) (ls : Array Slot), k_4 x1 x2 u → lv_has ls 3 [(1, .int x1), (2, .int x2)] → Hp G u s H locs → W p l e rm_X12_bitsOf s m args below meth c H locs 0 0 (MQ below (Ei G Q) args s 0 0 (ag G)) (F0 m 4 ls [])) {x1 : Int32} {x2 : Int32} {u : Mm} {H : Heap} {locs : List Loc} {ls : Array Slot} (h : V_X12_bitsOf_4_B G Q k_4 x1 x2 u) (hl : lv_has ls 3 [(1, .int x1), (2, .int x2)]) (hP : Hp G u s H locs) : W p l e rm_X12_bitsOf s m args below meth c H locs 0 0 (MQ below (Ei G Q) args s 0 0 (ag G)) (F0 m 4 ls []) := by
  have hx := C.1
  have hb := C.2.1
  unfold V_X12_bitsOf_4_B at h
  refine lv_iload_n hx hb dX12_bitsOf_4 rfl (lv_at hl 1 rfl) ?_
  refine lv_if_eq (tgt := 20) hx hb dX12_bitsOf_5 (by decide) (fun c5 => ?_) (fun c5 => ?_)
  · have h := h.1 c5
    refine lv_iload_n hx hb dX12_bitsOf_20 rfl (lv_at hl 0 rfl) ?_
    exact q_iret C hr hlk hP h (by decide) (by decide) dX12_bitsOf_21
  · have h := h.2 c5
    obtain ⟨x1_8, ex1_8⟩ : ∃ y : Int32, y = x1 + (1 : Int32) := ⟨_, rfl⟩
    have h := h x1_8 ex1_8
    refine lv_iinc (v := x1_8) (lv' := [(1, .int x1_8), (2, .int x2)]) hx hb dX12_bitsOf_8 hl (k := 0) rfl (by rw [ex1_8]; rfl) (by decide) rfl (fun ls hl => ?_)
    refine lv_iload_n hx hb dX12_bitsOf_11 rfl (lv_at hl 1 rfl) ?_
    refine lv_iload_n hx hb dX12_bitsOf_12 rfl (lv_at hl 1 rfl) ?_
    refine lv_iconst (v := (1 : Int32)) hx hb dX12_bitsOf_13 (by decide) ?_
    refine lv_isub hx hb dX12_bitsOf_14 ?_
    refine lv_iand hx hb dX12_bitsOf_15 ?_
    refine lv_topi (fun x2_16 ex2_16 => ?_)
    have h := h x2_16 ex2_16
    refine lv_istore_n (lv' := [(2, .int x2_16), (1, .int x1_8)]) hx hb dX12_bitsOf_16 rfl hl (by decide) rfl (fun ls hl => ?_)
    refine lv_goto (tgt := 4) hx hb dX12_bitsOf_17 (by decide) ?_
    exact hk_4 x1_8 x2_16 u _ _ _ h (lv_sub hl [1, 0] rfl) hP
theorem l_X12_bitsOf_4 {G : Gx} {Q : Int32 → Mm → Prop} {p : Program} {l : Launch} {e : Env} {s : State} {m : MethodId} {args : Array Value} {below : List Frame} {meth : Method} {c : Code} (C : Cx G p s m c cX12_bitsOf RX12 3) (hr : meth.sig.returnType = (some .int)) (hlk : meth.locks = false) : ∀ (n : Nat) (x1 : Int32) (x2 : Int32) (u : Mm) (H : Heap) (locs : List Loc) (ls : Array Slot), V_X12_bitsOf_4 G Q n x1 x2 u → lv_has ls 3 [(1, .int x1), (2, .int x2)] → Hp G u s H locs → W p l e rm_X12_bitsOf s m args below meth c H locs 0 0 (MQ below (Ei G Q) args s 0 0 (ag G)) (F0 m 4 ls []) := by
  intro n
  induction n with
  | zero => intro x1 x2 u H locs ls h; exact h.elim
  | succ n ih => intro x1 x2 u H locs ls h hl hP; exact b_X12_bitsOf_4 C hr hlk ih h hl hP
set_option maxHeartbeats 4000000 in
set_option maxRecDepth 100000 in
theorem c_X12_bitsOf {l : Launch} {G : Gx} {p0 : Int32} {u : Mm} {Q : Int32 → Mm → Prop} (h : V_X12_bitsOf G p0 u Q) : Met l yX12_bitsOf [.code yX12_bitsOf cX12_bitsOf 3 (some .int)] rm_X12_bitsOf (va_Pc [.int p0] (Wd G u)) (Ei G Q) 0 0 (ag G) := by
  refine q_met (by decide) (Nat.le_of_ble_eq_true rfl) ?_
  intro p e s m below meth c ls C hr hlk hnm hl hP
  have hl : lv_has ls 3 [(0, .int p0)] := hl
  generalize ([.int p0] : List Value).toArray = args
  have hx := C.1
  have hb := C.2.1
  unfold V_X12_bitsOf at h
  refine lv_iconst (v := (0 : Int32)) hx hb dX12_bitsOf_0 (by decide) ?_
  refine lv_istore_n (lv' := [(1, .int (0 : Int32)), (0, .int p0)]) hx hb dX12_bitsOf_1 rfl hl (by decide) rfl (fun ls hl => ?_)
  refine lv_iload_n hx hb dX12_bitsOf_2 rfl (lv_at hl 1 rfl) ?_
  refine lv_istore_n (lv' := [(2, .int p0), (1, .int (0 : Int32)), (0, .int p0)]) hx hb dX12_bitsOf_3 rfl hl (by decide) rfl (fun ls hl => ?_)
  obtain ⟨n, h⟩ := h
  exact l_X12_bitsOf_4 C hr hlk n (0 : Int32) p0 u _ _ _ h (lv_sub hl [1, 0] rfl) hP
-- X12_gone
abbrev rm_X12_gone : Room := { frames := 8, cells := 0, slots := 0, locals := 224 }
theorem hd_X12_gone : yX12_gone.cls ≠ "java/lang/invoke/MethodHandle" ∧ yX12_gone.cls ≠ "java/lang/invoke/VarHandle" ∧ (parseMethodDescriptor yX12_gone.desc).map (fun d => d.parameters.length) = some 2 := by decide +kernel
def V_X12_gone_102 (G : Gx) (Q : Int32 → Mm → Prop) (k_53 : Nat → Int32 → Int32 → Int32 → Int32 → Mm → Prop) (k_63 : Nat → Int32 → Int32 → Int32 → Int32 → Int32 → Mm → Prop) (x0 : Nat) (x1 : Int32) (x2 : Int32) (x3 : Int32) (x4 : Int32) (x5 : Int32) (u : Mm) : Prop :=
  ∀ x5_102 : Int32, x5_102 = x5 + (1 : Int32) → k_63 x0 x1 x2 x3 x4 x5_102 u
def V_X12_gone_63_B (G : Gx) (Q : Int32 → Mm → Prop) (k_53 : Nat → Int32 → Int32 → Int32 → Int32 → Mm → Prop) (k_63 : Nat → Int32 → Int32 → Int32 → Int32 → Int32 → Mm → Prop) (x0 : Nat) (x1 : Int32) (x2 : Int32) (x3 : Int32) (x4 : Int32) (x5 : Int32) (u : Mm) : Prop :=
  ((x3 < x5 → ∀ x4_108 : Int32, x4_108 = x4 + (1 : Int32) → k_53 x0 x1 x2 x3 x4_108 u) ∧ (¬ x3 < x5 → (((x5 &&& (x3 ^^^ (-1 : Int32))) = 0 → V_X12_bitsOf G x5 u (fun (v_80 : Int32) (u_80 : Mm) => ((v_80 = x4 → kd G x0 = 12 ∧ V_X12_allFit G x0 x1 x5 x2 u_80 (fun (v_93 : Int32) (u_93 : Mm) => ((v_93 = 0 → V_X12_gone_102 G Q k_53 k_63 x0 x1 x2 x3 x4 x5 u_93) ∧ (¬ v_93 = 0 → Q x5 u_93)))) ∧ (¬ v_80 = x4 → V_X12_gone_102 G Q k_53 k_63 x0 x1 x2 x3 x4 x5 u_80)))) ∧ (¬ (x5 &&& (x3 ^^^ (-1 : Int32))) = 0 → V_X12_gone_102 G Q k_53 k_63 x0 x1 x2 x3 x4 x5 u))))
def V_X12_gone_63 (G : Gx) (Q : Int32 → Mm → Prop) (k_53 : Nat → Int32 → Int32 → Int32 → Int32 → Mm → Prop) : Nat → (Nat → Int32 → Int32 → Int32 → Int32 → Int32 → Mm → Prop)
  | 0 => fun _ _ _ _ _ _ _ => False
  | n + 1 => fun x0 x1 x2 x3 x4 x5 u => V_X12_gone_63_B G Q k_53 (V_X12_gone_63 G Q k_53 n) x0 x1 x2 x3 x4 x5 u
def V_X12_gone_53_B (G : Gx) (Q : Int32 → Mm → Prop) (k_53 : Nat → Int32 → Int32 → Int32 → Int32 → Mm → Prop) (x0 : Nat) (x1 : Int32) (x2 : Int32) (x3 : Int32) (x4 : Int32) (u : Mm) : Prop :=
  (((16 : Int32) < x4 → Q (-1 : Int32) u) ∧ (¬ (16 : Int32) < x4 → ∃ n : Nat, V_X12_gone_63 G Q k_53 n x0 x1 x2 x3 x4 (0 : Int32) u))
def V_X12_gone_53 (G : Gx) (Q : Int32 → Mm → Prop) : Nat → (Nat → Int32 → Int32 → Int32 → Int32 → Mm → Prop)
  | 0 => fun _ _ _ _ _ _ => False
  | n + 1 => fun x0 x1 x2 x3 x4 u => V_X12_gone_53_B G Q (V_X12_gone_53 G Q n) x0 x1 x2 x3 x4 u
def V_X12_gone_19 (G : Gx) (Q : Int32 → Mm → Prop) (x0 : Nat) (u : Mm) : Prop :=
  kd G x0 = 12 ∧ V_X12_fail G x0 (1 : Int32) u (fun (v_21 : Int32) (u_21 : Mm) => Q v_21 u_21)
def V_X12_gone (G : Gx) (p0 : Nat) (p1 : Int32) (p2 : Int32) (u : Mm) (Q : Int32 → Mm → Prop) : Prop :=
  kd G p0 = 12 ∧ ∀ u_2 : Mm, u_2 = sI u p0 1 (0 : Int32) → V_X12_isLand G p1 u_2 (fun (v_6 : Int32) (u_6 : Mm) => ((v_6 = 0 → V_X12_gone_19 G Q p0 u_6) ∧ (¬ v_6 = 0 → V_X12_isYear G p2 u_6 (fun (v_13 : Int32) (u_13 : Mm) => ((v_13 = 0 → V_X12_gone_19 G Q p0 u_13) ∧ (¬ v_13 = 0 → (gR u_13 p0 3) ≠ 0 ∧ kd G (gR u_13 p0 3) = 13 ∧ vp_in p1 (ln G (gR u_13 p0 3)) ∧ (gR u_13 p0 2) ≠ 0 ∧ kd G (gR u_13 p0 2) = 13 ∧ vp_in p1 (ln G (gR u_13 p0 2)) ∧ ∀ x3_49 : Int32, x3_49 = (((shl (1 : Int32) (gI u_13 (gR u_13 p0 3) p1.toNatClampNeg)) - (1 : Int32)) ||| (shl ((shl (1 : Int32) (gI u_13 (gR u_13 p0 2) p1.toNatClampNeg)) - (1 : Int32)) (8 : Int32))) → ∃ n : Nat, V_X12_gone_53 G Q n p0 p1 p2 x3_49 (0 : Int32) u_13))))))
set_option maxHeartbeats 4000000 in
set_option maxRecDepth 100000 in
theorem b_X12_gone_102 {G : Gx} {Q : Int32 → Mm → Prop} {p : Program} {l : Launch} {e : Env} {s : State} {m : MethodId} {args : Array Value} {below : List Frame} {meth : Method} {c : Code} (C : Cx G p s m c cX12_gone RX12 6) (hr : meth.sig.returnType = (some .int)) (hlk : meth.locks = false) {k_53 : Nat → Int32 → Int32 → Int32 → Int32 → Mm → Prop} (hk_53 : ∀ (x0 : Nat) (x1 : Int32) (x2 : Int32) (x3 : Int32) (x4 : Int32) (u : Mm) (H : Heap) (locs : List Loc) (ls : Array Slot), k_53 x0 x1 x2 x3 x4 u → lv_has ls 6 [(0, .ref x0), (1, .int x1), (2, .int x2), (3, .int x3), (4, .int x4)] → Hp G u s H locs → W p l e rm_X12_gone s m args below meth c H locs 0 0 (MQ below (Ei G Q) args s 0 0 (ag G)) (F0 m 53 ls [])) {k_63 : Nat → Int32 → Int32 → Int32 → Int32 → Int32 → Mm → Prop} (hk_63 : ∀ (x0 : Nat) (x1 : Int32) (x2 : Int32) (x3 : Int32) (x4 : Int32) (x5 : Int32) (u : Mm) (H : Heap) (locs : List Loc) (ls : Array Slot), k_63 x0 x1 x2 x3 x4 x5 u → lv_has ls 6 [(0, .ref x0), (1, .int x1), (2, .int x2), (3, .int x3), (4, .int x4), (5, .int x5)] → Hp G u s H locs → W p l e rm_X12_gone s m args below meth c H locs 0 0 (MQ below (Ei G Q) args s 0 0 (ag G)) (F0 m 63 ls [])) {x0 : Nat} {x1 : Int32} {x2 : Int32} {x3 : Int32} {x4 : Int32} {x5 : Int32} {u : Mm} {H : Heap} {locs : List Loc} {ls : Array Slot} (h : V_X12_gone_102 G Q k_53 k_63 x0 x1 x2 x3 x4 x5 u) (hl : lv_has ls 6 [(0, .ref x0), (1, .int x1), (2, .int x2), (3, .int x3), (4, .int x4), (5, .int x5)]) (hP : Hp G u s H locs) : W p l e rm_X12_gone s m args below meth c H locs 0 0 (MQ below (Ei G Q) args s 0 0 (ag G)) (F0 m 102 ls []) := by
  have hx := C.1
  have hb := C.2.1
  unfold V_X12_gone_102 at h
  obtain ⟨x5_102, ex5_102⟩ : ∃ y : Int32, y = x5 + (1 : Int32) := ⟨_, rfl⟩
  have h := h x5_102 ex5_102
  refine lv_iinc (v := x5_102) (lv' := [(5, .int x5_102), (0, .ref x0), (1, .int x1), (2, .int x2), (3, .int x3), (4, .int x4)]) hx hb dX12_gone_102 hl (k := 5) rfl (by rw [ex5_102]; rfl) (by decide) rfl (fun ls hl => ?_)
  refine lv_goto (tgt := 63) hx hb dX12_gone_105 (by decide) ?_
  exact hk_63 x0 x1 x2 x3 x4 x5_102 u _ _ _ h (lv_sub hl [1, 2, 3, 4, 5, 0] rfl) hP
set_option maxHeartbeats 4000000 in
set_option maxRecDepth 100000 in
theorem b_X12_gone_63 {G : Gx} {Q : Int32 → Mm → Prop} {p : Program} {l : Launch} {e : Env} {s : State} {m : MethodId} {args : Array Value} {below : List Frame} {meth : Method} {c : Code} (C : Cx G p s m c cX12_gone RX12 6) (hr : meth.sig.returnType = (some .int)) (hlk : meth.locks = false) {k_53 : Nat → Int32 → Int32 → Int32 → Int32 → Mm → Prop} (hk_53 : ∀ (x0 : Nat) (x1 : Int32) (x2 : Int32) (x3 : Int32) (x4 : Int32) (u : Mm) (H : Heap) (locs : List Loc) (ls : Array Slot), k_53 x0 x1 x2 x3 x4 u → lv_has ls 6 [(0, .ref x0), (1, .int x1), (2, .int x2), (3, .int x3), (4, .int x4)] → Hp G u s H locs → W p l e rm_X12_gone s m args below meth c H locs 0 0 (MQ below (Ei G Q) args s 0 0 (ag G)) (F0 m 53 ls [])) {k_63 : Nat → Int32 → Int32 → Int32 → Int32 → Int32 → Mm → Prop} (hk_63 : ∀ (x0 : Nat) (x1 : Int32) (x2 : Int32) (x3 : Int32) (x4 : Int32) (x5 : Int32) (u : Mm) (H : Heap) (locs : List Loc) (ls : Array Slot), k_63 x0 x1 x2 x3 x4 x5 u → lv_has ls 6 [(0, .ref x0), (1, .int x1), (2, .int x2), (3, .int x3), (4, .int x4), (5, .int x5)] → Hp G u s H locs → W p l e rm_X12_gone s m args below meth c H locs 0 0 (MQ below (Ei G Q) args s 0 0 (ag G)) (F0 m 63 ls [])) {x0 : Nat} {x1 : Int32} {x2 : Int32} {x3 : Int32} {x4 : Int32} {x5 : Int32} {u : Mm} {H : Heap} {locs : List Loc} {ls : Array Slot} (h : V_X12_gone_63_B G Q k_53 k_63 x0 x1 x2 x3 x4 x5 u) (hl : lv_has ls 6 [(0, .ref x0), (1, .int x1), (2, .int x2), (3, .int x3), (4, .int x4), (5, .int x5)]) (hP : Hp G u s H locs) : W p l e rm_X12_gone s m args below meth c H locs 0 0 (MQ below (Ei G Q) args s 0 0 (ag G)) (F0 m 63 ls []) := by
  have hx := C.1
  have hb := C.2.1
  unfold V_X12_gone_63_B at h
  refine lv_iload hx hb dX12_gone_63 (lv_at hl 5 rfl) ?_
  refine lv_iload_n hx hb dX12_gone_65 rfl (lv_at hl 3 rfl) ?_
  refine lv_icmp_gt (tgt := 108) hx hb dX12_gone_66 (by decide) (fun c66 => ?_) (fun c66 => ?_)
  · have h := h.1 c66
    obtain ⟨x4_108, ex4_108⟩ : ∃ y : Int32, y = x4 + (1 : Int32) := ⟨_, rfl⟩
    have h := h x4_108 ex4_108
    refine lv_iinc (v := x4_108) (lv' := [(4, .int x4_108), (0, .ref x0), (1, .int x1), (2, .int x2), (3, .int x3), (5, .int x5)]) hx hb dX12_gone_108 hl (k := 4) rfl (by rw [ex4_108]; rfl) (by decide) rfl (fun ls hl => ?_)
    refine lv_goto (tgt := 53) hx hb dX12_gone_111 (by decide) ?_
    exact hk_53 x0 x1 x2 x3 x4_108 u _ _ _ h (lv_sub hl [1, 2, 3, 4, 0] rfl) hP
  · have h := h.2 c66
    refine lv_iload hx hb dX12_gone_69 (lv_at hl 5 rfl) ?_
    refine lv_iload_n hx hb dX12_gone_71 rfl (lv_at hl 3 rfl) ?_
    refine lv_iconst (v := (-1 : Int32)) hx hb dX12_gone_72 (by decide) ?_
    refine lv_ixor hx hb dX12_gone_73 ?_
    refine lv_iand hx hb dX12_gone_74 ?_
    refine lv_if_ne (tgt := 102) hx hb dX12_gone_75 (by decide) (fun c75 => ?_) (fun c75 => ?_)
    · have h := h.2 c75
      exact b_X12_gone_102 C hr hlk hk_53 hk_63 h (lv_sub hl [0, 1, 2, 3, 4, 5] rfl) hP
    · have h := h.1 c75
      refine lv_iload hx hb dX12_gone_78 (lv_at hl 5 rfl) ?_
      refine q_cali (q_runS C hP (c_X12_bitsOf h) (cd_X12_bitsOf C.hA) (ini_X12 C.hA) (ml_X12_354 C.hA) (st_X12_bitsOf C.hA) hd_X12_bitsOf ⟨rfl, rfl⟩ ⟨Nat.le_of_ble_eq_true rfl, Nat.le_of_ble_eq_true rfl⟩ ⟨Nat.le_of_ble_eq_true rfl, Nat.le_of_ble_eq_true rfl⟩ hl.1 rfl (Nat.le_of_ble_eq_true rfl) dX12_gone_80) hP (fun v_80 u_80 H locs h hP => ?_)
      refine lv_iload hx hb dX12_gone_83 (lv_at hl 4 rfl) ?_
      refine lv_icmp_ne (tgt := 102) hx hb dX12_gone_85 (by decide) (fun c85 => ?_) (fun c85 => ?_)
      · have h := h.2 c85
        exact b_X12_gone_102 C hr hlk hk_53 hk_63 h (lv_sub hl [0, 1, 2, 3, 4, 5] rfl) hP
      · have h := h.1 c85
        refine lv_aload_n hx hb dX12_gone_88 rfl (lv_at hl 0 rfl) ?_
        refine lv_iload_n hx hb dX12_gone_89 rfl (lv_at hl 1 rfl) ?_
        refine lv_iload hx hb dX12_gone_90 (lv_at hl 5 rfl) ?_
        refine lv_iload_n hx hb dX12_gone_92 rfl (lv_at hl 2 rfl) ?_
        obtain ⟨g1, h⟩ := h
        refine q_cali (q_runV C hP (c_X12_allFit h) (cd_X12_allFit C.hA) (ini_X12 C.hA) (ml_X12_357 C.hA) (im_X12_allFit C.hA) (sl_X12_allFit C.hA) g1 (by decide) rfl hd_X12_allFit ⟨rfl, rfl⟩ ⟨Nat.le_of_ble_eq_true rfl, Nat.le_of_ble_eq_true rfl⟩ ⟨Nat.le_of_ble_eq_true rfl, Nat.le_of_ble_eq_true rfl⟩ hl.1 rfl (Nat.le_of_ble_eq_true rfl) dX12_gone_93) hP (fun v_93 u_93 H locs h hP => ?_)
        refine lv_if_eq (tgt := 102) hx hb dX12_gone_96 (by decide) (fun c96 => ?_) (fun c96 => ?_)
        · have h := h.1 c96
          exact b_X12_gone_102 C hr hlk hk_53 hk_63 h (lv_sub hl [0, 1, 2, 3, 4, 5] rfl) hP
        · have h := h.2 c96
          refine lv_iload hx hb dX12_gone_99 (lv_at hl 5 rfl) ?_
          exact q_iret C hr hlk hP h (by decide) (by decide) dX12_gone_101
theorem l_X12_gone_63 {G : Gx} {Q : Int32 → Mm → Prop} {p : Program} {l : Launch} {e : Env} {s : State} {m : MethodId} {args : Array Value} {below : List Frame} {meth : Method} {c : Code} (C : Cx G p s m c cX12_gone RX12 6) (hr : meth.sig.returnType = (some .int)) (hlk : meth.locks = false) {k_53 : Nat → Int32 → Int32 → Int32 → Int32 → Mm → Prop} (hk_53 : ∀ (x0 : Nat) (x1 : Int32) (x2 : Int32) (x3 : Int32) (x4 : Int32) (u : Mm) (H : Heap) (locs : List Loc) (ls : Array Slot), k_53 x0 x1 x2 x3 x4 u → lv_has ls 6 [(0, .ref x0), (1, .int x1), (2, .int x2), (3, .int x3), (4, .int x4)] → Hp G u s H locs → W p l e rm_X12_gone s m args below meth c H locs 0 0 (MQ below (Ei G Q) args s 0 0 (ag G)) (F0 m 53 ls [])) : ∀ (n : Nat) (x0 : Nat) (x1 : Int32) (x2 : Int32) (x3 : Int32) (x4 : Int32) (x5 : Int32) (u : Mm) (H : Heap) (locs : List Loc) (ls : Array Slot), V_X12_gone_63 G Q k_53 n x0 x1 x2 x3 x4 x5 u → lv_has ls 6 [(0, .ref x0), (1, .int x1), (2, .int x2), (3, .int x3), (4, .int x4), (5, .int x5)] → Hp G u s H locs → W p l e rm_X12_gone s m args below meth c H locs 0 0 (MQ below (Ei G Q) args s 0 0 (ag G)) (F0 m 63 ls []) := by
  intro n
  induction n with
  | zero => intro x0 x1 x2 x3 x4 x5 u H locs ls h; exact h.elim
  | succ n ih => intro x0 x1 x2 x3 x4 x5 u H locs ls h hl hP; exact b_X12_gone_63 C hr hlk hk_53 ih h hl hP
set_option maxHeartbeats 4000000 in
set_option maxRecDepth 100000 in
theorem b_X12_gone_53 {G : Gx} {Q : Int32 → Mm → Prop} {p : Program} {l : Launch} {e : Env} {s : State} {m : MethodId} {args : Array Value} {below : List Frame} {meth : Method} {c : Code} (C : Cx G p s m c cX12_gone RX12 6) (hr : meth.sig.returnType = (some .int)) (hlk : meth.locks = false) {k_53 : Nat → Int32 → Int32 → Int32 → Int32 → Mm → Prop} (hk_53 : ∀ (x0 : Nat) (x1 : Int32) (x2 : Int32) (x3 : Int32) (x4 : Int32) (u : Mm) (H : Heap) (locs : List Loc) (ls : Array Slot), k_53 x0 x1 x2 x3 x4 u → lv_has ls 6 [(0, .ref x0), (1, .int x1), (2, .int x2), (3, .int x3), (4, .int x4)] → Hp G u s H locs → W p l e rm_X12_gone s m args below meth c H locs 0 0 (MQ below (Ei G Q) args s 0 0 (ag G)) (F0 m 53 ls [])) {x0 : Nat} {x1 : Int32} {x2 : Int32} {x3 : Int32} {x4 : Int32} {u : Mm} {H : Heap} {locs : List Loc} {ls : Array Slot} (h : V_X12_gone_53_B G Q k_53 x0 x1 x2 x3 x4 u) (hl : lv_has ls 6 [(0, .ref x0), (1, .int x1), (2, .int x2), (3, .int x3), (4, .int x4)]) (hP : Hp G u s H locs) : W p l e rm_X12_gone s m args below meth c H locs 0 0 (MQ below (Ei G Q) args s 0 0 (ag G)) (F0 m 53 ls []) := by
  have hx := C.1
  have hb := C.2.1
  unfold V_X12_gone_53_B at h
  refine lv_iload hx hb dX12_gone_53 (lv_at hl 4 rfl) ?_
  refine lv_bipush (v := (16 : Int32)) hx hb dX12_gone_55 (by decide) ?_
  refine lv_icmp_gt (tgt := 114) hx hb dX12_gone_57 (by decide) (fun c57 => ?_) (fun c57 => ?_)
  · have h := h.1 c57
    refine lv_iconst (v := (-1 : Int32)) hx hb dX12_gone_114 (by decide) ?_
    exact q_iret C hr hlk hP h (by decide) (by decide) dX12_gone_115
  · have h := h.2 c57
    refine lv_iconst (v := (0 : Int32)) hx hb dX12_gone_60 (by decide) ?_
    refine lv_istore (lv' := [(5, .int (0 : Int32)), (0, .ref x0), (1, .int x1), (2, .int x2), (3, .int x3), (4, .int x4)]) hx hb dX12_gone_61 hl (by decide) rfl (fun ls hl => ?_)
    obtain ⟨n, h⟩ := h
    exact l_X12_gone_63 C hr hlk hk_53 n x0 x1 x2 x3 x4 (0 : Int32) u _ _ _ h (lv_sub hl [1, 2, 3, 4, 5, 0] rfl) hP
theorem l_X12_gone_53 {G : Gx} {Q : Int32 → Mm → Prop} {p : Program} {l : Launch} {e : Env} {s : State} {m : MethodId} {args : Array Value} {below : List Frame} {meth : Method} {c : Code} (C : Cx G p s m c cX12_gone RX12 6) (hr : meth.sig.returnType = (some .int)) (hlk : meth.locks = false) : ∀ (n : Nat) (x0 : Nat) (x1 : Int32) (x2 : Int32) (x3 : Int32) (x4 : Int32) (u : Mm) (H : Heap) (locs : List Loc) (ls : Array Slot), V_X12_gone_53 G Q n x0 x1 x2 x3 x4 u → lv_has ls 6 [(0, .ref x0), (1, .int x1), (2, .int x2), (3, .int x3), (4, .int x4)] → Hp G u s H locs → W p l e rm_X12_gone s m args below meth c H locs 0 0 (MQ below (Ei G Q) args s 0 0 (ag G)) (F0 m 53 ls []) := by
  intro n
  induction n with
  | zero => intro x0 x1 x2 x3 x4 u H locs ls h; exact h.elim
  | succ n ih => intro x0 x1 x2 x3 x4 u H locs ls h hl hP; exact b_X12_gone_53 C hr hlk ih h hl hP
set_option maxHeartbeats 4000000 in
set_option maxRecDepth 100000 in
theorem b_X12_gone_19 {G : Gx} {Q : Int32 → Mm → Prop} {p : Program} {l : Launch} {e : Env} {s : State} {m : MethodId} {args : Array Value} {below : List Frame} {meth : Method} {c : Code} (C : Cx G p s m c cX12_gone RX12 6) (hr : meth.sig.returnType = (some .int)) (hlk : meth.locks = false) {x0 : Nat} {u : Mm} {H : Heap} {locs : List Loc} {ls : Array Slot} (h : V_X12_gone_19 G Q x0 u) (hl : lv_has ls 6 [(0, .ref x0)]) (hP : Hp G u s H locs) : W p l e rm_X12_gone s m args below meth c H locs 0 0 (MQ below (Ei G Q) args s 0 0 (ag G)) (F0 m 19 ls []) := by
  have hx := C.1
  have hb := C.2.1
  unfold V_X12_gone_19 at h
  refine lv_aload_n hx hb dX12_gone_19 rfl (lv_at hl 0 rfl) ?_
  refine lv_iconst (v := (1 : Int32)) hx hb dX12_gone_20 (by decide) ?_
  obtain ⟨g1, h⟩ := h
  refine q_cali (q_runV C hP (c_X12_fail h) (cd_X12_fail C.hA) (ini_X12 C.hA) (ml_X12_249 C.hA) (im_X12_fail C.hA) (sl_X12_fail C.hA) g1 (by decide) rfl hd_X12_fail ⟨rfl, rfl⟩ ⟨Nat.le_of_ble_eq_true rfl, Nat.le_of_ble_eq_true rfl⟩ ⟨Nat.le_of_ble_eq_true rfl, Nat.le_of_ble_eq_true rfl⟩ hl.1 rfl (Nat.le_of_ble_eq_true rfl) dX12_gone_21) hP (fun v_21 u_21 H locs h hP => ?_)
  exact q_iret C hr hlk hP h (by decide) (by decide) dX12_gone_24
set_option maxHeartbeats 4000000 in
set_option maxRecDepth 100000 in
theorem c_X12_gone {l : Launch} {G : Gx} {p0 : Nat} {p1 : Int32} {p2 : Int32} {u : Mm} {Q : Int32 → Mm → Prop} (h : V_X12_gone G p0 p1 p2 u Q) : Met l yX12_gone [.code yX12_gone cX12_gone 6 (some .int)] rm_X12_gone (va_Pc [.ref p0, .int p1, .int p2] (Wd G u)) (Ei G Q) 0 0 (ag G) := by
  refine q_met (by decide) (Nat.le_of_ble_eq_true rfl) ?_
  intro p e s m below meth c ls C hr hlk hnm hl hP
  have hl : lv_has ls 6 [(0, .ref p0), (1, .int p1), (2, .int p2)] := hl
  generalize ([.ref p0, .int p1, .int p2] : List Value).toArray = args
  have hx := C.1
  have hb := C.2.1
  unfold V_X12_gone at h
  refine lv_aload_n hx hb dX12_gone_0 rfl (lv_at hl 0 rfl) ?_
  refine lv_iconst (v := (0 : Int32)) hx hb dX12_gone_1 (by decide) ?_
  obtain ⟨g1, h⟩ := h
  refine q_putI C hP (k := 1) tyX12_ok nmX12 (lay_X12 C.hA) rfl (by decide) rfl rfl rfl rfl g1 (fl_X12_147 C.hA) dX12_gone_2 (fun H locs hP => ?_)
  obtain ⟨u_2, eu_2, hP⟩ := Hp.nm hP
  have h := h u_2 eu_2
  refine lv_iload_n hx hb dX12_gone_5 rfl (lv_at hl 1 rfl) ?_
  refine q_cali (q_runS C hP (c_X12_isLand h) (cd_X12_isLand C.hA) (ini_X12 C.hA) (ml_X12_246 C.hA) (st_X12_isLand C.hA) hd_X12_isLand ⟨rfl, rfl⟩ ⟨Nat.le_of_ble_eq_true rfl, Nat.le_of_ble_eq_true rfl⟩ ⟨Nat.le_of_ble_eq_true rfl, Nat.le_of_ble_eq_true rfl⟩ hl.1 rfl (Nat.le_of_ble_eq_true rfl) dX12_gone_6) hP (fun v_6 u_6 H locs h hP => ?_)
  refine lv_if_eq (tgt := 19) hx hb dX12_gone_9 (by decide) (fun c9 => ?_) (fun c9 => ?_)
  · have h := h.1 c9
    exact b_X12_gone_19 C hr hlk h (lv_sub hl [0] rfl) hP
  · have h := h.2 c9
    refine lv_iload_n hx hb dX12_gone_12 rfl (lv_at hl 2 rfl) ?_
    refine q_cali (q_runS C hP (c_X12_isYear h) (cd_X12_isYear C.hA) (ini_X12 C.hA) (ml_X12_333 C.hA) (st_X12_isYear C.hA) hd_X12_isYear ⟨rfl, rfl⟩ ⟨Nat.le_of_ble_eq_true rfl, Nat.le_of_ble_eq_true rfl⟩ ⟨Nat.le_of_ble_eq_true rfl, Nat.le_of_ble_eq_true rfl⟩ hl.1 rfl (Nat.le_of_ble_eq_true rfl) dX12_gone_13) hP (fun v_13 u_13 H locs h hP => ?_)
    refine lv_if_ne (tgt := 25) hx hb dX12_gone_16 (by decide) (fun c16 => ?_) (fun c16 => ?_)
    · have h := h.2 c16
      refine lv_iconst (v := (1 : Int32)) hx hb dX12_gone_25 (by decide) ?_
      refine lv_aload_n hx hb dX12_gone_26 rfl (lv_at hl 0 rfl) ?_
      obtain ⟨g2, h⟩ := h
      refine q_getR C hP (k := 3) (lay_X12 C.hA) rfl (by decide) g1 g2 (fl_X12_31 C.hA) dX12_gone_27 ?_
      refine lv_iload_n hx hb dX12_gone_30 rfl (lv_at hl 1 rfl) ?_
      obtain ⟨g3, h⟩ := h
      obtain ⟨g4, h⟩ := h
      refine q_iald C hP g3 g4 dX12_gone_31 ?_
      refine lv_ishl hx hb dX12_gone_32 ?_
      refine lv_iconst (v := (1 : Int32)) hx hb dX12_gone_33 (by decide) ?_
      refine lv_isub hx hb dX12_gone_34 ?_
      refine lv_iconst (v := (1 : Int32)) hx hb dX12_gone_35 (by decide) ?_
      refine lv_aload_n hx hb dX12_gone_36 rfl (lv_at hl 0 rfl) ?_
      obtain ⟨g5, h⟩ := h
      refine q_getR C hP (k := 2) (lay_X12 C.hA) rfl (by decide) g1 g5 (fl_X12_27 C.hA) dX12_gone_37 ?_
      refine lv_iload_n hx hb dX12_gone_40 rfl (lv_at hl 1 rfl) ?_
      obtain ⟨g6, h⟩ := h
      obtain ⟨g7, h⟩ := h
      refine q_iald C hP g6 g7 dX12_gone_41 ?_
      refine lv_ishl hx hb dX12_gone_42 ?_
      refine lv_iconst (v := (1 : Int32)) hx hb dX12_gone_43 (by decide) ?_
      refine lv_isub hx hb dX12_gone_44 ?_
      refine lv_bipush (v := (8 : Int32)) hx hb dX12_gone_45 (by decide) ?_
      refine lv_ishl hx hb dX12_gone_47 ?_
      refine lv_ior hx hb dX12_gone_48 ?_
      refine lv_topi (fun x3_49 ex3_49 => ?_)
      have h := h x3_49 ex3_49
      refine lv_istore_n (lv' := [(3, .int x3_49), (0, .ref p0), (1, .int p1), (2, .int p2)]) hx hb dX12_gone_49 rfl hl (by decide) rfl (fun ls hl => ?_)
      refine lv_iconst (v := (0 : Int32)) hx hb dX12_gone_50 (by decide) ?_
      refine lv_istore (lv' := [(4, .int (0 : Int32)), (3, .int x3_49), (0, .ref p0), (1, .int p1), (2, .int p2)]) hx hb dX12_gone_51 hl (by decide) rfl (fun ls hl => ?_)
      obtain ⟨n, h⟩ := h
      exact l_X12_gone_53 C hr hlk n p0 p1 p2 x3_49 (0 : Int32) u_13 _ _ _ h (lv_sub hl [2, 3, 4, 1, 0] rfl) hP
    · have h := h.1 c16
      exact b_X12_gone_19 C hr hlk h (lv_sub hl [0] rfl) hP
-- X12_tickOfLine
abbrev rm_X12_tickOfLine : Room := { frames := 1, cells := 0, slots := 0, locals := 13 }
theorem hd_X12_tickOfLine : yX12_tickOfLine.cls ≠ "java/lang/invoke/MethodHandle" ∧ yX12_tickOfLine.cls ≠ "java/lang/invoke/VarHandle" ∧ (parseMethodDescriptor yX12_tickOfLine.desc).map (fun d => d.parameters.length) = some 4 := by decide +kernel
def V_X12_tickOfLine_24 (G : Gx) (Q : Int32 → Mm → Prop) (x3 : Int32) (t0 : Int32) (u : Mm) : Prop :=
  ((t0 = 0 → Q (-1 : Int32) u) ∧ (¬ t0 = 0 → ¬ x3 = 0 ∧ Q (((200 : Int32) * t0) / x3) u))
def V_X12_tickOfLine (G : Gx) (p0 : Int32) (p1 : Int32) (p2 : Int32) (p3 : Int32) (u : Mm) (Q : Int32 → Mm → Prop) : Prop :=
  (((41 : Int32) ≤ p0 → V_X12_tickOfLine_24 G Q p3 (ab ((p0 - (41 : Int32)) - p2)) u) ∧ (¬ (41 : Int32) ≤ p0 → V_X12_tickOfLine_24 G Q p3 (ab (p0 - p1)) u))
set_option maxHeartbeats 4000000 in
set_option maxRecDepth 100000 in
theorem b_X12_tickOfLine_24 {G : Gx} {Q : Int32 → Mm → Prop} {p : Program} {l : Launch} {e : Env} {s : State} {m : MethodId} {args : Array Value} {below : List Frame} {meth : Method} {c : Code} (C : Cx G p s m c cX12_tickOfLine RX12 5) (hr : meth.sig.returnType = (some .int)) (hlk : meth.locks = false) {x3 : Int32} {t0 : Int32} {u : Mm} {H : Heap} {locs : List Loc} {ls : Array Slot} (h : V_X12_tickOfLine_24 G Q x3 t0 u) (hl : lv_has ls 5 [(3, .int x3)]) (hP : Hp G u s H locs) : W p l e rm_X12_tickOfLine s m args below meth c H locs 0 0 (MQ below (Ei G Q) args s 0 0 (ag G)) (F0 m 24 ls [.int t0]) := by
  have hx := C.1
  have hb := C.2.1
  unfold V_X12_tickOfLine_24 at h
  refine lv_istore (lv' := [(4, .int t0), (3, .int x3)]) hx hb dX12_tickOfLine_24 hl (by decide) rfl (fun ls hl => ?_)
  refine lv_iload hx hb dX12_tickOfLine_26 (lv_at hl 0 rfl) ?_
  refine lv_if_ne (tgt := 35) hx hb dX12_tickOfLine_28 (by decide) (fun c28 => ?_) (fun c28 => ?_)
  · have h := h.2 c28
    refine lv_sipush (v := (200 : Int32)) hx hb dX12_tickOfLine_35 (by decide) ?_
    refine lv_iload hx hb dX12_tickOfLine_38 (lv_at hl 0 rfl) ?_
    refine lv_imul hx hb dX12_tickOfLine_40 ?_
    refine lv_iload_n hx hb dX12_tickOfLine_41 rfl (lv_at hl 1 rfl) ?_
    obtain ⟨g1, h⟩ := h
    refine lv_idiv hx hb dX12_tickOfLine_42 g1 ?_
    exact q_iret C hr hlk hP h (by decide) (by decide) dX12_tickOfLine_43
  · have h := h.1 c28
    refine lv_iconst (v := (-1 : Int32)) hx hb dX12_tickOfLine_31 (by decide) ?_
    refine lv_goto (tgt := 43) hx hb dX12_tickOfLine_32 (by decide) ?_
    exact q_iret C hr hlk hP h (by decide) (by decide) dX12_tickOfLine_43
set_option maxHeartbeats 4000000 in
set_option maxRecDepth 100000 in
theorem c_X12_tickOfLine {l : Launch} {G : Gx} {p0 : Int32} {p1 : Int32} {p2 : Int32} {p3 : Int32} {u : Mm} {Q : Int32 → Mm → Prop} (h : V_X12_tickOfLine G p0 p1 p2 p3 u Q) : Met l yX12_tickOfLine [.code yX12_tickOfLine cX12_tickOfLine 5 (some .int)] rm_X12_tickOfLine (va_Pc [.int p0, .int p1, .int p2, .int p3] (Wd G u)) (Ei G Q) 0 0 (ag G) := by
  refine q_met (by decide) (Nat.le_of_ble_eq_true rfl) ?_
  intro p e s m below meth c ls C hr hlk hnm hl hP
  have hl : lv_has ls 5 [(0, .int p0), (1, .int p1), (2, .int p2), (3, .int p3)] := hl
  generalize ([.int p0, .int p1, .int p2, .int p3] : List Value).toArray = args
  have hx := C.1
  have hb := C.2.1
  unfold V_X12_tickOfLine at h
  refine lv_iload_n hx hb dX12_tickOfLine_0 rfl (lv_at hl 0 rfl) ?_
  refine lv_bipush (v := (41 : Int32)) hx hb dX12_tickOfLine_1 (by decide) ?_
  refine lv_icmp_ge (tgt := 15) hx hb dX12_tickOfLine_3 (by decide) (fun c3 => ?_) (fun c3 => ?_)
  · have h := h.1 c3
    refine lv_iload_n hx hb dX12_tickOfLine_15 rfl (lv_at hl 0 rfl) ?_
    refine lv_bipush (v := (41 : Int32)) hx hb dX12_tickOfLine_16 (by decide) ?_
    refine lv_isub hx hb dX12_tickOfLine_18 ?_
    refine lv_iload_n hx hb dX12_tickOfLine_19 rfl (lv_at hl 2 rfl) ?_
    refine lv_isub hx hb dX12_tickOfLine_20 ?_
    refine va_mabs hx hb (C.2.2.2.1.trans hl.1.symm) C.2.2.1 (ml_X12_278 C.hA) (st_J9_abs_0f7a4 C.hA) (ini_J9 C.hA) (cd_J9_abs_0f7a4 C.hA) (Nat.le_of_ble_eq_true rfl) (Nat.le_of_ble_eq_true rfl) (Nat.le_of_ble_eq_true rfl) (Nat.le_of_ble_eq_true rfl) dX12_tickOfLine_21 ?_
    exact b_X12_tickOfLine_24 C hr hlk h (lv_sub hl [3] rfl) hP
  · have h := h.2 c3
    refine lv_iload_n hx hb dX12_tickOfLine_6 rfl (lv_at hl 0 rfl) ?_
    refine lv_iload_n hx hb dX12_tickOfLine_7 rfl (lv_at hl 1 rfl) ?_
    refine lv_isub hx hb dX12_tickOfLine_8 ?_
    refine va_mabs hx hb (C.2.2.2.1.trans hl.1.symm) C.2.2.1 (ml_X12_278 C.hA) (st_J9_abs_0f7a4 C.hA) (ini_J9 C.hA) (cd_J9_abs_0f7a4 C.hA) (Nat.le_of_ble_eq_true rfl) (Nat.le_of_ble_eq_true rfl) (Nat.le_of_ble_eq_true rfl) (Nat.le_of_ble_eq_true rfl) dX12_tickOfLine_9 ?_
    refine lv_goto (tgt := 24) hx hb dX12_tickOfLine_12 (by decide) ?_
    exact b_X12_tickOfLine_24 C hr hlk h (lv_sub hl [3] rfl) hP
