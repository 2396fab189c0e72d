theorem df_X0 : ∀ j, j < 5 → defaultValue (tyX0 j) = if rf 0 j then .null else .int 0 := by
  intro j hj
  rcases (show j = 0 ∨ j = 1 ∨ j = 2 ∨ j = 3 ∨ j = 4 by omega) with r | r | r | r | r <;> (subst r; rfl)
theorem df_X1 : ∀ j, j < 8 → defaultValue (tyX1 j) = if rf 1 j then .null else .int 0 := by
  intro j hj
  rcases (show j = 0 ∨ j = 1 ∨ j = 2 ∨ j = 3 ∨ j = 4 ∨ j = 5 ∨ j = 6 ∨ j = 7 by omega) with r | r | r | r | r | r | r | r <;> (subst r; rfl)
theorem df_X2 : ∀ j, j < 5 → defaultValue (tyX2 j) = if rf 2 j then .null else .int 0 := by
  intro j hj
  rcases (show j = 0 ∨ j = 1 ∨ j = 2 ∨ j = 3 ∨ j = 4 by omega) with r | r | r | r | r <;> (subst r; rfl)
theorem df_X3 : ∀ j, j < 7 → defaultValue (tyX3 j) = if rf 3 j then .null else .int 0 := by
  intro j hj
  rcases (show j = 0 ∨ j = 1 ∨ j = 2 ∨ j = 3 ∨ j = 4 ∨ j = 5 ∨ j = 6 by omega) with r | r | r | r | r | r | r <;> (subst r; rfl)
theorem df_X4 : ∀ j, j < 8 → defaultValue (tyX4 j) = if rf 4 j then .null else .int 0 := by
  intro j hj
  rcases (show j = 0 ∨ j = 1 ∨ j = 2 ∨ j = 3 ∨ j = 4 ∨ j = 5 ∨ j = 6 ∨ j = 7 by omega) with r | r | r | r | r | r | r | r <;> (subst r; rfl)
theorem df_X5 : ∀ j, j < 8 → defaultValue (tyX5 j) = if rf 5 j then .null else .int 0 := by
  intro j hj
  rcases (show j = 0 ∨ j = 1 ∨ j = 2 ∨ j = 3 ∨ j = 4 ∨ j = 5 ∨ j = 6 ∨ j = 7 by omega) with r | r | r | r | r | r | r | r <;> (subst r; rfl)
theorem df_X6 : ∀ j, j < 9 → defaultValue (tyX6 j) = if rf 6 j then .null else .int 0 := by
  intro j hj
  rcases (show j = 0 ∨ j = 1 ∨ j = 2 ∨ j = 3 ∨ j = 4 ∨ j = 5 ∨ j = 6 ∨ j = 7 ∨ j = 8 by omega) with r | r | r | r | r | r | r | r | r <;> (subst r; rfl)
theorem df_X7 : ∀ j, j < 7 → defaultValue (tyX7 j) = if rf 7 j then .null else .int 0 := by
  intro j hj
  rcases (show j = 0 ∨ j = 1 ∨ j = 2 ∨ j = 3 ∨ j = 4 ∨ j = 5 ∨ j = 6 by omega) with r | r | r | r | r | r | r <;> (subst r; rfl)
theorem df_X8 : ∀ j, j < 12 → defaultValue (tyX8 j) = if rf 8 j then .null else .int 0 := by
  intro j hj
  rcases (show j = 0 ∨ j = 1 ∨ j = 2 ∨ j = 3 ∨ j = 4 ∨ j = 5 ∨ j = 6 ∨ j = 7 ∨ j = 8 ∨ j = 9 ∨ j = 10 ∨ j = 11 by omega) with r | r | r | r | r | r | r | r | r | r | r | r <;> (subst r; rfl)
theorem df_X9 : ∀ j, j < 5 → defaultValue (tyX9 j) = if rf 9 j then .null else .int 0 := by
  intro j hj
  rcases (show j = 0 ∨ j = 1 ∨ j = 2 ∨ j = 3 ∨ j = 4 by omega) with r | r | r | r | r <;> (subst r; rfl)
theorem df_X10 : ∀ j, j < 5 → defaultValue (tyX10 j) = if rf 10 j then .null else .int 0 := by
  intro j hj
  rcases (show j = 0 ∨ j = 1 ∨ j = 2 ∨ j = 3 ∨ j = 4 by omega) with r | r | r | r | r <;> (subst r; rfl)
theorem df_X11 : ∀ j, j < 12 → defaultValue (tyX11 j) = if rf 11 j then .null else .int 0 := by
  intro j hj
  rcases (show j = 0 ∨ j = 1 ∨ j = 2 ∨ j = 3 ∨ j = 4 ∨ j = 5 ∨ j = 6 ∨ j = 7 ∨ j = 8 ∨ j = 9 ∨ j = 10 ∨ j = 11 by omega) with r | r | r | r | r | r | r | r | r | r | r | r <;> (subst r; rfl)
theorem df_X12 : ∀ j, j < 58 → defaultValue (tyX12 j) = if rf 12 j then .null else .int 0 := by
  intro j hj
  rcases (show j = 0 ∨ j = 1 ∨ j = 2 ∨ j = 3 ∨ j = 4 ∨ j = 5 ∨ j = 6 ∨ j = 7 ∨ j = 8 ∨ j = 9 ∨ j = 10 ∨ j = 11 ∨ j = 12 ∨ j = 13 ∨ j = 14 ∨ j = 15 ∨ j = 16 ∨ j = 17 ∨ j = 18 ∨ j = 19 ∨ j = 20 ∨ j = 21 ∨ j = 22 ∨ j = 23 ∨ j = 24 ∨ j = 25 ∨ j = 26 ∨ j = 27 ∨ j = 28 ∨ j = 29 ∨ j = 30 ∨ j = 31 ∨ j = 32 ∨ j = 33 ∨ j = 34 ∨ j = 35 ∨ j = 36 ∨ j = 37 ∨ j = 38 ∨ j = 39 ∨ j = 40 ∨ j = 41 ∨ j = 42 ∨ j = 43 ∨ j = 44 ∨ j = 45 ∨ j = 46 ∨ j = 47 ∨ j = 48 ∨ j = 49 ∨ j = 50 ∨ j = 51 ∨ j = 52 ∨ j = 53 ∨ j = 54 ∨ j = 55 ∨ j = 56 ∨ j = 57 by omega) with r | r | r | r | r | r | r | r | r | r | r | r | r | r | r | r | r | r | r | r | r | r | r | r | r | r | r | r | r | r | r | r | r | r | r | r | r | r | r | r | r | r | r | r | r | r | r | r | r | r | r | r | r | r | r | r | r | r <;> (subst r; rfl)
-- X9_init
abbrev rm_X9_init : Room := { frames := 1, cells := 0, slots := 0, locals := 12 }
theorem hd_X9_init : yX9_init.cls ≠ "java/lang/invoke/MethodHandle" ∧ yX9_init.cls ≠ "java/lang/invoke/VarHandle" ∧ (parseMethodDescriptor yX9_init.desc).map (fun d => d.parameters.length) = some 0 := by decide +kernel
set_option maxRecDepth 100000 in
def V_X9_init (G : Gx) (p0 n0 : Nat) (u : Mm) (Q : Mm → Prop) : Prop :=
  0 = 0 ∧ 0 ≤ 0 ∧ Q u
set_option maxHeartbeats 4000000 in
set_option maxRecDepth 100000 in
theorem c_X9_init {l : Launch} {G : Gx} {p0 n0 : Nat} {u : Mm} {Q : Mm → Prop} (hB : bsG G) (h : V_X9_init G p0 n0 u Q) : Met l yX9_init [.code yX9_init cX9_init 1 none] rm_X9_init (va_Pc [.ref p0] (WdC G n0 u)) (EvC G (n0 + 0) Q) 0 0 (ag G) := by
  refine q_metC (by decide) (Nat.le_of_ble_eq_true rfl) ?_
  intro p e s m below meth c ls C hr hlk hnm hn0 hl hP
  have hl : lv_has ls 1 [(0, .ref p0)] := hl
  generalize ([.ref p0] : List Value).toArray = args
  have hx := C.1
  have hb := C.2.1
  have hP : Hp (cut G (n0 + 0)) u s s.heap [] := hP
  unfold V_X9_init at h
  refine lv_aload_n hx hb dX9_init_0 rfl (lv_at hl 0 rfl) ?_
  refine W.objInit hx hb C.2.2.1 (ml_X9_1 C.hA) (im_java_lang_Object__init___V C.hA) (cd_java_lang_Object__init___V C.hA) rfl (hl.1.trans C.2.2.2.1.symm) rfl dX9_init_1 (Nat.le_of_ble_eq_true rfl) (Nat.le_of_ble_eq_true rfl) ?_
  refine W.eq (g2 := F0 m 4 ls []) rfl ?_
  obtain ⟨g1, h⟩ := h
  obtain ⟨g2, h⟩ := h
  have hP := Hp.cte g1 hP
  exact q_vretC (C.cut hB _) hr hlk hP h (Nat.le_of_eq g1) g2 dX9_init_4
-- X0_init
abbrev rm_X0_init : Room := { frames := 1, cells := 0, slots := 0, locals := 12 }
theorem hd_X0_init : yX0_init.cls ≠ "java/lang/invoke/MethodHandle" ∧ yX0_init.cls ≠ "java/lang/invoke/VarHandle" ∧ (parseMethodDescriptor yX0_init.desc).map (fun d => d.parameters.length) = some 0 := by decide +kernel
set_option maxRecDepth 100000 in
def V_X0_init (G : Gx) (p0 n0 : Nat) (u : Mm) (Q : Mm → Prop) : Prop :=
  0 = 0 ∧ 0 ≤ 0 ∧ Q u
set_option maxHeartbeats 4000000 in
set_option maxRecDepth 100000 in
theorem c_X0_init {l : Launch} {G : Gx} {p0 n0 : Nat} {u : Mm} {Q : Mm → Prop} (hB : bsG G) (h : V_X0_init G p0 n0 u Q) : Met l yX0_init [.code yX0_init cX0_init 1 none] rm_X0_init (va_Pc [.ref p0] (WdC G n0 u)) (EvC G (n0 + 0) Q) 0 0 (ag G) := by
  refine q_metC (by decide) (Nat.le_of_ble_eq_true rfl) ?_
  intro p e s m below meth c ls C hr hlk hnm hn0 hl hP
  have hl : lv_has ls 1 [(0, .ref p0)] := hl
  generalize ([.ref p0] : List Value).toArray = args
  have hx := C.1
  have hb := C.2.1
  have hP : Hp (cut G (n0 + 0)) u s s.heap [] := hP
  unfold V_X0_init at h
  refine lv_aload_n hx hb dX0_init_0 rfl (lv_at hl 0 rfl) ?_
  refine W.objInit hx hb C.2.2.1 (ml_X0_1 C.hA) (im_java_lang_Object__init___V C.hA) (cd_java_lang_Object__init___V C.hA) rfl (hl.1.trans C.2.2.2.1.symm) rfl dX0_init_1 (Nat.le_of_ble_eq_true rfl) (Nat.le_of_ble_eq_true rfl) ?_
  refine W.eq (g2 := F0 m 4 ls []) rfl ?_
  obtain ⟨g1, h⟩ := h
  obtain ⟨g2, h⟩ := h
  have hP := Hp.cte g1 hP
  exact q_vretC (C.cut hB _) hr hlk hP h (Nat.le_of_eq g1) g2 dX0_init_4
-- X10_init
abbrev rm_X10_init : Room := { frames := 1, cells := 1, slots := 3, locals := 12 }
theorem hd_X10_init : yX10_init.cls ≠ "java/lang/invoke/MethodHandle" ∧ yX10_init.cls ≠ "java/lang/invoke/VarHandle" ∧ (parseMethodDescriptor yX10_init.desc).map (fun d => d.parameters.length) = some 0 := by decide +kernel
set_option maxRecDepth 100000 in
def V_X10_init (G : Gx) (p0 n0 : Nat) (u : Mm) (Q : Mm → Prop) : Prop :=
  kd G (gz G + (n0 + 0)) = 13 ∧ ln G (gz G + (n0 + 0)) = 3 ∧ blk u (gz G + (n0 + 0)) ∧ 0 + 1 ≤ 1 ∧ 0 + 3 ≤ 3 ∧ kd (cut G (n0 + 1)) p0 = 10 ∧ (gz G + (n0 + 0)) ≠ 0 ∧ ∀ u_8 : Mm, u_8 = sR u p0 4 (gz G + (n0 + 0)) → 1 = 1 ∧ 3 ≤ 3 ∧ Q u_8
set_option maxHeartbeats 4000000 in
set_option maxRecDepth 100000 in
theorem c_X10_init {l : Launch} {G : Gx} {p0 n0 : Nat} {u : Mm} {Q : Mm → Prop} (hB : bsG G) (h : V_X10_init G p0 n0 u Q) : Met l yX10_init [.code yX10_init cX10_init 1 none] rm_X10_init (va_Pc [.ref p0] (WdC G n0 u)) (EvC G (n0 + 1) Q) 1 3 (ag G) := by
  refine q_metC (by decide) (Nat.le_of_ble_eq_true rfl) ?_
  intro p e s m below meth c ls C hr hlk hnm hn0 hl hP
  have hl : lv_has ls 1 [(0, .ref p0)] := hl
  generalize ([.ref p0] : List Value).toArray = args
  have hx := C.1
  have hb := C.2.1
  have hP : Hp (cut G (n0 + 0)) u s s.heap [] := hP
  unfold V_X10_init at h
  refine lv_aload_n hx hb dX10_init_0 rfl (lv_at hl 0 rfl) ?_
  refine W.objInit hx hb C.2.2.1 (ml_X10_3 C.hA) (im_java_lang_Object__init___V C.hA) (cd_java_lang_Object__init___V C.hA) rfl (hl.1.trans C.2.2.2.1.symm) rfl dX10_init_1 (Nat.le_of_ble_eq_true rfl) (Nat.le_of_ble_eq_true rfl) ?_
  refine W.eq (g2 := F0 m 4 ls []) rfl ?_
  refine lv_aload_n hx hb dX10_init_4 rfl (lv_at hl 0 rfl) ?_
  refine lv_iconst (v := (3 : Int32)) hx hb dX10_init_5 (by decide) ?_
  obtain ⟨g1, h⟩ := h
  obtain ⟨g2, h⟩ := h
  obtain ⟨g3, h⟩ := h
  obtain ⟨g4, h⟩ := h
  obtain ⟨g5, h⟩ := h
  refine q_size hB hP hn0 (fun hz => ?_)
  refine q_newi (C.cut hB _) hP hz (by decide) (by decide) g1 g2 g3 (by decide) g4 g5 dX10_init_6 (fun H hP => ?_)
  refine W.cs (cells' := 1) (slots' := 3) rfl rfl ?_
  have hP : Hp (cut G (n0 + 1)) u s H _ := hP
  obtain ⟨g6, h⟩ := h
  obtain ⟨g7, h⟩ := h
  refine q_putFR (C.cut hB _) hP hnm (k := 4) tyX10_ok nmX10 (lay_X10 C.hA) rfl (by decide) rfl rfl rfl rfl rfl g6 g7 (fl_X10_9 C.hA) dX10_init_8 (fun H locs hP => ?_)
  obtain ⟨u_8, eu_8, hP⟩ := Hp.nm hP
  have h := h u_8 eu_8
  obtain ⟨g8, h⟩ := h
  obtain ⟨g9, h⟩ := h
  have hP := Hp.cte g8 hP
  exact q_vretC (C.cut hB _) hr hlk hP h (Nat.le_of_eq g8) g9 dX10_init_11
-- X4_init
abbrev rm_X4_init : Room := { frames := 2, cells := 23, slots := 108, locals := 32 }
theorem hd_X4_init : yX4_init.cls ≠ "java/lang/invoke/MethodHandle" ∧ yX4_init.cls ≠ "java/lang/invoke/VarHandle" ∧ (parseMethodDescriptor yX4_init.desc).map (fun d => d.parameters.length) = some 0 := by decide +kernel
def V_X4_init_86_B (G : Gx) (Q : Mm → Prop) (n0 : Nat) (k_86 : Nat → Int32 → Nat → Nat → Mm → Prop) (x0 : Nat) (x1 : Int32) (cn sl : Nat) (u : Mm) : Prop :=
  (((4 : Int32) ≤ x1 → kd (cut G (n0 + cn)) x0 = 4 ∧ cn + 0 ≤ 23 ∧ sl + 0 ≤ 108 ∧ V_X4_empty (cut G (n0 + cn)) x0 u (fun (u_111 : Mm) => cn = 23 ∧ sl ≤ 108 ∧ Q u_111)) ∧ (¬ (4 : Int32) ≤ x1 → kd (cut G (n0 + cn)) x0 = 4 ∧ (gR u x0 2) ≠ 0 ∧ kd G (gz G + (n0 + cn)) = 10 ∧ blk u (gz G + (n0 + cn)) ∧ cn + 1 ≤ 23 ∧ sl + 5 ≤ 108 ∧ (cn + 1) + 1 ≤ 23 ∧ (sl + 5) + 3 ≤ 108 ∧ V_X10_init G (gz G + (n0 + cn)) (n0 + (cn + 1)) u (fun (u_100 : Mm) => kd (cut G (n0 + ((cn + 1) + 1))) (gR u x0 2) = 19 ∧ vp_in x1 (ln (cut G (n0 + ((cn + 1) + 1))) (gR u x0 2)) ∧ kd (cut G (n0 + ((cn + 1) + 1))) (gz G + (n0 + cn)) = 10 ∧ ∀ u_103 : Mm, u_103 = sR u_100 (gR u x0 2) x1.toNatClampNeg (gz G + (n0 + cn)) → ∀ x1_104 : Int32, x1_104 = x1 + (1 : Int32) → k_86 x0 x1_104 ((cn + 1) + 1) ((sl + 5) + 3) u_103)))
def V_X4_init_86 (G : Gx) (Q : Mm → Prop) (n0 : Nat) : Nat → (Nat → Int32 → Nat → Nat → Mm → Prop)
  | 0 => fun _ _ _ _ _ => False
  | n + 1 => fun x0 x1 cn sl u => V_X4_init_86_B G Q n0 (V_X4_init_86 G Q n0 n) x0 x1 cn sl u
def V_X4_init_51_B (G : Gx) (Q : Mm → Prop) (n0 : Nat) (k_51 : Nat → Int32 → Nat → Nat → Mm → Prop) (x0 : Nat) (x1 : Int32) (cn sl : Nat) (u : Mm) : Prop :=
  (((6 : Int32) ≤ x1 → kd G (gz G + (n0 + cn)) = 19 ∧ ln G (gz G + (n0 + cn)) = 4 ∧ blk u (gz G + (n0 + cn)) ∧ cn + 1 ≤ 23 ∧ sl + 4 ≤ 108 ∧ kd (cut G (n0 + (cn + 1))) x0 = 4 ∧ (gz G + (n0 + cn)) ≠ 0 ∧ ∀ u_81 : Mm, u_81 = sR u x0 2 (gz G + (n0 + cn)) → ∃ n : Nat, V_X4_init_86 G Q n0 n x0 (0 : Int32) (cn + 1) (sl + 4) u_81) ∧ (¬ (6 : Int32) ≤ x1 → kd (cut G (n0 + cn)) x0 = 4 ∧ (gR u x0 1) ≠ 0 ∧ kd G (gz G + (n0 + cn)) = 0 ∧ blk u (gz G + (n0 + cn)) ∧ cn + 1 ≤ 23 ∧ sl + 5 ≤ 108 ∧ (cn + 1) + 0 ≤ 23 ∧ (sl + 5) + 0 ≤ 108 ∧ V_X0_init G (gz G + (n0 + cn)) (n0 + (cn + 1)) u (fun (u_66 : Mm) => kd (cut G (n0 + ((cn + 1) + 0))) (gR u x0 1) = 18 ∧ vp_in x1 (ln (cut G (n0 + ((cn + 1) + 0))) (gR u x0 1)) ∧ kd (cut G (n0 + ((cn + 1) + 0))) (gz G + (n0 + cn)) = 0 ∧ ∀ u_69 : Mm, u_69 = sR u_66 (gR u x0 1) x1.toNatClampNeg (gz G + (n0 + cn)) → ∀ x1_70 : Int32, x1_70 = x1 + (1 : Int32) → k_51 x0 x1_70 ((cn + 1) + 0) ((sl + 5) + 0) u_69)))
def V_X4_init_51 (G : Gx) (Q : Mm → Prop) (n0 : Nat) : Nat → (Nat → Int32 → Nat → Nat → Mm → Prop)
  | 0 => fun _ _ _ _ _ => False
  | n + 1 => fun x0 x1 cn sl u => V_X4_init_51_B G Q n0 (V_X4_init_51 G Q n0 n) x0 x1 cn sl u
def V_X4_init_15_B (G : Gx) (Q : Mm → Prop) (n0 : Nat) (k_15 : Nat → Int32 → Nat → Nat → Mm → Prop) (x0 : Nat) (x1 : Int32) (cn sl : Nat) (u : Mm) : Prop :=
  (((6 : Int32) ≤ x1 → kd G (gz G + (n0 + cn)) = 18 ∧ ln G (gz G + (n0 + cn)) = 6 ∧ blk u (gz G + (n0 + cn)) ∧ cn + 1 ≤ 23 ∧ sl + 6 ≤ 108 ∧ kd (cut G (n0 + (cn + 1))) x0 = 4 ∧ (gz G + (n0 + cn)) ≠ 0 ∧ ∀ u_46 : Mm, u_46 = sR u x0 1 (gz G + (n0 + cn)) → ∃ n : Nat, V_X4_init_51 G Q n0 n x0 (0 : Int32) (cn + 1) (sl + 6) u_46) ∧ (¬ (6 : Int32) ≤ x1 → kd (cut G (n0 + cn)) x0 = 4 ∧ (gR u x0 0) ≠ 0 ∧ kd G (gz G + (n0 + cn)) = 9 ∧ blk u (gz G + (n0 + cn)) ∧ cn + 1 ≤ 23 ∧ sl + 5 ≤ 108 ∧ (cn + 1) + 0 ≤ 23 ∧ (sl + 5) + 0 ≤ 108 ∧ V_X9_init G (gz G + (n0 + cn)) (n0 + (cn + 1)) u (fun (u_30 : Mm) => kd (cut G (n0 + ((cn + 1) + 0))) (gR u x0 0) = 17 ∧ vp_in x1 (ln (cut G (n0 + ((cn + 1) + 0))) (gR u x0 0)) ∧ kd (cut G (n0 + ((cn + 1) + 0))) (gz G + (n0 + cn)) = 9 ∧ ∀ u_33 : Mm, u_33 = sR u_30 (gR u x0 0) x1.toNatClampNeg (gz G + (n0 + cn)) → ∀ x1_34 : Int32, x1_34 = x1 + (1 : Int32) → k_15 x0 x1_34 ((cn + 1) + 0) ((sl + 5) + 0) u_33)))
def V_X4_init_15 (G : Gx) (Q : Mm → Prop) (n0 : Nat) : Nat → (Nat → Int32 → Nat → Nat → Mm → Prop)
  | 0 => fun _ _ _ _ _ => False
  | n + 1 => fun x0 x1 cn sl u => V_X4_init_15_B G Q n0 (V_X4_init_15 G Q n0 n) x0 x1 cn sl u
set_option maxRecDepth 100000 in
def V_X4_init (G : Gx) (p0 n0 : Nat) (u : Mm) (Q : Mm → Prop) : Prop :=
  kd G (gz G + (n0 + 0)) = 17 ∧ ln G (gz G + (n0 + 0)) = 6 ∧ blk u (gz G + (n0 + 0)) ∧ 0 + 1 ≤ 23 ∧ 0 + 6 ≤ 108 ∧ kd (cut G (n0 + 1)) p0 = 4 ∧ (gz G + (n0 + 0)) ≠ 0 ∧ ∀ u_10 : Mm, u_10 = sR u p0 0 (gz G + (n0 + 0)) → ∃ n : Nat, V_X4_init_15 G Q n0 n p0 (0 : Int32) 1 6 u_10
set_option maxHeartbeats 4000000 in
set_option maxRecDepth 100000 in
theorem b_X4_init_86 {G : Gx} {Q : Mm → Prop} {n0 : Nat} {p : Program} {l : Launch} {e : Env} {s : State} {m : MethodId} {args : Array Value} {below : List Frame} {meth : Method} {c : Code} (hB : bsG G) (C : Cx (cut G n0) p s m c cX4_init RX4 2) (hr : meth.sig.returnType = none) (hlk : meth.locks = false) (hn0 : s.heap.size = gz G + n0) (hnm : meth.name = "<init>") {k_86 : Nat → Int32 → Nat → Nat → Mm → Prop} (hk_86 : ∀ (x0 : Nat) (x1 : Int32) (cn sl : Nat) (u : Mm) (H : Heap) (locs : List Loc) (ls : Array Slot), k_86 x0 x1 cn sl u → lv_has ls 2 [(0, .ref x0), (1, .int x1)] → Hp (cut G (n0 + cn)) u s H locs → W p l e rm_X4_init s m args below meth c H locs cn sl (MQ below (EvC G (n0 + 23) Q) args s 23 108 (ag G)) (F0 m 86 ls [])) {x0 : Nat} {x1 : Int32} {cn sl : Nat} {u : Mm} {H : Heap} {locs : List Loc} {ls : Array Slot} (h : V_X4_init_86_B G Q n0 k_86 x0 x1 cn sl u) (hl : lv_has ls 2 [(0, .ref x0), (1, .int x1)]) (hP : Hp (cut G (n0 + cn)) u s H locs) : W p l e rm_X4_init s m args below meth c H locs cn sl (MQ below (EvC G (n0 + 23) Q) args s 23 108 (ag G)) (F0 m 86 ls []) := by
  have hx := C.1
  have hb := C.2.1
  unfold V_X4_init_86_B at h
  refine lv_iload_n hx hb dX4_init_86 rfl (lv_at hl 1 rfl) ?_
  refine lv_iconst (v := (4 : Int32)) hx hb dX4_init_87 (by decide) ?_
  refine lv_icmp_ge (tgt := 110) hx hb dX4_init_88 (by decide) (fun c88 => ?_) (fun c88 => ?_)
  · have h := h.1 c88
    refine lv_aload_n hx hb dX4_init_110 rfl (lv_at hl 0 rfl) ?_
    obtain ⟨g1, h⟩ := h
    obtain ⟨g2, h⟩ := h
    obtain ⟨g3, h⟩ := h
    refine q_calv (q_runV (C.cut hB _) hP (c_X4_empty h) (cd_X4_empty C.hA) (ini_X4 C.hA) (ml_X4_32 C.hA) (im_X4_empty C.hA) (sl_X4_empty C.hA) g1 (by decide) rfl hd_X4_empty ⟨rfl, rfl⟩ ⟨Nat.le_of_ble_eq_true rfl, Nat.le_of_ble_eq_true rfl⟩ ⟨g2, g3⟩ hl.1 rfl (Nat.le_of_ble_eq_true rfl) dX4_init_111) hP (fun u_111 H locs h hP => ?_)
    obtain ⟨g4, h⟩ := h
    obtain ⟨g5, h⟩ := h
    have hP := Hp.cte g4 hP
    exact q_vretC (C.cut hB _) hr hlk hP h (Nat.le_of_eq g4) g5 dX4_init_114
  · have h := h.2 c88
    refine lv_aload_n hx hb dX4_init_91 rfl (lv_at hl 0 rfl) ?_
    obtain ⟨g6, h⟩ := h
    obtain ⟨g7, h⟩ := h
    refine q_getR (C.cut hB _) hP (k := 2) (lay_X4 C.hA) rfl (by decide) g6 g7 (fl_X4_27 C.hA) dX4_init_92 ?_
    refine lv_iload_n hx hb dX4_init_95 rfl (lv_at hl 1 rfl) ?_
    obtain ⟨g8, h⟩ := h
    obtain ⟨g9, h⟩ := h
    obtain ⟨g10, h⟩ := h
    obtain ⟨g11, h⟩ := h
    refine q_size hB hP hn0 (fun hz => ?_)
    refine q_new hB (C.cut hB _) hP hz tyX10_ok (lay_X10 C.hA) rfl (by decide) df_X10 (cl_X4_25 C.hA) (inst_X10 C.hA) (ini_X10 C.hA) g8 g9 g10 g11 dX4_init_96 (fun H hP => ?_)
    have hP : Hp (cut G (n0 + (cn + 1))) u s H _ := hP
    refine lv_dup hx hb dX4_init_99 rfl ?_
    obtain ⟨g12, h⟩ := h
    obtain ⟨g13, h⟩ := h
    refine q_size hB hP hn0 (fun hz => ?_)
    refine q_calC (q_runIN (C.cut hB _) hP hz (c_X10_init hB h) (cd_X10_init C.hA) (ini_X10 C.hA) (mn_X4_31 C.hA) (im_X10_init C.hA) rfl hd_X10_init ⟨rfl, rfl⟩ ⟨Nat.le_of_ble_eq_true rfl, Nat.le_of_ble_eq_true rfl⟩ ⟨g12, g13⟩ hl.1 rfl (Nat.le_of_ble_eq_true rfl) dX4_init_100) hP (fun u_100 H locs h hP => ?_)
    obtain ⟨g14, h⟩ := h
    obtain ⟨g15, h⟩ := h
    obtain ⟨g16, h⟩ := h
    refine q_aast (C.cut hB _) hP g14 (by decide) (r := (RX10, TX10, 5)) rfl rfl (by decide) g16 g15 dX4_init_103 (fun H locs hP => ?_)
    obtain ⟨u_103, eu_103, hP⟩ := Hp.nm hP
    have h := h u_103 eu_103
    obtain ⟨x1_104, ex1_104⟩ : ∃ y : Int32, y = x1 + (1 : Int32) := ⟨_, rfl⟩
    have h := h x1_104 ex1_104
    refine lv_iinc (v := x1_104) (lv' := [(1, .int x1_104), (0, .ref x0)]) hx hb dX4_init_104 hl (k := 1) rfl (by rw [ex1_104]; rfl) (by decide) rfl (fun ls hl => ?_)
    refine lv_goto (tgt := 86) hx hb dX4_init_107 (by decide) ?_
    exact hk_86 x0 x1_104 ((cn + 1) + 1) ((sl + 5) + 3) u_103 _ _ _ h (lv_sub hl [1, 0] rfl) hP
theorem l_X4_init_86 {G : Gx} {Q : Mm → Prop} {n0 : Nat} {p : Program} {l : Launch} {e : Env} {s : State} {m : MethodId} {args : Array Value} {below : List Frame} {meth : Method} {c : Code} (hB : bsG G) (C : Cx (cut G n0) p s m c cX4_init RX4 2) (hr : meth.sig.returnType = none) (hlk : meth.locks = false) (hn0 : s.heap.size = gz G + n0) (hnm : meth.name = "<init>") : ∀ (n : Nat) (x0 : Nat) (x1 : Int32) (cn sl : Nat) (u : Mm) (H : Heap) (locs : List Loc) (ls : Array Slot), V_X4_init_86 G Q n0 n x0 x1 cn sl u → lv_has ls 2 [(0, .ref x0), (1, .int x1)] → Hp (cut G (n0 + cn)) u s H locs → W p l e rm_X4_init s m args below meth c H locs cn sl (MQ below (EvC G (n0 + 23) Q) args s 23 108 (ag G)) (F0 m 86 ls []) := by
  intro n
  induction n with
  | zero => intro x0 x1 cn sl u H locs ls h; exact h.elim
  | succ n ih => intro x0 x1 cn sl u H locs ls h hl hP; exact b_X4_init_86 hB C hr hlk hn0 hnm ih h hl hP
set_option maxHeartbeats 4000000 in
set_option maxRecDepth 100000 in
theorem b_X4_init_51 {G : Gx} {Q : Mm → Prop} {n0 : Nat} {p : Program} {l : Launch} {e : Env} {s : State} {m : MethodId} {args : Array Value} {below : List Frame} {meth : Method} {c : Code} (hB : bsG G) (C : Cx (cut G n0) p s m c cX4_init RX4 2) (hr : meth.sig.returnType = none) (hlk : meth.locks = false) (hn0 : s.heap.size = gz G + n0) (hnm : meth.name = "<init>") {k_51 : Nat → Int32 → Nat → Nat → Mm → Prop} (hk_51 : ∀ (x0 : Nat) (x1 : Int32) (cn sl : Nat) (u : Mm) (H : Heap) (locs : List Loc) (ls : Array Slot), k_51 x0 x1 cn sl u → lv_has ls 2 [(0, .ref x0), (1, .int x1)] → Hp (cut G (n0 + cn)) u s H locs → W p l e rm_X4_init s m args below meth c H locs cn sl (MQ below (EvC G (n0 + 23) Q) args s 23 108 (ag G)) (F0 m 51 ls [])) {x0 : Nat} {x1 : Int32} {cn sl : Nat} {u : Mm} {H : Heap} {locs : List Loc} {ls : Array Slot} (h : V_X4_init_51_B G Q n0 k_51 x0 x1 cn sl u) (hl : lv_has ls 2 [(0, .ref x0), (1, .int x1)]) (hP : Hp (cut G (n0 + cn)) u s H locs) : W p l e rm_X4_init s m args below meth c H locs cn sl (MQ below (EvC G (n0 + 23) Q) args s 23 108 (ag G)) (F0 m 51 ls []) := by
  have hx := C.1
  have hb := C.2.1
  unfold V_X4_init_51_B at h
  refine lv_iload_n hx hb dX4_init_51 rfl (lv_at hl 1 rfl) ?_
  refine lv_bipush (v := (6 : Int32)) hx hb dX4_init_52 (by decide) ?_
  refine lv_icmp_ge (tgt := 76) hx hb dX4_init_54 (by decide) (fun c54 => ?_) (fun c54 => ?_)
  · have h := h.1 c54
    refine lv_aload_n hx hb dX4_init_76 rfl (lv_at hl 0 rfl) ?_
    refine lv_iconst (v := (4 : Int32)) hx hb dX4_init_77 (by decide) ?_
    obtain ⟨g1, h⟩ := h
    obtain ⟨g2, h⟩ := h
    obtain ⟨g3, h⟩ := h
    obtain ⟨g4, h⟩ := h
    obtain ⟨g5, h⟩ := h
    refine q_size hB hP hn0 (fun hz => ?_)
    refine q_newr (C.cut hB _) hP hz (cl_X4_25 C.hA) (ao_object_ClapValley_Wood C.hA) rfl (by decide) (by decide) (by decide) g1 g2 g3 (by decide) g4 g5 dX4_init_78 (fun H hP => ?_)
    have hP : Hp (cut G (n0 + (cn + 1))) u s H _ := hP
    obtain ⟨g6, h⟩ := h
    obtain ⟨g7, h⟩ := h
    refine q_putFR (C.cut hB _) hP hnm (k := 2) tyX4_ok nmX4 (lay_X4 C.hA) rfl (by decide) rfl rfl rfl rfl rfl g6 g7 (fl_X4_27 C.hA) dX4_init_81 (fun H locs hP => ?_)
    obtain ⟨u_81, eu_81, hP⟩ := Hp.nm hP
    have h := h u_81 eu_81
    refine lv_iconst (v := (0 : Int32)) hx hb dX4_init_84 (by decide) ?_
    refine lv_istore_n (lv' := [(1, .int (0 : Int32)), (0, .ref x0)]) hx hb dX4_init_85 rfl hl (by decide) rfl (fun ls hl => ?_)
    obtain ⟨n, h⟩ := h
    exact l_X4_init_86 hB C hr hlk hn0 hnm n x0 (0 : Int32) (cn + 1) (sl + 4) u_81 _ _ _ h (lv_sub hl [1, 0] rfl) hP
  · have h := h.2 c54
    refine lv_aload_n hx hb dX4_init_57 rfl (lv_at hl 0 rfl) ?_
    obtain ⟨g8, h⟩ := h
    obtain ⟨g9, h⟩ := h
    refine q_getR (C.cut hB _) hP (k := 1) (lay_X4 C.hA) rfl (by decide) g8 g9 (fl_X4_20 C.hA) dX4_init_58 ?_
    refine lv_iload_n hx hb dX4_init_61 rfl (lv_at hl 1 rfl) ?_
    obtain ⟨g10, h⟩ := h
    obtain ⟨g11, h⟩ := h
    obtain ⟨g12, h⟩ := h
    obtain ⟨g13, h⟩ := h
    refine q_size hB hP hn0 (fun hz => ?_)
    refine q_new hB (C.cut hB _) hP hz tyX0_ok (lay_X0 C.hA) rfl (by decide) df_X0 (cl_X4_18 C.hA) (inst_X0 C.hA) (ini_X0 C.hA) g10 g11 g12 g13 dX4_init_62 (fun H hP => ?_)
    have hP : Hp (cut G (n0 + (cn + 1))) u s H _ := hP
    refine lv_dup hx hb dX4_init_65 rfl ?_
    obtain ⟨g14, h⟩ := h
    obtain ⟨g15, h⟩ := h
    refine q_size hB hP hn0 (fun hz => ?_)
    refine q_calC (q_runIN (C.cut hB _) hP hz (c_X0_init hB h) (cd_X0_init C.hA) (ini_X0 C.hA) (mn_X4_24 C.hA) (im_X0_init C.hA) rfl hd_X0_init ⟨rfl, rfl⟩ ⟨Nat.le_of_ble_eq_true rfl, Nat.le_of_ble_eq_true rfl⟩ ⟨g14, g15⟩ hl.1 rfl (Nat.le_of_ble_eq_true rfl) dX4_init_66) hP (fun u_66 H locs h hP => ?_)
    obtain ⟨g16, h⟩ := h
    obtain ⟨g17, h⟩ := h
    obtain ⟨g18, h⟩ := h
    refine q_aast (C.cut hB _) hP g16 (by decide) (r := (RX0, TX0, 5)) rfl rfl (by decide) g18 g17 dX4_init_69 (fun H locs hP => ?_)
    obtain ⟨u_69, eu_69, hP⟩ := Hp.nm hP
    have h := h u_69 eu_69
    obtain ⟨x1_70, ex1_70⟩ : ∃ y : Int32, y = x1 + (1 : Int32) := ⟨_, rfl⟩
    have h := h x1_70 ex1_70
    refine lv_iinc (v := x1_70) (lv' := [(1, .int x1_70), (0, .ref x0)]) hx hb dX4_init_70 hl (k := 1) rfl (by rw [ex1_70]; rfl) (by decide) rfl (fun ls hl => ?_)
    refine lv_goto (tgt := 51) hx hb dX4_init_73 (by decide) ?_
    exact hk_51 x0 x1_70 ((cn + 1) + 0) ((sl + 5) + 0) u_69 _ _ _ h (lv_sub hl [1, 0] rfl) hP
theorem l_X4_init_51 {G : Gx} {Q : Mm → Prop} {n0 : Nat} {p : Program} {l : Launch} {e : Env} {s : State} {m : MethodId} {args : Array Value} {below : List Frame} {meth : Method} {c : Code} (hB : bsG G) (C : Cx (cut G n0) p s m c cX4_init RX4 2) (hr : meth.sig.returnType = none) (hlk : meth.locks = false) (hn0 : s.heap.size = gz G + n0) (hnm : meth.name = "<init>") : ∀ (n : Nat) (x0 : Nat) (x1 : Int32) (cn sl : Nat) (u : Mm) (H : Heap) (locs : List Loc) (ls : Array Slot), V_X4_init_51 G Q n0 n x0 x1 cn sl u → lv_has ls 2 [(0, .ref x0), (1, .int x1)] → Hp (cut G (n0 + cn)) u s H locs → W p l e rm_X4_init s m args below meth c H locs cn sl (MQ below (EvC G (n0 + 23) Q) args s 23 108 (ag G)) (F0 m 51 ls []) := by
  intro n
  induction n with
  | zero => intro x0 x1 cn sl u H locs ls h; exact h.elim
  | succ n ih => intro x0 x1 cn sl u H locs ls h hl hP; exact b_X4_init_51 hB C hr hlk hn0 hnm ih h hl hP
set_option maxHeartbeats 4000000 in
set_option maxRecDepth 100000 in
theorem b_X4_init_15 {G : Gx} {Q : Mm → Prop} {n0 : Nat} {p : Program} {l : Launch} {e : Env} {s : State} {m : MethodId} {args : Array Value} {below : List Frame} {meth : Method} {c : Code} (hB : bsG G) (C : Cx (cut G n0) p s m c cX4_init RX4 2) (hr : meth.sig.returnType = none) (hlk : meth.locks = false) (hn0 : s.heap.size = gz G + n0) (hnm : meth.name = "<init>") {k_15 : Nat → Int32 → Nat → Nat → Mm → Prop} (hk_15 : ∀ (x0 : Nat) (x1 : Int32) (cn sl : Nat) (u : Mm) (H : Heap) (locs : List Loc) (ls : Array Slot), k_15 x0 x1 cn sl u → lv_has ls 2 [(0, .ref x0), (1, .int x1)] → Hp (cut G (n0 + cn)) u s H locs → W p l e rm_X4_init s m args below meth c H locs cn sl (MQ below (EvC G (n0 + 23) Q) args s 23 108 (ag G)) (F0 m 15 ls [])) {x0 : Nat} {x1 : Int32} {cn sl : Nat} {u : Mm} {H : Heap} {locs : List Loc} {ls : Array Slot} (h : V_X4_init_15_B G Q n0 k_15 x0 x1 cn sl u) (hl : lv_has ls 2 [(0, .ref x0), (1, .int x1)]) (hP : Hp (cut G (n0 + cn)) u s H locs) : W p l e rm_X4_init s m args below meth c H locs cn sl (MQ below (EvC G (n0 + 23) Q) args s 23 108 (ag G)) (F0 m 15 ls []) := by
  have hx := C.1
  have hb := C.2.1
  unfold V_X4_init_15_B at h
  refine lv_iload_n hx hb dX4_init_15 rfl (lv_at hl 1 rfl) ?_
  refine lv_bipush (v := (6 : Int32)) hx hb dX4_init_16 (by decide) ?_
  refine lv_icmp_ge (tgt := 40) hx hb dX4_init_18 (by decide) (fun c18 => ?_) (fun c18 => ?_)
  · have h := h.1 c18
    refine lv_aload_n hx hb dX4_init_40 rfl (lv_at hl 0 rfl) ?_
    refine lv_bipush (v := (6 : Int32)) hx hb dX4_init_41 (by decide) ?_
    obtain ⟨g1, h⟩ := h
    obtain ⟨g2, h⟩ := h
    obtain ⟨g3, h⟩ := h
    obtain ⟨g4, h⟩ := h
    obtain ⟨g5, h⟩ := h
    refine q_size hB hP hn0 (fun hz => ?_)
    refine q_newr (C.cut hB _) hP hz (cl_X4_18 C.hA) (ao_object_ClapValley_Barn C.hA) rfl (by decide) (by decide) (by decide) g1 g2 g3 (by decide) g4 g5 dX4_init_43 (fun H hP => ?_)
    have hP : Hp (cut G (n0 + (cn + 1))) u s H _ := hP
    obtain ⟨g6, h⟩ := h
    obtain ⟨g7, h⟩ := h
    refine q_putFR (C.cut hB _) hP hnm (k := 1) tyX4_ok nmX4 (lay_X4 C.hA) rfl (by decide) rfl rfl rfl rfl rfl g6 g7 (fl_X4_20 C.hA) dX4_init_46 (fun H locs hP => ?_)
    obtain ⟨u_46, eu_46, hP⟩ := Hp.nm hP
    have h := h u_46 eu_46
    refine lv_iconst (v := (0 : Int32)) hx hb dX4_init_49 (by decide) ?_
    refine lv_istore_n (lv' := [(1, .int (0 : Int32)), (0, .ref x0)]) hx hb dX4_init_50 rfl hl (by decide) rfl (fun ls hl => ?_)
    obtain ⟨n, h⟩ := h
    exact l_X4_init_51 hB C hr hlk hn0 hnm n x0 (0 : Int32) (cn + 1) (sl + 6) u_46 _ _ _ h (lv_sub hl [1, 0] rfl) hP
  · have h := h.2 c18
    refine lv_aload_n hx hb dX4_init_21 rfl (lv_at hl 0 rfl) ?_
    obtain ⟨g8, h⟩ := h
    obtain ⟨g9, h⟩ := h
    refine q_getR (C.cut hB _) hP (k := 0) (lay_X4 C.hA) rfl (by decide) g8 g9 (fl_X4_11 C.hA) dX4_init_22 ?_
    refine lv_iload_n hx hb dX4_init_25 rfl (lv_at hl 1 rfl) ?_
    obtain ⟨g10, h⟩ := h
    obtain ⟨g11, h⟩ := h
    obtain ⟨g12, h⟩ := h
    obtain ⟨g13, h⟩ := h
    refine q_size hB hP hn0 (fun hz => ?_)
    refine q_new hB (C.cut hB _) hP hz tyX9_ok (lay_X9 C.hA) rfl (by decide) df_X9 (cl_X4_9 C.hA) (inst_X9 C.hA) (ini_X9 C.hA) g10 g11 g12 g13 dX4_init_26 (fun H hP => ?_)
    have hP : Hp (cut G (n0 + (cn + 1))) u s H _ := hP
    refine lv_dup hx hb dX4_init_29 rfl ?_
    obtain ⟨g14, h⟩ := h
    obtain ⟨g15, h⟩ := h
    refine q_size hB hP hn0 (fun hz => ?_)
    refine q_calC (q_runIN (C.cut hB _) hP hz (c_X9_init hB h) (cd_X9_init C.hA) (ini_X9 C.hA) (mn_X4_17 C.hA) (im_X9_init C.hA) rfl hd_X9_init ⟨rfl, rfl⟩ ⟨Nat.le_of_ble_eq_true rfl, Nat.le_of_ble_eq_true rfl⟩ ⟨g14, g15⟩ hl.1 rfl (Nat.le_of_ble_eq_true rfl) dX4_init_30) hP (fun u_30 H locs h hP => ?_)
    obtain ⟨g16, h⟩ := h
    obtain ⟨g17, h⟩ := h
    obtain ⟨g18, h⟩ := h
    refine q_aast (C.cut hB _) hP g16 (by decide) (r := (RX9, TX9, 5)) rfl rfl (by decide) g18 g17 dX4_init_33 (fun H locs hP => ?_)
    obtain ⟨u_33, eu_33, hP⟩ := Hp.nm hP
    have h := h u_33 eu_33
    obtain ⟨x1_34, ex1_34⟩ : ∃ y : Int32, y = x1 + (1 : Int32) := ⟨_, rfl⟩
    have h := h x1_34 ex1_34
    refine lv_iinc (v := x1_34) (lv' := [(1, .int x1_34), (0, .ref x0)]) hx hb dX4_init_34 hl (k := 1) rfl (by rw [ex1_34]; rfl) (by decide) rfl (fun ls hl => ?_)
    refine lv_goto (tgt := 15) hx hb dX4_init_37 (by decide) ?_
    exact hk_15 x0 x1_34 ((cn + 1) + 0) ((sl + 5) + 0) u_33 _ _ _ h (lv_sub hl [1, 0] rfl) hP
theorem l_X4_init_15 {G : Gx} {Q : Mm → Prop} {n0 : Nat} {p : Program} {l : Launch} {e : Env} {s : State} {m : MethodId} {args : Array Value} {below : List Frame} {meth : Method} {c : Code} (hB : bsG G) (C : Cx (cut G n0) p s m c cX4_init RX4 2) (hr : meth.sig.returnType = none) (hlk : meth.locks = false) (hn0 : s.heap.size = gz G + n0) (hnm : meth.name = "<init>") : ∀ (n : Nat) (x0 : Nat) (x1 : Int32) (cn sl : Nat) (u : Mm) (H : Heap) (locs : List Loc) (ls : Array Slot), V_X4_init_15 G Q n0 n x0 x1 cn sl u → lv_has ls 2 [(0, .ref x0), (1, .int x1)] → Hp (cut G (n0 + cn)) u s H locs → W p l e rm_X4_init s m args below meth c H locs cn sl (MQ below (EvC G (n0 + 23) Q) args s 23 108 (ag G)) (F0 m 15 ls []) := by
  intro n
  induction n with
  | zero => intro x0 x1 cn sl u H locs ls h; exact h.elim
  | succ n ih => intro x0 x1 cn sl u H locs ls h hl hP; exact b_X4_init_15 hB C hr hlk hn0 hnm ih h hl hP
set_option maxHeartbeats 4000000 in
set_option maxRecDepth 100000 in
theorem c_X4_init {l : Launch} {G : Gx} {p0 n0 : Nat} {u : Mm} {Q : Mm → Prop} (hB : bsG G) (h : V_X4_init G p0 n0 u Q) : Met l yX4_init [.code yX4_init cX4_init 2 none] rm_X4_init (va_Pc [.ref p0] (WdC G n0 u)) (EvC G (n0 + 23) Q) 23 108 (ag G) := by
  refine q_metC (by decide) (Nat.le_of_ble_eq_true rfl) ?_
  intro p e s m below meth c ls C hr hlk hnm hn0 hl hP
  have hl : lv_has ls 2 [(0, .ref p0)] := hl
  generalize ([.ref p0] : List Value).toArray = args
  have hx := C.1
  have hb := C.2.1
  have hP : Hp (cut G (n0 + 0)) u s s.heap [] := hP
  unfold V_X4_init at h
  refine lv_aload_n hx hb dX4_init_0 rfl (lv_at hl 0 rfl) ?_
  refine W.objInit hx hb C.2.2.1 (ml_X4_3 C.hA) (im_java_lang_Object__init___V C.hA) (cd_java_lang_Object__init___V C.hA) rfl (hl.1.trans C.2.2.2.1.symm) rfl dX4_init_1 (Nat.le_of_ble_eq_true rfl) (Nat.le_of_ble_eq_true rfl) ?_
  refine W.eq (g2 := F0 m 4 ls []) rfl ?_
  refine lv_aload_n hx hb dX4_init_4 rfl (lv_at hl 0 rfl) ?_
  refine lv_bipush (v := (6 : Int32)) hx hb dX4_init_5 (by decide) ?_
  obtain ⟨g1, h⟩ := h
  obtain ⟨g2, h⟩ := h
  obtain ⟨g3, h⟩ := h
  obtain ⟨g4, h⟩ := h
  obtain ⟨g5, h⟩ := h
  refine q_size hB hP hn0 (fun hz => ?_)
  refine q_newr (C.cut hB _) hP hz (cl_X4_9 C.hA) (ao_object_ClapValley_Wall C.hA) rfl (by decide) (by decide) (by decide) g1 g2 g3 (by decide) g4 g5 dX4_init_7 (fun H hP => ?_)
  refine W.cs (cells' := 1) (slots' := 6) rfl rfl ?_
  have hP : Hp (cut G (n0 + 1)) u s H _ := hP
  obtain ⟨g6, h⟩ := h
  obtain ⟨g7, h⟩ := h
  refine q_putFR (C.cut hB _) hP hnm (k := 0) tyX4_ok nmX4 (lay_X4 C.hA) rfl (by decide) rfl rfl rfl rfl rfl g6 g7 (fl_X4_11 C.hA) dX4_init_10 (fun H locs hP => ?_)
  obtain ⟨u_10, eu_10, hP⟩ := Hp.nm hP
  have h := h u_10 eu_10
  refine lv_iconst (v := (0 : Int32)) hx hb dX4_init_13 (by decide) ?_
  refine lv_istore_n (lv' := [(1, .int (0 : Int32)), (0, .ref p0)]) hx hb dX4_init_14 rfl hl (by decide) rfl (fun ls hl => ?_)
  obtain ⟨n, h⟩ := h
  exact l_X4_init_15 hB C hr hlk hn0 hnm n p0 (0 : Int32) 1 6 u_10 _ _ _ h (lv_sub hl [1, 0] rfl) hP
-- X8_init
abbrev rm_X8_init : Room := { frames := 3, cells := 25, slots := 816, locals := 53 }
theorem hd_X8_init : yX8_init.cls ≠ "java/lang/invoke/MethodHandle" ∧ yX8_init.cls ≠ "java/lang/invoke/VarHandle" ∧ (parseMethodDescriptor yX8_init.desc).map (fun d => d.parameters.length) = some 0 := by decide +kernel
set_option maxRecDepth 100000 in
def V_X8_init (G : Gx) (p0 n0 : Nat) (u : Mm) (Q : Mm → Prop) : Prop :=
  kd G (gz G + (n0 + 0)) = 14 ∧ ln G (gz G + (n0 + 0)) = 700 ∧ blk u (gz G + (n0 + 0)) ∧ 0 + 1 ≤ 25 ∧ 0 + 700 ≤ 816 ∧ kd (cut G (n0 + 1)) p0 = 8 ∧ (gz G + (n0 + 0)) ≠ 0 ∧ ∀ u_10 : Mm, u_10 = sR u p0 0 (gz G + (n0 + 0)) → kd G (gz G + (n0 + 1)) = 4 ∧ blk u_10 (gz G + (n0 + 1)) ∧ 1 + 1 ≤ 25 ∧ 700 + 8 ≤ 816 ∧ 2 + 23 ≤ 25 ∧ 708 + 108 ≤ 816 ∧ V_X4_init G (gz G + (n0 + 1)) (n0 + 2) u_10 (fun (u_18 : Mm) => kd (cut G (n0 + 25)) p0 = 8 ∧ (gz G + (n0 + 1)) ≠ 0 ∧ ∀ u_21 : Mm, u_21 = sR u_18 p0 3 (gz G + (n0 + 1)) → ∀ u_26 : Mm, u_26 = sI u_21 p0 11 (-1 : Int32) → 25 = 25 ∧ 816 ≤ 816 ∧ Q u_26)
set_option maxHeartbeats 4000000 in
set_option maxRecDepth 100000 in
theorem c_X8_init {l : Launch} {G : Gx} {p0 n0 : Nat} {u : Mm} {Q : Mm → Prop} (hB : bsG G) (h : V_X8_init G p0 n0 u Q) : Met l yX8_init [.code yX8_init cX8_init 1 none] rm_X8_init (va_Pc [.ref p0] (WdC G n0 u)) (EvC G (n0 + 25) Q) 25 816 (ag G) := by
  refine q_metC (by decide) (Nat.le_of_ble_eq_true rfl) ?_
  intro p e s m below meth c ls C hr hlk hnm hn0 hl hP
  have hl : lv_has ls 1 [(0, .ref p0)] := hl
  generalize ([.ref p0] : List Value).toArray = args
  have hx := C.1
  have hb := C.2.1
  have hP : Hp (cut G (n0 + 0)) u s s.heap [] := hP
  unfold V_X8_init at h
  refine lv_aload_n hx hb dX8_init_0 rfl (lv_at hl 0 rfl) ?_
  refine W.objInit hx hb C.2.2.1 (ml_X8_3 C.hA) (im_java_lang_Object__init___V C.hA) (cd_java_lang_Object__init___V C.hA) rfl (hl.1.trans C.2.2.2.1.symm) rfl dX8_init_1 (Nat.le_of_ble_eq_true rfl) (Nat.le_of_ble_eq_true rfl) ?_
  refine W.eq (g2 := F0 m 4 ls []) rfl ?_
  refine lv_aload_n hx hb dX8_init_4 rfl (lv_at hl 0 rfl) ?_
  refine lv_sipush (v := (700 : Int32)) hx hb dX8_init_5 (by decide) ?_
  obtain ⟨g1, h⟩ := h
  obtain ⟨g2, h⟩ := h
  obtain ⟨g3, h⟩ := h
  obtain ⟨g4, h⟩ := h
  obtain ⟨g5, h⟩ := h
  refine q_size hB hP hn0 (fun hz => ?_)
  refine q_newb (C.cut hB _) hP hz (by decide) (by decide) g1 g2 g3 (by decide) g4 g5 dX8_init_8 (fun H hP => ?_)
  refine W.cs (cells' := 1) (slots' := 700) rfl rfl ?_
  have hP : Hp (cut G (n0 + 1)) u s H _ := hP
  obtain ⟨g6, h⟩ := h
  obtain ⟨g7, h⟩ := h
  refine q_putFR (C.cut hB _) hP hnm (k := 0) tyX8_ok nmX8 (lay_X8 C.hA) rfl (by decide) rfl rfl rfl rfl rfl g6 g7 (fl_X8_9 C.hA) dX8_init_10 (fun H locs hP => ?_)
  obtain ⟨u_10, eu_10, hP⟩ := Hp.nm hP
  have h := h u_10 eu_10
  refine lv_aload_n hx hb dX8_init_13 rfl (lv_at hl 0 rfl) ?_
  obtain ⟨g8, h⟩ := h
  obtain ⟨g9, h⟩ := h
  obtain ⟨g10, h⟩ := h
  obtain ⟨g11, h⟩ := h
  refine q_size hB hP hn0 (fun hz => ?_)
  refine q_new hB (C.cut hB _) hP hz tyX4_ok (lay_X4 C.hA) rfl (by decide) df_X4 (cl_X8_15 C.hA) (inst_X4 C.hA) (ini_X4 C.hA) g8 g9 g10 g11 dX8_init_14 (fun H hP => ?_)
  refine W.cs (cells' := 2) (slots' := 708) rfl rfl ?_
  have hP : Hp (cut G (n0 + 2)) u_10 s H _ := hP
  refine lv_dup hx hb dX8_init_17 rfl ?_
  obtain ⟨g12, h⟩ := h
  obtain ⟨g13, h⟩ := h
  refine q_size hB hP hn0 (fun hz => ?_)
  refine q_calC (q_runIN (C.cut hB _) hP hz (c_X4_init hB h) (cd_X4_init C.hA) (ini_X4 C.hA) (mn_X8_17 C.hA) (im_X4_init C.hA) rfl hd_X4_init ⟨rfl, rfl⟩ ⟨Nat.le_of_ble_eq_true rfl, Nat.le_of_ble_eq_true rfl⟩ ⟨g12, g13⟩ hl.1 rfl (Nat.le_of_ble_eq_true rfl) dX8_init_18) hP (fun u_18 H locs h hP => ?_)
  refine W.cs (cells' := 25) (slots' := 816) rfl rfl ?_
  obtain ⟨g14, h⟩ := h
  obtain ⟨g15, h⟩ := h
  refine q_putR (C.cut hB _) hP (k := 3) tyX8_ok nmX8 (lay_X8 C.hA) rfl (by decide) rfl rfl rfl rfl g14 g15 (fl_X8_18 C.hA) dX8_init_21 (fun H locs hP => ?_)
  obtain ⟨u_21, eu_21, hP⟩ := Hp.nm hP
  have h := h u_21 eu_21
  refine lv_aload_n hx hb dX8_init_24 rfl (lv_at hl 0 rfl) ?_
  refine lv_iconst (v := (-1 : Int32)) hx hb dX8_init_25 (by decide) ?_
  refine q_putI (C.cut hB _) hP (k := 11) tyX8_ok nmX8 (lay_X8 C.hA) rfl (by decide) rfl rfl rfl rfl g14 (fl_X8_22 C.hA) dX8_init_26 (fun H locs hP => ?_)
  obtain ⟨u_26, eu_26, hP⟩ := Hp.nm hP
  have h := h u_26 eu_26
  obtain ⟨g16, h⟩ := h
  obtain ⟨g17, h⟩ := h
  have hP := Hp.cte g16 hP
  exact q_vretC (C.cut hB _) hr hlk hP h (Nat.le_of_eq g16) g17 dX8_init_29
-- X7_init
abbrev rm_X7_init : Room := { frames := 1, cells := 2, slots := 24, locals := 12 }
theorem hd_X7_init : yX7_init.cls ≠ "java/lang/invoke/MethodHandle" ∧ yX7_init.cls ≠ "java/lang/invoke/VarHandle" ∧ (parseMethodDescriptor yX7_init.desc).map (fun d => d.parameters.length) = some 0 := by decide +kernel
set_option maxRecDepth 100000 in
def V_X7_init (G : Gx) (p0 n0 : Nat) (u : Mm) (Q : Mm → Prop) : Prop :=
  kd G (gz G + (n0 + 0)) = 13 ∧ ln G (gz G + (n0 + 0)) = 12 ∧ blk u (gz G + (n0 + 0)) ∧ 0 + 1 ≤ 2 ∧ 0 + 12 ≤ 24 ∧ kd (cut G (n0 + 1)) p0 = 7 ∧ (gz G + (n0 + 0)) ≠ 0 ∧ ∀ u_9 : Mm, u_9 = sR u p0 5 (gz G + (n0 + 0)) → kd G (gz G + (n0 + 1)) = 13 ∧ ln G (gz G + (n0 + 1)) = 12 ∧ blk u_9 (gz G + (n0 + 1)) ∧ 1 + 1 ≤ 2 ∧ 12 + 12 ≤ 24 ∧ kd (cut G (n0 + 2)) p0 = 7 ∧ (gz G + (n0 + 1)) ≠ 0 ∧ ∀ u_17 : Mm, u_17 = sR u_9 p0 6 (gz G + (n0 + 1)) → 2 = 2 ∧ 24 ≤ 24 ∧ Q u_17
set_option maxHeartbeats 4000000 in
set_option maxRecDepth 100000 in
theorem c_X7_init {l : Launch} {G : Gx} {p0 n0 : Nat} {u : Mm} {Q : Mm → Prop} (hB : bsG G) (h : V_X7_init G p0 n0 u Q) : Met l yX7_init [.code yX7_init cX7_init 1 none] rm_X7_init (va_Pc [.ref p0] (WdC G n0 u)) (EvC G (n0 + 2) Q) 2 24 (ag G) := by
  refine q_metC (by decide) (Nat.le_of_ble_eq_true rfl) ?_
  intro p e s m below meth c ls C hr hlk hnm hn0 hl hP
  have hl : lv_has ls 1 [(0, .ref p0)] := hl
  generalize ([.ref p0] : List Value).toArray = args
  have hx := C.1
  have hb := C.2.1
  have hP : Hp (cut G (n0 + 0)) u s s.heap [] := hP
  unfold V_X7_init at h
  refine lv_aload_n hx hb dX7_init_0 rfl (lv_at hl 0 rfl) ?_
  refine W.objInit hx hb C.2.2.1 (ml_X7_3 C.hA) (im_java_lang_Object__init___V C.hA) (cd_java_lang_Object__init___V C.hA) rfl (hl.1.trans C.2.2.2.1.symm) rfl dX7_init_1 (Nat.le_of_ble_eq_true rfl) (Nat.le_of_ble_eq_true rfl) ?_
  refine W.eq (g2 := F0 m 4 ls []) rfl ?_
  refine lv_aload_n hx hb dX7_init_4 rfl (lv_at hl 0 rfl) ?_
  refine lv_bipush (v := (12 : Int32)) hx hb dX7_init_5 (by decide) ?_
  obtain ⟨g1, h⟩ := h
  obtain ⟨g2, h⟩ := h
  obtain ⟨g3, h⟩ := h
  obtain ⟨g4, h⟩ := h
  obtain ⟨g5, h⟩ := h
  refine q_size hB hP hn0 (fun hz => ?_)
  refine q_newi (C.cut hB _) hP hz (by decide) (by decide) g1 g2 g3 (by decide) g4 g5 dX7_init_7 (fun H hP => ?_)
  refine W.cs (cells' := 1) (slots' := 12) rfl rfl ?_
  have hP : Hp (cut G (n0 + 1)) u s H _ := hP
  obtain ⟨g6, h⟩ := h
  obtain ⟨g7, h⟩ := h
  refine q_putFR (C.cut hB _) hP hnm (k := 5) tyX7_ok nmX7 (lay_X7 C.hA) rfl (by decide) rfl rfl rfl rfl rfl g6 g7 (fl_X7_9 C.hA) dX7_init_9 (fun H locs hP => ?_)
  obtain ⟨u_9, eu_9, hP⟩ := Hp.nm hP
  have h := h u_9 eu_9
  refine lv_aload_n hx hb dX7_init_12 rfl (lv_at hl 0 rfl) ?_
  refine lv_bipush (v := (12 : Int32)) hx hb dX7_init_13 (by decide) ?_
  obtain ⟨g8, h⟩ := h
  obtain ⟨g9, h⟩ := h
  obtain ⟨g10, h⟩ := h
  obtain ⟨g11, h⟩ := h
  obtain ⟨g12, h⟩ := h
  refine q_size hB hP hn0 (fun hz => ?_)
  refine q_newi (C.cut hB _) hP hz (by decide) (by decide) g8 g9 g10 (by decide) g11 g12 dX7_init_15 (fun H hP => ?_)
  refine W.cs (cells' := 2) (slots' := 24) rfl rfl ?_
  have hP : Hp (cut G (n0 + 2)) u_9 s H _ := hP
  obtain ⟨g13, h⟩ := h
  obtain ⟨g14, h⟩ := h
  refine q_putFR (C.cut hB _) hP hnm (k := 6) tyX7_ok nmX7 (lay_X7 C.hA) rfl (by decide) rfl rfl rfl rfl rfl g13 g14 (fl_X7_15 C.hA) dX7_init_17 (fun H locs hP => ?_)
  obtain ⟨u_17, eu_17, hP⟩ := Hp.nm hP
  have h := h u_17 eu_17
  obtain ⟨g15, h⟩ := h
  obtain ⟨g16, h⟩ := h
  have hP := Hp.cte g15 hP
  exact q_vretC (C.cut hB _) hr hlk hP h (Nat.le_of_eq g15) g16 dX7_init_20
-- X1_init
abbrev rm_X1_init : Room := { frames := 2, cells := 65, slots := 680, locals := 32 }
theorem hd_X1_init : yX1_init.cls ≠ "java/lang/invoke/MethodHandle" ∧ yX1_init.cls ≠ "java/lang/invoke/VarHandle" ∧ (parseMethodDescriptor yX1_init.desc).map (fun d => d.parameters.length) = some 0 := by decide +kernel
def V_X1_init_47_B (G : Gx) (Q : Mm → Prop) (n0 : Nat) (k_47 : Nat → Int32 → Nat → Nat → Mm → Prop) (x0 : Nat) (x1 : Int32) (cn sl : Nat) (u : Mm) : Prop :=
  (((20 : Int32) ≤ x1 → cn = 65 ∧ sl ≤ 680 ∧ Q u) ∧ (¬ (20 : Int32) ≤ x1 → kd (cut G (n0 + cn)) x0 = 1 ∧ (gR u x0 0) ≠ 0 ∧ kd G (gz G + (n0 + cn)) = 7 ∧ blk u (gz G + (n0 + cn)) ∧ cn + 1 ≤ 65 ∧ sl + 7 ≤ 680 ∧ (cn + 1) + 2 ≤ 65 ∧ (sl + 7) + 24 ≤ 680 ∧ V_X7_init G (gz G + (n0 + cn)) (n0 + (cn + 1)) u (fun (u_62 : Mm) => kd (cut G (n0 + ((cn + 1) + 2))) (gR u x0 0) = 21 ∧ vp_in x1 (ln (cut G (n0 + ((cn + 1) + 2))) (gR u x0 0)) ∧ kd (cut G (n0 + ((cn + 1) + 2))) (gz G + (n0 + cn)) = 7 ∧ ∀ u_65 : Mm, u_65 = sR u_62 (gR u x0 0) x1.toNatClampNeg (gz G + (n0 + cn)) → kd (cut G (n0 + ((cn + 1) + 2))) x0 = 1 ∧ (gR u_65 x0 6) ≠ 0 ∧ (gR u_65 x0 0) ≠ 0 ∧ kd (cut G (n0 + ((cn + 1) + 2))) (gR u_65 x0 0) = 21 ∧ vp_in x1 (ln (cut G (n0 + ((cn + 1) + 2))) (gR u_65 x0 0)) ∧ (gR u_65 (gR u_65 x0 0) x1.toNatClampNeg) ≠ 0 ∧ kd (cut G (n0 + ((cn + 1) + 2))) (gR u_65 x0 6) = 21 ∧ vp_in x1 (ln (cut G (n0 + ((cn + 1) + 2))) (gR u_65 x0 6)) ∧ kd (cut G (n0 + ((cn + 1) + 2))) (gR u_65 (gR u_65 x0 0) x1.toNatClampNeg) = 7 ∧ ∀ u_77 : Mm, u_77 = sR u_65 (gR u_65 x0 6) x1.toNatClampNeg (gR u_65 (gR u_65 x0 0) x1.toNatClampNeg) → ∀ x1_78 : Int32, x1_78 = x1 + (1 : Int32) → k_47 x0 x1_78 ((cn + 1) + 2) ((sl + 7) + 24) u_77)))
def V_X1_init_47 (G : Gx) (Q : Mm → Prop) (n0 : Nat) : Nat → (Nat → Int32 → Nat → Nat → Mm → Prop)
  | 0 => fun _ _ _ _ _ => False
  | n + 1 => fun x0 x1 cn sl u => V_X1_init_47_B G Q n0 (V_X1_init_47 G Q n0 n) x0 x1 cn sl u
set_option maxRecDepth 100000 in
def V_X1_init (G : Gx) (p0 n0 : Nat) (u : Mm) (Q : Mm → Prop) : Prop :=
  kd G (gz G + (n0 + 0)) = 13 ∧ ln G (gz G + (n0 + 0)) = 8 ∧ blk u (gz G + (n0 + 0)) ∧ 0 + 1 ≤ 65 ∧ 0 + 8 ≤ 680 ∧ kd (cut G (n0 + 1)) p0 = 1 ∧ (gz G + (n0 + 0)) ≠ 0 ∧ ∀ u_9 : Mm, u_9 = sR u p0 2 (gz G + (n0 + 0)) → kd G (gz G + (n0 + 1)) = 13 ∧ ln G (gz G + (n0 + 1)) = 8 ∧ blk u_9 (gz G + (n0 + 1)) ∧ 1 + 1 ≤ 65 ∧ 8 + 8 ≤ 680 ∧ kd (cut G (n0 + 2)) p0 = 1 ∧ (gz G + (n0 + 1)) ≠ 0 ∧ ∀ u_17 : Mm, u_17 = sR u_9 p0 3 (gz G + (n0 + 1)) → kd G (gz G + (n0 + 2)) = 13 ∧ ln G (gz G + (n0 + 2)) = 4 ∧ blk u_17 (gz G + (n0 + 2)) ∧ 2 + 1 ≤ 65 ∧ 16 + 4 ≤ 680 ∧ kd (cut G (n0 + 3)) p0 = 1 ∧ (gz G + (n0 + 2)) ≠ 0 ∧ ∀ u_24 : Mm, u_24 = sR u_17 p0 5 (gz G + (n0 + 2)) → kd G (gz G + (n0 + 3)) = 21 ∧ ln G (gz G + (n0 + 3)) = 20 ∧ blk u_24 (gz G + (n0 + 3)) ∧ 3 + 1 ≤ 65 ∧ 20 + 20 ≤ 680 ∧ kd (cut G (n0 + 4)) p0 = 1 ∧ (gz G + (n0 + 3)) ≠ 0 ∧ ∀ u_33 : Mm, u_33 = sR u_24 p0 0 (gz G + (n0 + 3)) → kd G (gz G + (n0 + 4)) = 21 ∧ ln G (gz G + (n0 + 4)) = 20 ∧ blk u_33 (gz G + (n0 + 4)) ∧ 4 + 1 ≤ 65 ∧ 40 + 20 ≤ 680 ∧ kd (cut G (n0 + 5)) p0 = 1 ∧ (gz G + (n0 + 4)) ≠ 0 ∧ ∀ u_42 : Mm, u_42 = sR u_33 p0 6 (gz G + (n0 + 4)) → ∃ n : Nat, V_X1_init_47 G Q n0 n p0 (0 : Int32) 5 60 u_42
set_option maxHeartbeats 4000000 in
set_option maxRecDepth 100000 in
theorem b_X1_init_47 {G : Gx} {Q : Mm → Prop} {n0 : Nat} {p : Program} {l : Launch} {e : Env} {s : State} {m : MethodId} {args : Array Value} {below : List Frame} {meth : Method} {c : Code} (hB : bsG G) (C : Cx (cut G n0) p s m c cX1_init RX1 2) (hr : meth.sig.returnType = none) (hlk : meth.locks = false) (hn0 : s.heap.size = gz G + n0) (hnm : meth.name = "<init>") {k_47 : Nat → Int32 → Nat → Nat → Mm → Prop} (hk_47 : ∀ (x0 : Nat) (x1 : Int32) (cn sl : Nat) (u : Mm) (H : Heap) (locs : List Loc) (ls : Array Slot), k_47 x0 x1 cn sl u → lv_has ls 2 [(0, .ref x0), (1, .int x1)] → Hp (cut G (n0 + cn)) u s H locs → W p l e rm_X1_init s m args below meth c H locs cn sl (MQ below (EvC G (n0 + 65) Q) args s 65 680 (ag G)) (F0 m 47 ls [])) {x0 : Nat} {x1 : Int32} {cn sl : Nat} {u : Mm} {H : Heap} {locs : List Loc} {ls : Array Slot} (h : V_X1_init_47_B G Q n0 k_47 x0 x1 cn sl u) (hl : lv_has ls 2 [(0, .ref x0), (1, .int x1)]) (hP : Hp (cut G (n0 + cn)) u s H locs) : W p l e rm_X1_init s m args below meth c H locs cn sl (MQ below (EvC G (n0 + 65) Q) args s 65 680 (ag G)) (F0 m 47 ls []) := by
  have hx := C.1
  have hb := C.2.1
  unfold V_X1_init_47_B at h
  refine lv_iload_n hx hb dX1_init_47 rfl (lv_at hl 1 rfl) ?_
  refine lv_bipush (v := (20 : Int32)) hx hb dX1_init_48 (by decide) ?_
  refine lv_icmp_ge (tgt := 84) hx hb dX1_init_50 (by decide) (fun c50 => ?_) (fun c50 => ?_)
  · have h := h.1 c50
    obtain ⟨g1, h⟩ := h
    obtain ⟨g2, h⟩ := h
    have hP := Hp.cte g1 hP
    exact q_vretC (C.cut hB _) hr hlk hP h (Nat.le_of_eq g1) g2 dX1_init_84
  · have h := h.2 c50
    refine lv_aload_n hx hb dX1_init_53 rfl (lv_at hl 0 rfl) ?_
    obtain ⟨g3, h⟩ := h
    obtain ⟨g4, h⟩ := h
    refine q_getR (C.cut hB _) hP (k := 0) (lay_X1 C.hA) rfl (by decide) g3 g4 (fl_X1_23 C.hA) dX1_init_54 ?_
    refine lv_iload_n hx hb dX1_init_57 rfl (lv_at hl 1 rfl) ?_
    obtain ⟨g5, h⟩ := h
    obtain ⟨g6, h⟩ := h
    obtain ⟨g7, h⟩ := h
    obtain ⟨g8, h⟩ := h
    refine q_size hB hP hn0 (fun hz => ?_)
    refine q_new hB (C.cut hB _) hP hz tyX7_ok (lay_X7 C.hA) rfl (by decide) df_X7 (cl_X1_21 C.hA) (inst_X7 C.hA) (ini_X7 C.hA) g5 g6 g7 g8 dX1_init_58 (fun H hP => ?_)
    have hP : Hp (cut G (n0 + (cn + 1))) u s H _ := hP
    refine lv_dup hx hb dX1_init_61 rfl ?_
    obtain ⟨g9, h⟩ := h
    obtain ⟨g10, h⟩ := h
    refine q_size hB hP hn0 (fun hz => ?_)
    refine q_calC (q_runIN (C.cut hB _) hP hz (c_X7_init hB h) (cd_X7_init C.hA) (ini_X7 C.hA) (mn_X1_30 C.hA) (im_X7_init C.hA) rfl hd_X7_init ⟨rfl, rfl⟩ ⟨Nat.le_of_ble_eq_true rfl, Nat.le_of_ble_eq_true rfl⟩ ⟨g9, g10⟩ hl.1 rfl (Nat.le_of_ble_eq_true rfl) dX1_init_62) hP (fun u_62 H locs h hP => ?_)
    obtain ⟨g11, h⟩ := h
    obtain ⟨g12, h⟩ := h
    obtain ⟨g13, h⟩ := h
    refine q_aast (C.cut hB _) hP g11 (by decide) (r := (RX7, TX7, 7)) rfl rfl (by decide) g13 g12 dX1_init_65 (fun H locs hP => ?_)
    obtain ⟨u_65, eu_65, hP⟩ := Hp.nm hP
    have h := h u_65 eu_65
    refine lv_aload_n hx hb dX1_init_66 rfl (lv_at hl 0 rfl) ?_
    obtain ⟨g14, h⟩ := h
    obtain ⟨g15, h⟩ := h
    refine q_getR (C.cut hB _) hP (k := 6) (lay_X1 C.hA) rfl (by decide) g14 g15 (fl_X1_27 C.hA) dX1_init_67 ?_
    refine lv_iload_n hx hb dX1_init_70 rfl (lv_at hl 1 rfl) ?_
    refine lv_aload_n hx hb dX1_init_71 rfl (lv_at hl 0 rfl) ?_
    obtain ⟨g16, h⟩ := h
    refine q_getR (C.cut hB _) hP (k := 0) (lay_X1 C.hA) rfl (by decide) g14 g16 (fl_X1_23 C.hA) dX1_init_72 ?_
    refine lv_iload_n hx hb dX1_init_75 rfl (lv_at hl 1 rfl) ?_
    obtain ⟨g17, h⟩ := h
    obtain ⟨g18, h⟩ := h
    obtain ⟨g19, h⟩ := h
    refine q_aald (C.cut hB _) hP g17 (by decide) rfl g18 g19 dX1_init_76 ?_
    obtain ⟨g20, h⟩ := h
    obtain ⟨g21, h⟩ := h
    obtain ⟨g22, h⟩ := h
    refine q_aast (C.cut hB _) hP g20 (by decide) (r := (RX7, TX7, 7)) rfl rfl (by decide) g22 g21 dX1_init_77 (fun H locs hP => ?_)
    obtain ⟨u_77, eu_77, hP⟩ := Hp.nm hP
    have h := h u_77 eu_77
    obtain ⟨x1_78, ex1_78⟩ : ∃ y : Int32, y = x1 + (1 : Int32) := ⟨_, rfl⟩
    have h := h x1_78 ex1_78
    refine lv_iinc (v := x1_78) (lv' := [(1, .int x1_78), (0, .ref x0)]) hx hb dX1_init_78 hl (k := 1) rfl (by rw [ex1_78]; rfl) (by decide) rfl (fun ls hl => ?_)
    refine lv_goto (tgt := 47) hx hb dX1_init_81 (by decide) ?_
    exact hk_47 x0 x1_78 ((cn + 1) + 2) ((sl + 7) + 24) u_77 _ _ _ h (lv_sub hl [1, 0] rfl) hP
theorem l_X1_init_47 {G : Gx} {Q : Mm → Prop} {n0 : Nat} {p : Program} {l : Launch} {e : Env} {s : State} {m : MethodId} {args : Array Value} {below : List Frame} {meth : Method} {c : Code} (hB : bsG G) (C : Cx (cut G n0) p s m c cX1_init RX1 2) (hr : meth.sig.returnType = none) (hlk : meth.locks = false) (hn0 : s.heap.size = gz G + n0) (hnm : meth.name = "<init>") : ∀ (n : Nat) (x0 : Nat) (x1 : Int32) (cn sl : Nat) (u : Mm) (H : Heap) (locs : List Loc) (ls : Array Slot), V_X1_init_47 G Q n0 n x0 x1 cn sl u → lv_has ls 2 [(0, .ref x0), (1, .int x1)] → Hp (cut G (n0 + cn)) u s H locs → W p l e rm_X1_init s m args below meth c H locs cn sl (MQ below (EvC G (n0 + 65) Q) args s 65 680 (ag G)) (F0 m 47 ls []) := by
  intro n
  induction n with
  | zero => intro x0 x1 cn sl u H locs ls h; exact h.elim
  | succ n ih => intro x0 x1 cn sl u H locs ls h hl hP; exact b_X1_init_47 hB C hr hlk hn0 hnm ih h hl hP
set_option maxHeartbeats 4000000 in
set_option maxRecDepth 100000 in
theorem c_X1_init {l : Launch} {G : Gx} {p0 n0 : Nat} {u : Mm} {Q : Mm → Prop} (hB : bsG G) (h : V_X1_init G p0 n0 u Q) : Met l yX1_init [.code yX1_init cX1_init 2 none] rm_X1_init (va_Pc [.ref p0] (WdC G n0 u)) (EvC G (n0 + 65) Q) 65 680 (ag G) := by
  refine q_metC (by decide) (Nat.le_of_ble_eq_true rfl) ?_
  intro p e s m below meth c ls C hr hlk hnm hn0 hl hP
  have hl : lv_has ls 2 [(0, .ref p0)] := hl
  generalize ([.ref p0] : List Value).toArray = args
  have hx := C.1
  have hb := C.2.1
  have hP : Hp (cut G (n0 + 0)) u s s.heap [] := hP
  unfold V_X1_init at h
  refine lv_aload_n hx hb dX1_init_0 rfl (lv_at hl 0 rfl) ?_
  refine W.objInit hx hb C.2.2.1 (ml_X1_3 C.hA) (im_java_lang_Object__init___V C.hA) (cd_java_lang_Object__init___V C.hA) rfl (hl.1.trans C.2.2.2.1.symm) rfl dX1_init_1 (Nat.le_of_ble_eq_true rfl) (Nat.le_of_ble_eq_true rfl) ?_
  refine W.eq (g2 := F0 m 4 ls []) rfl ?_
  refine lv_aload_n hx hb dX1_init_4 rfl (lv_at hl 0 rfl) ?_
  refine lv_bipush (v := (8 : Int32)) hx hb dX1_init_5 (by decide) ?_
  obtain ⟨g1, h⟩ := h
  obtain ⟨g2, h⟩ := h
  obtain ⟨g3, h⟩ := h
  obtain ⟨g4, h⟩ := h
  obtain ⟨g5, h⟩ := h
  refine q_size hB hP hn0 (fun hz => ?_)
  refine q_newi (C.cut hB _) hP hz (by decide) (by decide) g1 g2 g3 (by decide) g4 g5 dX1_init_7 (fun H hP => ?_)
  refine W.cs (cells' := 1) (slots' := 8) rfl rfl ?_
  have hP : Hp (cut G (n0 + 1)) u s H _ := hP
  obtain ⟨g6, h⟩ := h
  obtain ⟨g7, h⟩ := h
  refine q_putFR (C.cut hB _) hP hnm (k := 2) tyX1_ok nmX1 (lay_X1 C.hA) rfl (by decide) rfl rfl rfl rfl rfl g6 g7 (fl_X1_9 C.hA) dX1_init_9 (fun H locs hP => ?_)
  obtain ⟨u_9, eu_9, hP⟩ := Hp.nm hP
  have h := h u_9 eu_9
  refine lv_aload_n hx hb dX1_init_12 rfl (lv_at hl 0 rfl) ?_
  refine lv_bipush (v := (8 : Int32)) hx hb dX1_init_13 (by decide) ?_
  obtain ⟨g8, h⟩ := h
  obtain ⟨g9, h⟩ := h
  obtain ⟨g10, h⟩ := h
  obtain ⟨g11, h⟩ := h
  obtain ⟨g12, h⟩ := h
  refine q_size hB hP hn0 (fun hz => ?_)
  refine q_newi (C.cut hB _) hP hz (by decide) (by decide) g8 g9 g10 (by decide) g11 g12 dX1_init_15 (fun H hP => ?_)
  refine W.cs (cells' := 2) (slots' := 16) rfl rfl ?_
  have hP : Hp (cut G (n0 + 2)) u_9 s H _ := hP
  obtain ⟨g13, h⟩ := h
  obtain ⟨g14, h⟩ := h
  refine q_putFR (C.cut hB _) hP hnm (k := 3) tyX1_ok nmX1 (lay_X1 C.hA) rfl (by decide) rfl rfl rfl rfl rfl g13 g14 (fl_X1_15 C.hA) dX1_init_17 (fun H locs hP => ?_)
  obtain ⟨u_17, eu_17, hP⟩ := Hp.nm hP
  have h := h u_17 eu_17
  refine lv_aload_n hx hb dX1_init_20 rfl (lv_at hl 0 rfl) ?_
  refine lv_iconst (v := (4 : Int32)) hx hb dX1_init_21 (by decide) ?_
  obtain ⟨g15, h⟩ := h
  obtain ⟨g16, h⟩ := h
  obtain ⟨g17, h⟩ := h
  obtain ⟨g18, h⟩ := h
  obtain ⟨g19, h⟩ := h
  refine q_size hB hP hn0 (fun hz => ?_)
  refine q_newi (C.cut hB _) hP hz (by decide) (by decide) g15 g16 g17 (by decide) g18 g19 dX1_init_22 (fun H hP => ?_)
  refine W.cs (cells' := 3) (slots' := 20) rfl rfl ?_
  have hP : Hp (cut G (n0 + 3)) u_17 s H _ := hP
  obtain ⟨g20, h⟩ := h
  obtain ⟨g21, h⟩ := h
  refine q_putFR (C.cut hB _) hP hnm (k := 5) tyX1_ok nmX1 (lay_X1 C.hA) rfl (by decide) rfl rfl rfl rfl rfl g20 g21 (fl_X1_18 C.hA) dX1_init_24 (fun H locs hP => ?_)
  obtain ⟨u_24, eu_24, hP⟩ := Hp.nm hP
  have h := h u_24 eu_24
  refine lv_aload_n hx hb dX1_init_27 rfl (lv_at hl 0 rfl) ?_
  refine lv_bipush (v := (20 : Int32)) hx hb dX1_init_28 (by decide) ?_
  obtain ⟨g22, h⟩ := h
  obtain ⟨g23, h⟩ := h
  obtain ⟨g24, h⟩ := h
  obtain ⟨g25, h⟩ := h
  obtain ⟨g26, h⟩ := h
  refine q_size hB hP hn0 (fun hz => ?_)
  refine q_newr (C.cut hB _) hP hz (cl_X1_21 C.hA) (ao_object_ClapValley_Station C.hA) rfl (by decide) (by decide) (by decide) g22 g23 g24 (by decide) g25 g26 dX1_init_30 (fun H hP => ?_)
  refine W.cs (cells' := 4) (slots' := 40) rfl rfl ?_
  have hP : Hp (cut G (n0 + 4)) u_24 s H _ := hP
  obtain ⟨g27, h⟩ := h
  obtain ⟨g28, h⟩ := h
  refine q_putFR (C.cut hB _) hP hnm (k := 0) tyX1_ok nmX1 (lay_X1 C.hA) rfl (by decide) rfl rfl rfl rfl rfl g27 g28 (fl_X1_23 C.hA) dX1_init_33 (fun H locs hP => ?_)
  obtain ⟨u_33, eu_33, hP⟩ := Hp.nm hP
  have h := h u_33 eu_33
  refine lv_aload_n hx hb dX1_init_36 rfl (lv_at hl 0 rfl) ?_
  refine lv_bipush (v := (20 : Int32)) hx hb dX1_init_37 (by decide) ?_
  obtain ⟨g29, h⟩ := h
  obtain ⟨g30, h⟩ := h
  obtain ⟨g31, h⟩ := h
  obtain ⟨g32, h⟩ := h
  obtain ⟨g33, h⟩ := h
  refine q_size hB hP hn0 (fun hz => ?_)
  refine q_newr (C.cut hB _) hP hz (cl_X1_21 C.hA) (ao_object_ClapValley_Station C.hA) rfl (by decide) (by decide) (by decide) g29 g30 g31 (by decide) g32 g33 dX1_init_39 (fun H hP => ?_)
  refine W.cs (cells' := 5) (slots' := 60) rfl rfl ?_
  have hP : Hp (cut G (n0 + 5)) u_33 s H _ := hP
  obtain ⟨g34, h⟩ := h
  obtain ⟨g35, h⟩ := h
  refine q_putFR (C.cut hB _) hP hnm (k := 6) tyX1_ok nmX1 (lay_X1 C.hA) rfl (by decide) rfl rfl rfl rfl rfl g34 g35 (fl_X1_27 C.hA) dX1_init_42 (fun H locs hP => ?_)
  obtain ⟨u_42, eu_42, hP⟩ := Hp.nm hP
  have h := h u_42 eu_42
  refine lv_iconst (v := (0 : Int32)) hx hb dX1_init_45 (by decide) ?_
  refine lv_istore_n (lv' := [(1, .int (0 : Int32)), (0, .ref p0)]) hx hb dX1_init_46 rfl hl (by decide) rfl (fun ls hl => ?_)
  obtain ⟨n, h⟩ := h
  exact l_X1_init_47 hB C hr hlk hn0 hnm n p0 (0 : Int32) 5 60 u_42 _ _ _ h (lv_sub hl [1, 0] rfl) hP
-- X6_init
abbrev rm_X6_init : Room := { frames := 1, cells := 6, slots := 36, locals := 12 }
theorem hd_X6_init : yX6_init.cls ≠ "java/lang/invoke/MethodHandle" ∧ yX6_init.cls ≠ "java/lang/invoke/VarHandle" ∧ (parseMethodDescriptor yX6_init.desc).map (fun d => d.parameters.length) = some 0 := by decide +kernel
set_option maxRecDepth 100000 in
def V_X6_init (G : Gx) (p0 n0 : Nat) (u : Mm) (Q : Mm → Prop) : Prop :=
  kd G (gz G + (n0 + 0)) = 13 ∧ ln G (gz G + (n0 + 0)) = 6 ∧ blk u (gz G + (n0 + 0)) ∧ 0 + 1 ≤ 6 ∧ 0 + 6 ≤ 36 ∧ kd (cut G (n0 + 1)) p0 = 6 ∧ (gz G + (n0 + 0)) ≠ 0 ∧ ∀ u_9 : Mm, u_9 = sR u p0 3 (gz G + (n0 + 0)) → kd G (gz G + (n0 + 1)) = 13 ∧ ln G (gz G + (n0 + 1)) = 6 ∧ blk u_9 (gz G + (n0 + 1)) ∧ 1 + 1 ≤ 6 ∧ 6 + 6 ≤ 36 ∧ kd (cut G (n0 + 2)) p0 = 6 ∧ (gz G + (n0 + 1)) ≠ 0 ∧ ∀ u_17 : Mm, u_17 = sR u_9 p0 4 (gz G + (n0 + 1)) → kd G (gz G + (n0 + 2)) = 13 ∧ ln G (gz G + (n0 + 2)) = 6 ∧ blk u_17 (gz G + (n0 + 2)) ∧ 2 + 1 ≤ 6 ∧ 12 + 6 ≤ 36 ∧ kd (cut G (n0 + 3)) p0 = 6 ∧ (gz G + (n0 + 2)) ≠ 0 ∧ ∀ u_25 : Mm, u_25 = sR u_17 p0 5 (gz G + (n0 + 2)) → kd G (gz G + (n0 + 3)) = 13 ∧ ln G (gz G + (n0 + 3)) = 6 ∧ blk u_25 (gz G + (n0 + 3)) ∧ 3 + 1 ≤ 6 ∧ 18 + 6 ≤ 36 ∧ kd (cut G (n0 + 4)) p0 = 6 ∧ (gz G + (n0 + 3)) ≠ 0 ∧ ∀ u_33 : Mm, u_33 = sR u_25 p0 6 (gz G + (n0 + 3)) → kd G (gz G + (n0 + 4)) = 13 ∧ ln G (gz G + (n0 + 4)) = 6 ∧ blk u_33 (gz G + (n0 + 4)) ∧ 4 + 1 ≤ 6 ∧ 24 + 6 ≤ 36 ∧ kd (cut G (n0 + 5)) p0 = 6 ∧ (gz G + (n0 + 4)) ≠ 0 ∧ ∀ u_41 : Mm, u_41 = sR u_33 p0 7 (gz G + (n0 + 4)) → kd G (gz G + (n0 + 5)) = 13 ∧ ln G (gz G + (n0 + 5)) = 6 ∧ blk u_41 (gz G + (n0 + 5)) ∧ 5 + 1 ≤ 6 ∧ 30 + 6 ≤ 36 ∧ kd (cut G (n0 + 6)) p0 = 6 ∧ (gz G + (n0 + 5)) ≠ 0 ∧ ∀ u_49 : Mm, u_49 = sR u_41 p0 8 (gz G + (n0 + 5)) → 6 = 6 ∧ 36 ≤ 36 ∧ Q u_49
set_option maxHeartbeats 4000000 in
set_option maxRecDepth 100000 in
theorem c_X6_init {l : Launch} {G : Gx} {p0 n0 : Nat} {u : Mm} {Q : Mm → Prop} (hB : bsG G) (h : V_X6_init G p0 n0 u Q) : Met l yX6_init [.code yX6_init cX6_init 1 none] rm_X6_init (va_Pc [.ref p0] (WdC G n0 u)) (EvC G (n0 + 6) Q) 6 36 (ag G) := by
  refine q_metC (by decide) (Nat.le_of_ble_eq_true rfl) ?_
  intro p e s m below meth c ls C hr hlk hnm hn0 hl hP
  have hl : lv_has ls 1 [(0, .ref p0)] := hl
  generalize ([.ref p0] : List Value).toArray = args
  have hx := C.1
  have hb := C.2.1
  have hP : Hp (cut G (n0 + 0)) u s s.heap [] := hP
  unfold V_X6_init at h
  refine lv_aload_n hx hb dX6_init_0 rfl (lv_at hl 0 rfl) ?_
  refine W.objInit hx hb C.2.2.1 (ml_X6_3 C.hA) (im_java_lang_Object__init___V C.hA) (cd_java_lang_Object__init___V C.hA) rfl (hl.1.trans C.2.2.2.1.symm) rfl dX6_init_1 (Nat.le_of_ble_eq_true rfl) (Nat.le_of_ble_eq_true rfl) ?_
  refine W.eq (g2 := F0 m 4 ls []) rfl ?_
  refine lv_aload_n hx hb dX6_init_4 rfl (lv_at hl 0 rfl) ?_
  refine lv_bipush (v := (6 : Int32)) hx hb dX6_init_5 (by decide) ?_
  obtain ⟨g1, h⟩ := h
  obtain ⟨g2, h⟩ := h
  obtain ⟨g3, h⟩ := h
  obtain ⟨g4, h⟩ := h
  obtain ⟨g5, h⟩ := h
  refine q_size hB hP hn0 (fun hz => ?_)
  refine q_newi (C.cut hB _) hP hz (by decide) (by decide) g1 g2 g3 (by decide) g4 g5 dX6_init_7 (fun H hP => ?_)
  refine W.cs (cells' := 1) (slots' := 6) rfl rfl ?_
  have hP : Hp (cut G (n0 + 1)) u s H _ := hP
  obtain ⟨g6, h⟩ := h
  obtain ⟨g7, h⟩ := h
  refine q_putFR (C.cut hB _) hP hnm (k := 3) tyX6_ok nmX6 (lay_X6 C.hA) rfl (by decide) rfl rfl rfl rfl rfl g6 g7 (fl_X6_9 C.hA) dX6_init_9 (fun H locs hP => ?_)
  obtain ⟨u_9, eu_9, hP⟩ := Hp.nm hP
  have h := h u_9 eu_9
  refine lv_aload_n hx hb dX6_init_12 rfl (lv_at hl 0 rfl) ?_
  refine lv_bipush (v := (6 : Int32)) hx hb dX6_init_13 (by decide) ?_
  obtain ⟨g8, h⟩ := h
  obtain ⟨g9, h⟩ := h
  obtain ⟨g10, h⟩ := h
  obtain ⟨g11, h⟩ := h
  obtain ⟨g12, h⟩ := h
  refine q_size hB hP hn0 (fun hz => ?_)
  refine q_newi (C.cut hB _) hP hz (by decide) (by decide) g8 g9 g10 (by decide) g11 g12 dX6_init_15 (fun H hP => ?_)
  refine W.cs (cells' := 2) (slots' := 12) rfl rfl ?_
  have hP : Hp (cut G (n0 + 2)) u_9 s H _ := hP
  obtain ⟨g13, h⟩ := h
  obtain ⟨g14, h⟩ := h
  refine q_putFR (C.cut hB _) hP hnm (k := 4) tyX6_ok nmX6 (lay_X6 C.hA) rfl (by decide) rfl rfl rfl rfl rfl g13 g14 (fl_X6_15 C.hA) dX6_init_17 (fun H locs hP => ?_)
  obtain ⟨u_17, eu_17, hP⟩ := Hp.nm hP
  have h := h u_17 eu_17
  refine lv_aload_n hx hb dX6_init_20 rfl (lv_at hl 0 rfl) ?_
  refine lv_bipush (v := (6 : Int32)) hx hb dX6_init_21 (by decide) ?_
  obtain ⟨g15, h⟩ := h
  obtain ⟨g16, h⟩ := h
  obtain ⟨g17, h⟩ := h
  obtain ⟨g18, h⟩ := h
  obtain ⟨g19, h⟩ := h
  refine q_size hB hP hn0 (fun hz => ?_)
  refine q_newi (C.cut hB _) hP hz (by decide) (by decide) g15 g16 g17 (by decide) g18 g19 dX6_init_23 (fun H hP => ?_)
  refine W.cs (cells' := 3) (slots' := 18) rfl rfl ?_
  have hP : Hp (cut G (n0 + 3)) u_17 s H _ := hP
  obtain ⟨g20, h⟩ := h
  obtain ⟨g21, h⟩ := h
  refine q_putFR (C.cut hB _) hP hnm (k := 5) tyX6_ok nmX6 (lay_X6 C.hA) rfl (by decide) rfl rfl rfl rfl rfl g20 g21 (fl_X6_18 C.hA) dX6_init_25 (fun H locs hP => ?_)
  obtain ⟨u_25, eu_25, hP⟩ := Hp.nm hP
  have h := h u_25 eu_25
  refine lv_aload_n hx hb dX6_init_28 rfl (lv_at hl 0 rfl) ?_
  refine lv_bipush (v := (6 : Int32)) hx hb dX6_init_29 (by decide) ?_
  obtain ⟨g22, h⟩ := h
  obtain ⟨g23, h⟩ := h
  obtain ⟨g24, h⟩ := h
  obtain ⟨g25, h⟩ := h
  obtain ⟨g26, h⟩ := h
  refine q_size hB hP hn0 (fun hz => ?_)
  refine q_newi (C.cut hB _) hP hz (by decide) (by decide) g22 g23 g24 (by decide) g25 g26 dX6_init_31 (fun H hP => ?_)
  refine W.cs (cells' := 4) (slots' := 24) rfl rfl ?_
  have hP : Hp (cut G (n0 + 4)) u_25 s H _ := hP
  obtain ⟨g27, h⟩ := h
  obtain ⟨g28, h⟩ := h
  refine q_putFR (C.cut hB _) hP hnm (k := 6) tyX6_ok nmX6 (lay_X6 C.hA) rfl (by decide) rfl rfl rfl rfl rfl g27 g28 (fl_X6_21 C.hA) dX6_init_33 (fun H locs hP => ?_)
  obtain ⟨u_33, eu_33, hP⟩ := Hp.nm hP
  have h := h u_33 eu_33
  refine lv_aload_n hx hb dX6_init_36 rfl (lv_at hl 0 rfl) ?_
  refine lv_bipush (v := (6 : Int32)) hx hb dX6_init_37 (by decide) ?_
  obtain ⟨g29, h⟩ := h
  obtain ⟨g30, h⟩ := h
  obtain ⟨g31, h⟩ := h
  obtain ⟨g32, h⟩ := h
  obtain ⟨g33, h⟩ := h
  refine q_size hB hP hn0 (fun hz => ?_)
  refine q_newi (C.cut hB _) hP hz (by decide) (by decide) g29 g30 g31 (by decide) g32 g33 dX6_init_39 (fun H hP => ?_)
  refine W.cs (cells' := 5) (slots' := 30) rfl rfl ?_
  have hP : Hp (cut G (n0 + 5)) u_33 s H _ := hP
  obtain ⟨g34, h⟩ := h
  obtain ⟨g35, h⟩ := h
  refine q_putFR (C.cut hB _) hP hnm (k := 7) tyX6_ok nmX6 (lay_X6 C.hA) rfl (by decide) rfl rfl rfl rfl rfl g34 g35 (fl_X6_24 C.hA) dX6_init_41 (fun H locs hP => ?_)
  obtain ⟨u_41, eu_41, hP⟩ := Hp.nm hP
  have h := h u_41 eu_41
  refine lv_aload_n hx hb dX6_init_44 rfl (lv_at hl 0 rfl) ?_
  refine lv_bipush (v := (6 : Int32)) hx hb dX6_init_45 (by decide) ?_
  obtain ⟨g36, h⟩ := h
  obtain ⟨g37, h⟩ := h
  obtain ⟨g38, h⟩ := h
  obtain ⟨g39, h⟩ := h
  obtain ⟨g40, h⟩ := h
  refine q_size hB hP hn0 (fun hz => ?_)
  refine q_newi (C.cut hB _) hP hz (by decide) (by decide) g36 g37 g38 (by decide) g39 g40 dX6_init_47 (fun H hP => ?_)
  refine W.cs (cells' := 6) (slots' := 36) rfl rfl ?_
  have hP : Hp (cut G (n0 + 6)) u_41 s H _ := hP
  obtain ⟨g41, h⟩ := h
  obtain ⟨g42, h⟩ := h
  refine q_putFR (C.cut hB _) hP hnm (k := 8) tyX6_ok nmX6 (lay_X6 C.hA) rfl (by decide) rfl rfl rfl rfl rfl g41 g42 (fl_X6_27 C.hA) dX6_init_49 (fun H locs hP => ?_)
  obtain ⟨u_49, eu_49, hP⟩ := Hp.nm hP
  have h := h u_49 eu_49
  obtain ⟨g43, h⟩ := h
  obtain ⟨g44, h⟩ := h
  have hP := Hp.cte g43 hP
  exact q_vretC (C.cut hB _) hr hlk hP h (Nat.le_of_eq g43) g44 dX6_init_52
-- X3_init
abbrev rm_X3_init : Room := { frames := 1, cells := 5, slots := 68, locals := 12 }
theorem hd_X3_init : yX3_init.cls ≠ "java/lang/invoke/MethodHandle" ∧ yX3_init.cls ≠ "java/lang/invoke/VarHandle" ∧ (parseMethodDescriptor yX3_init.desc).map (fun d => d.parameters.length) = some 0 := by decide +kernel
set_option maxRecDepth 100000 in
def V_X3_init (G : Gx) (p0 n0 : Nat) (u : Mm) (Q : Mm → Prop) : Prop :=
  kd G (gz G + (n0 + 0)) = 13 ∧ ln G (gz G + (n0 + 0)) = 16 ∧ blk u (gz G + (n0 + 0)) ∧ 0 + 1 ≤ 5 ∧ 0 + 16 ≤ 68 ∧ kd (cut G (n0 + 1)) p0 = 3 ∧ (gz G + (n0 + 0)) ≠ 0 ∧ ∀ u_9 : Mm, u_9 = sR u p0 1 (gz G + (n0 + 0)) → kd G (gz G + (n0 + 1)) = 13 ∧ ln G (gz G + (n0 + 1)) = 16 ∧ blk u_9 (gz G + (n0 + 1)) ∧ 1 + 1 ≤ 5 ∧ 16 + 16 ≤ 68 ∧ kd (cut G (n0 + 2)) p0 = 3 ∧ (gz G + (n0 + 1)) ≠ 0 ∧ ∀ u_17 : Mm, u_17 = sR u_9 p0 2 (gz G + (n0 + 1)) → kd G (gz G + (n0 + 2)) = 13 ∧ ln G (gz G + (n0 + 2)) = 16 ∧ blk u_17 (gz G + (n0 + 2)) ∧ 2 + 1 ≤ 5 ∧ 32 + 16 ≤ 68 ∧ kd (cut G (n0 + 3)) p0 = 3 ∧ (gz G + (n0 + 2)) ≠ 0 ∧ ∀ u_25 : Mm, u_25 = sR u_17 p0 3 (gz G + (n0 + 2)) → kd G (gz G + (n0 + 3)) = 13 ∧ ln G (gz G + (n0 + 3)) = 4 ∧ blk u_25 (gz G + (n0 + 3)) ∧ 3 + 1 ≤ 5 ∧ 48 + 4 ≤ 68 ∧ kd (cut G (n0 + 4)) p0 = 3 ∧ (gz G + (n0 + 3)) ≠ 0 ∧ ∀ u_32 : Mm, u_32 = sR u_25 p0 4 (gz G + (n0 + 3)) → kd G (gz G + (n0 + 4)) = 13 ∧ ln G (gz G + (n0 + 4)) = 16 ∧ blk u_32 (gz G + (n0 + 4)) ∧ 4 + 1 ≤ 5 ∧ 52 + 16 ≤ 68 ∧ kd (cut G (n0 + 5)) p0 = 3 ∧ (gz G + (n0 + 4)) ≠ 0 ∧ ∀ u_40 : Mm, u_40 = sR u_32 p0 6 (gz G + (n0 + 4)) → 5 = 5 ∧ 68 ≤ 68 ∧ Q u_40
set_option maxHeartbeats 4000000 in
set_option maxRecDepth 100000 in
theorem c_X3_init {l : Launch} {G : Gx} {p0 n0 : Nat} {u : Mm} {Q : Mm → Prop} (hB : bsG G) (h : V_X3_init G p0 n0 u Q) : Met l yX3_init [.code yX3_init cX3_init 1 none] rm_X3_init (va_Pc [.ref p0] (WdC G n0 u)) (EvC G (n0 + 5) Q) 5 68 (ag G) := by
  refine q_metC (by decide) (Nat.le_of_ble_eq_true rfl) ?_
  intro p e s m below meth c ls C hr hlk hnm hn0 hl hP
  have hl : lv_has ls 1 [(0, .ref p0)] := hl
  generalize ([.ref p0] : List Value).toArray = args
  have hx := C.1
  have hb := C.2.1
  have hP : Hp (cut G (n0 + 0)) u s s.heap [] := hP
  unfold V_X3_init at h
  refine lv_aload_n hx hb dX3_init_0 rfl (lv_at hl 0 rfl) ?_
  refine W.objInit hx hb C.2.2.1 (ml_X3_3 C.hA) (im_java_lang_Object__init___V C.hA) (cd_java_lang_Object__init___V C.hA) rfl (hl.1.trans C.2.2.2.1.symm) rfl dX3_init_1 (Nat.le_of_ble_eq_true rfl) (Nat.le_of_ble_eq_true rfl) ?_
  refine W.eq (g2 := F0 m 4 ls []) rfl ?_
  refine lv_aload_n hx hb dX3_init_4 rfl (lv_at hl 0 rfl) ?_
  refine lv_bipush (v := (16 : Int32)) hx hb dX3_init_5 (by decide) ?_
  obtain ⟨g1, h⟩ := h
  obtain ⟨g2, h⟩ := h
  obtain ⟨g3, h⟩ := h
  obtain ⟨g4, h⟩ := h
  obtain ⟨g5, h⟩ := h
  refine q_size hB hP hn0 (fun hz => ?_)
  refine q_newi (C.cut hB _) hP hz (by decide) (by decide) g1 g2 g3 (by decide) g4 g5 dX3_init_7 (fun H hP => ?_)
  refine W.cs (cells' := 1) (slots' := 16) rfl rfl ?_
  have hP : Hp (cut G (n0 + 1)) u s H _ := hP
  obtain ⟨g6, h⟩ := h
  obtain ⟨g7, h⟩ := h
  refine q_putFR (C.cut hB _) hP hnm (k := 1) tyX3_ok nmX3 (lay_X3 C.hA) rfl (by decide) rfl rfl rfl rfl rfl g6 g7 (fl_X3_9 C.hA) dX3_init_9 (fun H locs hP => ?_)
  obtain ⟨u_9, eu_9, hP⟩ := Hp.nm hP
  have h := h u_9 eu_9
  refine lv_aload_n hx hb dX3_init_12 rfl (lv_at hl 0 rfl) ?_
  refine lv_bipush (v := (16 : Int32)) hx hb dX3_init_13 (by decide) ?_
  obtain ⟨g8, h⟩ := h
  obtain ⟨g9, h⟩ := h
  obtain ⟨g10, h⟩ := h
  obtain ⟨g11, h⟩ := h
  obtain ⟨g12, h⟩ := h
  refine q_size hB hP hn0 (fun hz => ?_)
  refine q_newi (C.cut hB _) hP hz (by decide) (by decide) g8 g9 g10 (by decide) g11 g12 dX3_init_15 (fun H hP => ?_)
  refine W.cs (cells' := 2) (slots' := 32) rfl rfl ?_
  have hP : Hp (cut G (n0 + 2)) u_9 s H _ := hP
  obtain ⟨g13, h⟩ := h
  obtain ⟨g14, h⟩ := h
  refine q_putFR (C.cut hB _) hP hnm (k := 2) tyX3_ok nmX3 (lay_X3 C.hA) rfl (by decide) rfl rfl rfl rfl rfl g13 g14 (fl_X3_15 C.hA) dX3_init_17 (fun H locs hP => ?_)
  obtain ⟨u_17, eu_17, hP⟩ := Hp.nm hP
  have h := h u_17 eu_17
  refine lv_aload_n hx hb dX3_init_20 rfl (lv_at hl 0 rfl) ?_
  refine lv_bipush (v := (16 : Int32)) hx hb dX3_init_21 (by decide) ?_
  obtain ⟨g15, h⟩ := h
  obtain ⟨g16, h⟩ := h
  obtain ⟨g17, h⟩ := h
  obtain ⟨g18, h⟩ := h
  obtain ⟨g19, h⟩ := h
  refine q_size hB hP hn0 (fun hz => ?_)
  refine q_newi (C.cut hB _) hP hz (by decide) (by decide) g15 g16 g17 (by decide) g18 g19 dX3_init_23 (fun H hP => ?_)
  refine W.cs (cells' := 3) (slots' := 48) rfl rfl ?_
  have hP : Hp (cut G (n0 + 3)) u_17 s H _ := hP
  obtain ⟨g20, h⟩ := h
  obtain ⟨g21, h⟩ := h
  refine q_putFR (C.cut hB _) hP hnm (k := 3) tyX3_ok nmX3 (lay_X3 C.hA) rfl (by decide) rfl rfl rfl rfl rfl g20 g21 (fl_X3_18 C.hA) dX3_init_25 (fun H locs hP => ?_)
  obtain ⟨u_25, eu_25, hP⟩ := Hp.nm hP
  have h := h u_25 eu_25
  refine lv_aload_n hx hb dX3_init_28 rfl (lv_at hl 0 rfl) ?_
  refine lv_iconst (v := (4 : Int32)) hx hb dX3_init_29 (by decide) ?_
  obtain ⟨g22, h⟩ := h
  obtain ⟨g23, h⟩ := h
  obtain ⟨g24, h⟩ := h
  obtain ⟨g25, h⟩ := h
  obtain ⟨g26, h⟩ := h
  refine q_size hB hP hn0 (fun hz => ?_)
  refine q_newi (C.cut hB _) hP hz (by decide) (by decide) g22 g23 g24 (by decide) g25 g26 dX3_init_30 (fun H hP => ?_)
  refine W.cs (cells' := 4) (slots' := 52) rfl rfl ?_
  have hP : Hp (cut G (n0 + 4)) u_25 s H _ := hP
  obtain ⟨g27, h⟩ := h
  obtain ⟨g28, h⟩ := h
  refine q_putFR (C.cut hB _) hP hnm (k := 4) tyX3_ok nmX3 (lay_X3 C.hA) rfl (by decide) rfl rfl rfl rfl rfl g27 g28 (fl_X3_23 C.hA) dX3_init_32 (fun H locs hP => ?_)
  obtain ⟨u_32, eu_32, hP⟩ := Hp.nm hP
  have h := h u_32 eu_32
  refine lv_aload_n hx hb dX3_init_35 rfl (lv_at hl 0 rfl) ?_
  refine lv_bipush (v := (16 : Int32)) hx hb dX3_init_36 (by decide) ?_
  obtain ⟨g29, h⟩ := h
  obtain ⟨g30, h⟩ := h
  obtain ⟨g31, h⟩ := h
  obtain ⟨g32, h⟩ := h
  obtain ⟨g33, h⟩ := h
  refine q_size hB hP hn0 (fun hz => ?_)
  refine q_newi (C.cut hB _) hP hz (by decide) (by decide) g29 g30 g31 (by decide) g32 g33 dX3_init_38 (fun H hP => ?_)
  refine W.cs (cells' := 5) (slots' := 68) rfl rfl ?_
  have hP : Hp (cut G (n0 + 5)) u_32 s H _ := hP
  obtain ⟨g34, h⟩ := h
  obtain ⟨g35, h⟩ := h
  refine q_putFR (C.cut hB _) hP hnm (k := 6) tyX3_ok nmX3 (lay_X3 C.hA) rfl (by decide) rfl rfl rfl rfl rfl g34 g35 (fl_X3_26 C.hA) dX3_init_40 (fun H locs hP => ?_)
  obtain ⟨u_40, eu_40, hP⟩ := Hp.nm hP
  have h := h u_40 eu_40
  obtain ⟨g36, h⟩ := h
  obtain ⟨g37, h⟩ := h
  have hP := Hp.cte g36 hP
  exact q_vretC (C.cut hB _) hr hlk hP h (Nat.le_of_eq g36) g37 dX3_init_43
-- X5_init
abbrev rm_X5_init : Room := { frames := 1, cells := 3, slots := 88, locals := 12 }
theorem hd_X5_init : yX5_init.cls ≠ "java/lang/invoke/MethodHandle" ∧ yX5_init.cls ≠ "java/lang/invoke/VarHandle" ∧ (parseMethodDescriptor yX5_init.desc).map (fun d => d.parameters.length) = some 0 := by decide +kernel
set_option maxRecDepth 100000 in
def V_X5_init (G : Gx) (p0 n0 : Nat) (u : Mm) (Q : Mm → Prop) : Prop :=
  kd G (gz G + (n0 + 0)) = 13 ∧ ln G (gz G + (n0 + 0)) = 82 ∧ blk u (gz G + (n0 + 0)) ∧ 0 + 1 ≤ 3 ∧ 0 + 82 ≤ 88 ∧ kd (cut G (n0 + 1)) p0 = 5 ∧ (gz G + (n0 + 0)) ≠ 0 ∧ ∀ u_9 : Mm, u_9 = sR u p0 1 (gz G + (n0 + 0)) → kd G (gz G + (n0 + 1)) = 13 ∧ ln G (gz G + (n0 + 1)) = 3 ∧ blk u_9 (gz G + (n0 + 1)) ∧ 1 + 1 ≤ 3 ∧ 82 + 3 ≤ 88 ∧ kd (cut G (n0 + 2)) p0 = 5 ∧ (gz G + (n0 + 1)) ≠ 0 ∧ ∀ u_16 : Mm, u_16 = sR u_9 p0 3 (gz G + (n0 + 1)) → kd G (gz G + (n0 + 2)) = 13 ∧ ln G (gz G + (n0 + 2)) = 3 ∧ blk u_16 (gz G + (n0 + 2)) ∧ 2 + 1 ≤ 3 ∧ 85 + 3 ≤ 88 ∧ kd (cut G (n0 + 3)) p0 = 5 ∧ (gz G + (n0 + 2)) ≠ 0 ∧ ∀ u_23 : Mm, u_23 = sR u_16 p0 4 (gz G + (n0 + 2)) → 3 = 3 ∧ 88 ≤ 88 ∧ Q u_23
set_option maxHeartbeats 4000000 in
set_option maxRecDepth 100000 in
theorem c_X5_init {l : Launch} {G : Gx} {p0 n0 : Nat} {u : Mm} {Q : Mm → Prop} (hB : bsG G) (h : V_X5_init G p0 n0 u Q) : Met l yX5_init [.code yX5_init cX5_init 1 none] rm_X5_init (va_Pc [.ref p0] (WdC G n0 u)) (EvC G (n0 + 3) Q) 3 88 (ag G) := by
  refine q_metC (by decide) (Nat.le_of_ble_eq_true rfl) ?_
  intro p e s m below meth c ls C hr hlk hnm hn0 hl hP
  have hl : lv_has ls 1 [(0, .ref p0)] := hl
  generalize ([.ref p0] : List Value).toArray = args
  have hx := C.1
  have hb := C.2.1
  have hP : Hp (cut G (n0 + 0)) u s s.heap [] := hP
  unfold V_X5_init at h
  refine lv_aload_n hx hb dX5_init_0 rfl (lv_at hl 0 rfl) ?_
  refine W.objInit hx hb C.2.2.1 (ml_X5_5 C.hA) (im_java_lang_Object__init___V C.hA) (cd_java_lang_Object__init___V C.hA) rfl (hl.1.trans C.2.2.2.1.symm) rfl dX5_init_1 (Nat.le_of_ble_eq_true rfl) (Nat.le_of_ble_eq_true rfl) ?_
  refine W.eq (g2 := F0 m 4 ls []) rfl ?_
  refine lv_aload_n hx hb dX5_init_4 rfl (lv_at hl 0 rfl) ?_
  refine lv_bipush (v := (82 : Int32)) hx hb dX5_init_5 (by decide) ?_
  obtain ⟨g1, h⟩ := h
  obtain ⟨g2, h⟩ := h
  obtain ⟨g3, h⟩ := h
  obtain ⟨g4, h⟩ := h
  obtain ⟨g5, h⟩ := h
  refine q_size hB hP hn0 (fun hz => ?_)
  refine q_newi (C.cut hB _) hP hz (by decide) (by decide) g1 g2 g3 (by decide) g4 g5 dX5_init_7 (fun H hP => ?_)
  refine W.cs (cells' := 1) (slots' := 82) rfl rfl ?_
  have hP : Hp (cut G (n0 + 1)) u s H _ := hP
  obtain ⟨g6, h⟩ := h
  obtain ⟨g7, h⟩ := h
  refine q_putFR (C.cut hB _) hP hnm (k := 1) tyX5_ok nmX5 (lay_X5 C.hA) rfl (by decide) rfl rfl rfl rfl rfl g6 g7 (fl_X5_11 C.hA) dX5_init_9 (fun H locs hP => ?_)
  obtain ⟨u_9, eu_9, hP⟩ := Hp.nm hP
  have h := h u_9 eu_9
  refine lv_aload_n hx hb dX5_init_12 rfl (lv_at hl 0 rfl) ?_
  refine lv_iconst (v := (3 : Int32)) hx hb dX5_init_13 (by decide) ?_
  obtain ⟨g8, h⟩ := h
  obtain ⟨g9, h⟩ := h
  obtain ⟨g10, h⟩ := h
  obtain ⟨g11, h⟩ := h
  obtain ⟨g12, h⟩ := h
  refine q_size hB hP hn0 (fun hz => ?_)
  refine q_newi (C.cut hB _) hP hz (by decide) (by decide) g8 g9 g10 (by decide) g11 g12 dX5_init_14 (fun H hP => ?_)
  refine W.cs (cells' := 2) (slots' := 85) rfl rfl ?_
  have hP : Hp (cut G (n0 + 2)) u_9 s H _ := hP
  obtain ⟨g13, h⟩ := h
  obtain ⟨g14, h⟩ := h
  refine q_putFR (C.cut hB _) hP hnm (k := 3) tyX5_ok nmX5 (lay_X5 C.hA) rfl (by decide) rfl rfl rfl rfl rfl g13 g14 (fl_X5_15 C.hA) dX5_init_16 (fun H locs hP => ?_)
  obtain ⟨u_16, eu_16, hP⟩ := Hp.nm hP
  have h := h u_16 eu_16
  refine lv_aload_n hx hb dX5_init_19 rfl (lv_at hl 0 rfl) ?_
  refine lv_iconst (v := (3 : Int32)) hx hb dX5_init_20 (by decide) ?_
  obtain ⟨g15, h⟩ := h
  obtain ⟨g16, h⟩ := h
  obtain ⟨g17, h⟩ := h
  obtain ⟨g18, h⟩ := h
  obtain ⟨g19, h⟩ := h
  refine q_size hB hP hn0 (fun hz => ?_)
  refine q_newi (C.cut hB _) hP hz (by decide) (by decide) g15 g16 g17 (by decide) g18 g19 dX5_init_21 (fun H hP => ?_)
  refine W.cs (cells' := 3) (slots' := 88) rfl rfl ?_
  have hP : Hp (cut G (n0 + 3)) u_16 s H _ := hP
  obtain ⟨g20, h⟩ := h
  obtain ⟨g21, h⟩ := h
  refine q_putFR (C.cut hB _) hP hnm (k := 4) tyX5_ok nmX5 (lay_X5 C.hA) rfl (by decide) rfl rfl rfl rfl rfl g20 g21 (fl_X5_18 C.hA) dX5_init_23 (fun H locs hP => ?_)
  obtain ⟨u_23, eu_23, hP⟩ := Hp.nm hP
  have h := h u_23 eu_23
  obtain ⟨g22, h⟩ := h
  obtain ⟨g23, h⟩ := h
  have hP := Hp.cte g22 hP
  exact q_vretC (C.cut hB _) hr hlk hP h (Nat.le_of_eq g22) g23 dX5_init_26
-- X2_init
abbrev rm_X2_init : Room := { frames := 1, cells := 11, slots := 284, locals := 12 }
theorem hd_X2_init : yX2_init.cls ≠ "java/lang/invoke/MethodHandle" ∧ yX2_init.cls ≠ "java/lang/invoke/VarHandle" ∧ (parseMethodDescriptor yX2_init.desc).map (fun d => d.parameters.length) = some 0 := by decide +kernel
set_option maxRecDepth 100000 in
def V_X2_init (G : Gx) (p0 n0 : Nat) (u : Mm) (Q : Mm → Prop) : Prop :=
  kd G (gz G + (n0 + 0)) = 22 ∧ ln G (gz G + (n0 + 0)) = 6 ∧ (∀ i, i < 6 → kd G (gz G + (n0 + 0 + 1 + i)) = 13 ∧ ln G (gz G + (n0 + 0 + 1 + i)) = 16) ∧ (∀ i, i < 7 → blk u (gz G + (n0 + 0 + i))) ∧ 0 + (1 + 6) ≤ 11 ∧ 0 + (6 + 6 * 16) ≤ 284 ∧ ∀ u_9 : Mm, u_9 = mnaU u (gz G + (n0 + 0)) 6 → kd (cut G (n0 + 7)) p0 = 2 ∧ (gz G + (n0 + 0)) ≠ 0 ∧ ∀ u_13 : Mm, u_13 = sR u_9 p0 0 (gz G + (n0 + 0)) → kd G (gz G + (n0 + 7)) = 13 ∧ ln G (gz G + (n0 + 7)) = 6 ∧ blk u_13 (gz G + (n0 + 7)) ∧ 7 + 1 ≤ 11 ∧ 102 + 6 ≤ 284 ∧ kd (cut G (n0 + 8)) p0 = 2 ∧ (gz G + (n0 + 7)) ≠ 0 ∧ ∀ u_21 : Mm, u_21 = sR u_13 p0 1 (gz G + (n0 + 7)) → kd G (gz G + (n0 + 8)) = 13 ∧ ln G (gz G + (n0 + 8)) = 48 ∧ blk u_21 (gz G + (n0 + 8)) ∧ 8 + 1 ≤ 11 ∧ 108 + 48 ≤ 284 ∧ kd (cut G (n0 + 9)) p0 = 2 ∧ (gz G + (n0 + 8)) ≠ 0 ∧ ∀ u_29 : Mm, u_29 = sR u_21 p0 2 (gz G + (n0 + 8)) → kd G (gz G + (n0 + 9)) = 13 ∧ ln G (gz G + (n0 + 9)) = 64 ∧ blk u_29 (gz G + (n0 + 9)) ∧ 9 + 1 ≤ 11 ∧ 156 + 64 ≤ 284 ∧ kd (cut G (n0 + 10)) p0 = 2 ∧ (gz G + (n0 + 9)) ≠ 0 ∧ ∀ u_37 : Mm, u_37 = sR u_29 p0 3 (gz G + (n0 + 9)) → kd G (gz G + (n0 + 10)) = 13 ∧ ln G (gz G + (n0 + 10)) = 64 ∧ blk u_37 (gz G + (n0 + 10)) ∧ 10 + 1 ≤ 11 ∧ 220 + 64 ≤ 284 ∧ kd (cut G (n0 + 11)) p0 = 2 ∧ (gz G + (n0 + 10)) ≠ 0 ∧ ∀ u_45 : Mm, u_45 = sR u_37 p0 4 (gz G + (n0 + 10)) → 11 = 11 ∧ 284 ≤ 284 ∧ Q u_45
set_option maxHeartbeats 4000000 in
set_option maxRecDepth 100000 in
theorem c_X2_init {l : Launch} {G : Gx} {p0 n0 : Nat} {u : Mm} {Q : Mm → Prop} (hB : bsG G) (h : V_X2_init G p0 n0 u Q) : Met l yX2_init [.code yX2_init cX2_init 1 none] rm_X2_init (va_Pc [.ref p0] (WdC G n0 u)) (EvC G (n0 + 11) Q) 11 284 (ag G) := by
  refine q_metC (by decide) (Nat.le_of_ble_eq_true rfl) ?_
  intro p e s m below meth c ls C hr hlk hnm hn0 hl hP
  have hl : lv_has ls 1 [(0, .ref p0)] := hl
  generalize ([.ref p0] : List Value).toArray = args
  have hx := C.1
  have hb := C.2.1
  have hP : Hp (cut G (n0 + 0)) u s s.heap [] := hP
  unfold V_X2_init at h
  refine lv_aload_n hx hb dX2_init_0 rfl (lv_at hl 0 rfl) ?_
  refine W.objInit hx hb C.2.2.1 (ml_X2_3 C.hA) (im_java_lang_Object__init___V C.hA) (cd_java_lang_Object__init___V C.hA) rfl (hl.1.trans C.2.2.2.1.symm) rfl dX2_init_1 (Nat.le_of_ble_eq_true rfl) (Nat.le_of_ble_eq_true rfl) ?_
  refine W.eq (g2 := F0 m 4 ls []) rfl ?_
  refine lv_aload_n hx hb dX2_init_4 rfl (lv_at hl 0 rfl) ?_
  refine lv_bipush (v := (6 : Int32)) hx hb dX2_init_5 (by decide) ?_
  refine lv_bipush (v := (16 : Int32)) hx hb dX2_init_7 (by decide) ?_
  obtain ⟨g1, h⟩ := h
  obtain ⟨g2, h⟩ := h
  obtain ⟨g3, h⟩ := h
  obtain ⟨g4, h⟩ := h
  obtain ⟨g5, h⟩ := h
  obtain ⟨g6, h⟩ := h
  refine q_size hB hP hn0 (fun hz => ?_)
  refine q_mna hB (C.cut hB _) hP hz (cl_X2_9 C.hA) (by decide) (by decide) (by decide) (by decide) g1 g2 g3 g4 (by decide) (by decide) g5 g6 dX2_init_9 (fun H hP => ?_)
  refine W.cs (cells' := 7) (slots' := 102) rfl rfl ?_
  obtain ⟨u_9, eu_9, hP⟩ := Hp.nm hP
  have h := h u_9 eu_9
  have hP : Hp (cut G (n0 + 7)) u_9 s H _ := hP
  obtain ⟨g7, h⟩ := h
  obtain ⟨g8, h⟩ := h
  refine q_putFR (C.cut hB _) hP hnm (k := 0) tyX2_ok nmX2 (lay_X2 C.hA) rfl (by decide) rfl rfl rfl rfl rfl g7 g8 (fl_X2_11 C.hA) dX2_init_13 (fun H locs hP => ?_)
  obtain ⟨u_13, eu_13, hP⟩ := Hp.nm hP
  have h := h u_13 eu_13
  refine lv_aload_n hx hb dX2_init_16 rfl (lv_at hl 0 rfl) ?_
  refine lv_bipush (v := (6 : Int32)) hx hb dX2_init_17 (by decide) ?_
  obtain ⟨g9, h⟩ := h
  obtain ⟨g10, h⟩ := h
  obtain ⟨g11, h⟩ := h
  obtain ⟨g12, h⟩ := h
  obtain ⟨g13, h⟩ := h
  refine q_size hB hP hn0 (fun hz => ?_)
  refine q_newi (C.cut hB _) hP hz (by decide) (by decide) g9 g10 g11 (by decide) g12 g13 dX2_init_19 (fun H hP => ?_)
  refine W.cs (cells' := 8) (slots' := 108) rfl rfl ?_
  have hP : Hp (cut G (n0 + 8)) u_13 s H _ := hP
  obtain ⟨g14, h⟩ := h
  obtain ⟨g15, h⟩ := h
  refine q_putFR (C.cut hB _) hP hnm (k := 1) tyX2_ok nmX2 (lay_X2 C.hA) rfl (by decide) rfl rfl rfl rfl rfl g14 g15 (fl_X2_16 C.hA) dX2_init_21 (fun H locs hP => ?_)
  obtain ⟨u_21, eu_21, hP⟩ := Hp.nm hP
  have h := h u_21 eu_21
  refine lv_aload_n hx hb dX2_init_24 rfl (lv_at hl 0 rfl) ?_
  refine lv_bipush (v := (48 : Int32)) hx hb dX2_init_25 (by decide) ?_
  obtain ⟨g16, h⟩ := h
  obtain ⟨g17, h⟩ := h
  obtain ⟨g18, h⟩ := h
  obtain ⟨g19, h⟩ := h
  obtain ⟨g20, h⟩ := h
  refine q_size hB hP hn0 (fun hz => ?_)
  refine q_newi (C.cut hB _) hP hz (by decide) (by decide) g16 g17 g18 (by decide) g19 g20 dX2_init_27 (fun H hP => ?_)
  refine W.cs (cells' := 9) (slots' := 156) rfl rfl ?_
  have hP : Hp (cut G (n0 + 9)) u_21 s H _ := hP
  obtain ⟨g21, h⟩ := h
  obtain ⟨g22, h⟩ := h
  refine q_putFR (C.cut hB _) hP hnm (k := 2) tyX2_ok nmX2 (lay_X2 C.hA) rfl (by decide) rfl rfl rfl rfl rfl g21 g22 (fl_X2_20 C.hA) dX2_init_29 (fun H locs hP => ?_)
  obtain ⟨u_29, eu_29, hP⟩ := Hp.nm hP
  have h := h u_29 eu_29
  refine lv_aload_n hx hb dX2_init_32 rfl (lv_at hl 0 rfl) ?_
  refine lv_bipush (v := (64 : Int32)) hx hb dX2_init_33 (by decide) ?_
  obtain ⟨g23, h⟩ := h
  obtain ⟨g24, h⟩ := h
  obtain ⟨g25, h⟩ := h
  obtain ⟨g26, h⟩ := h
  obtain ⟨g27, h⟩ := h
  refine q_size hB hP hn0 (fun hz => ?_)
  refine q_newi (C.cut hB _) hP hz (by decide) (by decide) g23 g24 g25 (by decide) g26 g27 dX2_init_35 (fun H hP => ?_)
  refine W.cs (cells' := 10) (slots' := 220) rfl rfl ?_
  have hP : Hp (cut G (n0 + 10)) u_29 s H _ := hP
  obtain ⟨g28, h⟩ := h
  obtain ⟨g29, h⟩ := h
  refine q_putFR (C.cut hB _) hP hnm (k := 3) tyX2_ok nmX2 (lay_X2 C.hA) rfl (by decide) rfl rfl rfl rfl rfl g28 g29 (fl_X2_23 C.hA) dX2_init_37 (fun H locs hP => ?_)
  obtain ⟨u_37, eu_37, hP⟩ := Hp.nm hP
  have h := h u_37 eu_37
  refine lv_aload_n hx hb dX2_init_40 rfl (lv_at hl 0 rfl) ?_
  refine lv_bipush (v := (64 : Int32)) hx hb dX2_init_41 (by decide) ?_
  obtain ⟨g30, h⟩ := h
  obtain ⟨g31, h⟩ := h
  obtain ⟨g32, h⟩ := h
  obtain ⟨g33, h⟩ := h
  obtain ⟨g34, h⟩ := h
  refine q_size hB hP hn0 (fun hz => ?_)
  refine q_newi (C.cut hB _) hP hz (by decide) (by decide) g30 g31 g32 (by decide) g33 g34 dX2_init_43 (fun H hP => ?_)
  refine W.cs (cells' := 11) (slots' := 284) rfl rfl ?_
  have hP : Hp (cut G (n0 + 11)) u_37 s H _ := hP
  obtain ⟨g35, h⟩ := h
  obtain ⟨g36, h⟩ := h
  refine q_putFR (C.cut hB _) hP hnm (k := 4) tyX2_ok nmX2 (lay_X2 C.hA) rfl (by decide) rfl rfl rfl rfl rfl g35 g36 (fl_X2_26 C.hA) dX2_init_45 (fun H locs hP => ?_)
  obtain ⟨u_45, eu_45, hP⟩ := Hp.nm hP
  have h := h u_45 eu_45
  obtain ⟨g37, h⟩ := h
  obtain ⟨g38, h⟩ := h
  have hP := Hp.cte g37 hP
  exact q_vretC (C.cut hB _) hr hlk hP h (Nat.le_of_eq g37) g38 dX2_init_48
-- X11_init
abbrev rm_X11_init : Room := { frames := 4, cells := 475, slots := 4363, locals := 73 }
theorem hd_X11_init : yX11_init.cls ≠ "java/lang/invoke/MethodHandle" ∧ yX11_init.cls ≠ "java/lang/invoke/VarHandle" ∧ (parseMethodDescriptor yX11_init.desc).map (fun d => d.parameters.length) = some 0 := by decide +kernel
def V_X11_init_100_B (G : Gx) (Q : Mm → Prop) (n0 : Nat) (k_100 : Nat → Int32 → Nat → Nat → Mm → Prop) (x0 : Nat) (x1 : Int32) (cn sl : Nat) (u : Mm) : Prop :=
  (((20 : Int32) ≤ x1 → kd G (gz G + (n0 + cn)) = 3 ∧ blk u (gz G + (n0 + cn)) ∧ cn + 1 ≤ 475 ∧ sl + 7 ≤ 4363 ∧ (cn + 1) + 5 ≤ 475 ∧ (sl + 7) + 68 ≤ 4363 ∧ V_X3_init G (gz G + (n0 + cn)) (n0 + (cn + 1)) u (fun (u_130 : Mm) => kd (cut G (n0 + ((cn + 1) + 5))) x0 = 11 ∧ (gz G + (n0 + cn)) ≠ 0 ∧ ∀ u_133 : Mm, u_133 = sR u_130 x0 7 (gz G + (n0 + cn)) → kd G (gz G + (n0 + ((cn + 1) + 5))) = 5 ∧ blk u_133 (gz G + (n0 + ((cn + 1) + 5))) ∧ ((cn + 1) + 5) + 1 ≤ 475 ∧ ((sl + 7) + 68) + 8 ≤ 4363 ∧ (((cn + 1) + 5) + 1) + 3 ≤ 475 ∧ (((sl + 7) + 68) + 8) + 88 ≤ 4363 ∧ V_X5_init G (gz G + (n0 + ((cn + 1) + 5))) (n0 + (((cn + 1) + 5) + 1)) u_133 (fun (u_141 : Mm) => kd (cut G (n0 + ((((cn + 1) + 5) + 1) + 3))) x0 = 11 ∧ (gz G + (n0 + ((cn + 1) + 5))) ≠ 0 ∧ ∀ u_144 : Mm, u_144 = sR u_141 x0 8 (gz G + (n0 + ((cn + 1) + 5))) → kd G (gz G + (n0 + ((((cn + 1) + 5) + 1) + 3))) = 2 ∧ blk u_144 (gz G + (n0 + ((((cn + 1) + 5) + 1) + 3))) ∧ ((((cn + 1) + 5) + 1) + 3) + 1 ≤ 475 ∧ ((((sl + 7) + 68) + 8) + 88) + 5 ≤ 4363 ∧ (((((cn + 1) + 5) + 1) + 3) + 1) + 11 ≤ 475 ∧ (((((sl + 7) + 68) + 8) + 88) + 5) + 284 ≤ 4363 ∧ V_X2_init G (gz G + (n0 + ((((cn + 1) + 5) + 1) + 3))) (n0 + (((((cn + 1) + 5) + 1) + 3) + 1)) u_144 (fun (u_152 : Mm) => kd (cut G (n0 + ((((((cn + 1) + 5) + 1) + 3) + 1) + 11))) x0 = 11 ∧ (gz G + (n0 + ((((cn + 1) + 5) + 1) + 3))) ≠ 0 ∧ ∀ u_155 : Mm, u_155 = sR u_152 x0 9 (gz G + (n0 + ((((cn + 1) + 5) + 1) + 3))) → kd G (gz G + (n0 + ((((((cn + 1) + 5) + 1) + 3) + 1) + 11))) = 13 ∧ ln G (gz G + (n0 + ((((((cn + 1) + 5) + 1) + 3) + 1) + 11))) = 16 ∧ blk u_155 (gz G + (n0 + ((((((cn + 1) + 5) + 1) + 3) + 1) + 11))) ∧ ((((((cn + 1) + 5) + 1) + 3) + 1) + 11) + 1 ≤ 475 ∧ ((((((sl + 7) + 68) + 8) + 88) + 5) + 284) + 16 ≤ 4363 ∧ kd (cut G (n0 + (((((((cn + 1) + 5) + 1) + 3) + 1) + 11) + 1))) x0 = 11 ∧ (gz G + (n0 + ((((((cn + 1) + 5) + 1) + 3) + 1) + 11))) ≠ 0 ∧ ∀ u_163 : Mm, u_163 = sR u_155 x0 10 (gz G + (n0 + ((((((cn + 1) + 5) + 1) + 3) + 1) + 11))) → kd G (gz G + (n0 + (((((((cn + 1) + 5) + 1) + 3) + 1) + 11) + 1))) = 13 ∧ ln G (gz G + (n0 + (((((((cn + 1) + 5) + 1) + 3) + 1) + 11) + 1))) = 16 ∧ blk u_163 (gz G + (n0 + (((((((cn + 1) + 5) + 1) + 3) + 1) + 11) + 1))) ∧ (((((((cn + 1) + 5) + 1) + 3) + 1) + 11) + 1) + 1 ≤ 475 ∧ (((((((sl + 7) + 68) + 8) + 88) + 5) + 284) + 16) + 16 ≤ 4363 ∧ kd (cut G (n0 + ((((((((cn + 1) + 5) + 1) + 3) + 1) + 11) + 1) + 1))) x0 = 11 ∧ (gz G + (n0 + (((((((cn + 1) + 5) + 1) + 3) + 1) + 11) + 1))) ≠ 0 ∧ ∀ u_171 : Mm, u_171 = sR u_163 x0 11 (gz G + (n0 + (((((((cn + 1) + 5) + 1) + 3) + 1) + 11) + 1))) → ((((((((cn + 1) + 5) + 1) + 3) + 1) + 11) + 1) + 1) = 475 ∧ ((((((((sl + 7) + 68) + 8) + 88) + 5) + 284) + 16) + 16) ≤ 4363 ∧ Q u_171)))) ∧ (¬ (20 : Int32) ≤ x1 → kd (cut G (n0 + cn)) x0 = 11 ∧ (gR u x0 6) ≠ 0 ∧ kd G (gz G + (n0 + cn)) = 6 ∧ blk u (gz G + (n0 + cn)) ∧ cn + 1 ≤ 475 ∧ sl + 9 ≤ 4363 ∧ (cn + 1) + 6 ≤ 475 ∧ (sl + 9) + 36 ≤ 4363 ∧ V_X6_init G (gz G + (n0 + cn)) (n0 + (cn + 1)) u (fun (u_115 : Mm) => kd (cut G (n0 + ((cn + 1) + 6))) (gR u x0 6) = 20 ∧ vp_in x1 (ln (cut G (n0 + ((cn + 1) + 6))) (gR u x0 6)) ∧ kd (cut G (n0 + ((cn + 1) + 6))) (gz G + (n0 + cn)) = 6 ∧ ∀ u_118 : Mm, u_118 = sR u_115 (gR u x0 6) x1.toNatClampNeg (gz G + (n0 + cn)) → ∀ x1_119 : Int32, x1_119 = x1 + (1 : Int32) → k_100 x0 x1_119 ((cn + 1) + 6) ((sl + 9) + 36) u_118)))
def V_X11_init_100 (G : Gx) (Q : Mm → Prop) (n0 : Nat) : Nat → (Nat → Int32 → Nat → Nat → Mm → Prop)
  | 0 => fun _ _ _ _ _ => False
  | n + 1 => fun x0 x1 cn sl u => V_X11_init_100_B G Q n0 (V_X11_init_100 G Q n0 n) x0 x1 cn sl u
def V_X11_init_26_B (G : Gx) (Q : Mm → Prop) (n0 : Nat) (k_26 : Nat → Int32 → Nat → Nat → Mm → Prop) (x0 : Nat) (x1 : Int32) (cn sl : Nat) (u : Mm) : Prop :=
  (((6 : Int32) ≤ x1 → kd G (gz G + (n0 + cn)) = 1 ∧ blk u (gz G + (n0 + cn)) ∧ cn + 1 ≤ 475 ∧ sl + 8 ≤ 4363 ∧ (cn + 1) + 65 ≤ 475 ∧ (sl + 8) + 680 ≤ 4363 ∧ V_X1_init G (gz G + (n0 + cn)) (n0 + (cn + 1)) u (fun (u_56 : Mm) => kd (cut G (n0 + ((cn + 1) + 65))) x0 = 11 ∧ (gz G + (n0 + cn)) ≠ 0 ∧ ∀ u_59 : Mm, u_59 = sR u_56 x0 2 (gz G + (n0 + cn)) → kd G (gz G + (n0 + ((cn + 1) + 65))) = 1 ∧ blk u_59 (gz G + (n0 + ((cn + 1) + 65))) ∧ ((cn + 1) + 65) + 1 ≤ 475 ∧ ((sl + 8) + 680) + 8 ≤ 4363 ∧ (((cn + 1) + 65) + 1) + 65 ≤ 475 ∧ (((sl + 8) + 680) + 8) + 680 ≤ 4363 ∧ V_X1_init G (gz G + (n0 + ((cn + 1) + 65))) (n0 + (((cn + 1) + 65) + 1)) u_59 (fun (u_67 : Mm) => kd (cut G (n0 + ((((cn + 1) + 65) + 1) + 65))) x0 = 11 ∧ (gz G + (n0 + ((cn + 1) + 65))) ≠ 0 ∧ ∀ u_70 : Mm, u_70 = sR u_67 x0 3 (gz G + (n0 + ((cn + 1) + 65))) → ∀ u_75 : Mm, u_75 = sI u_70 x0 4 (0 : Int32) → kd G (gz G + (n0 + ((((cn + 1) + 65) + 1) + 65))) = 6 ∧ blk u_75 (gz G + (n0 + ((((cn + 1) + 65) + 1) + 65))) ∧ ((((cn + 1) + 65) + 1) + 65) + 1 ≤ 475 ∧ ((((sl + 8) + 680) + 8) + 680) + 9 ≤ 4363 ∧ (((((cn + 1) + 65) + 1) + 65) + 1) + 6 ≤ 475 ∧ (((((sl + 8) + 680) + 8) + 680) + 9) + 36 ≤ 4363 ∧ V_X6_init G (gz G + (n0 + ((((cn + 1) + 65) + 1) + 65))) (n0 + (((((cn + 1) + 65) + 1) + 65) + 1)) u_75 (fun (u_83 : Mm) => kd (cut G (n0 + ((((((cn + 1) + 65) + 1) + 65) + 1) + 6))) x0 = 11 ∧ (gz G + (n0 + ((((cn + 1) + 65) + 1) + 65))) ≠ 0 ∧ ∀ u_86 : Mm, u_86 = sR u_83 x0 5 (gz G + (n0 + ((((cn + 1) + 65) + 1) + 65))) → kd G (gz G + (n0 + ((((((cn + 1) + 65) + 1) + 65) + 1) + 6))) = 20 ∧ ln G (gz G + (n0 + ((((((cn + 1) + 65) + 1) + 65) + 1) + 6))) = 20 ∧ blk u_86 (gz G + (n0 + ((((((cn + 1) + 65) + 1) + 65) + 1) + 6))) ∧ ((((((cn + 1) + 65) + 1) + 65) + 1) + 6) + 1 ≤ 475 ∧ ((((((sl + 8) + 680) + 8) + 680) + 9) + 36) + 20 ≤ 4363 ∧ kd (cut G (n0 + (((((((cn + 1) + 65) + 1) + 65) + 1) + 6) + 1))) x0 = 11 ∧ (gz G + (n0 + ((((((cn + 1) + 65) + 1) + 65) + 1) + 6))) ≠ 0 ∧ ∀ u_95 : Mm, u_95 = sR u_86 x0 6 (gz G + (n0 + ((((((cn + 1) + 65) + 1) + 65) + 1) + 6))) → ∃ n : Nat, V_X11_init_100 G Q n0 n x0 (0 : Int32) (((((((cn + 1) + 65) + 1) + 65) + 1) + 6) + 1) (((((((sl + 8) + 680) + 8) + 680) + 9) + 36) + 20) u_95)))) ∧ (¬ (6 : Int32) ≤ x1 → kd (cut G (n0 + cn)) x0 = 11 ∧ (gR u x0 1) ≠ 0 ∧ kd G (gz G + (n0 + cn)) = 4 ∧ blk u (gz G + (n0 + cn)) ∧ cn + 1 ≤ 475 ∧ sl + 8 ≤ 4363 ∧ (cn + 1) + 23 ≤ 475 ∧ (sl + 8) + 108 ≤ 4363 ∧ V_X4_init G (gz G + (n0 + cn)) (n0 + (cn + 1)) u (fun (u_41 : Mm) => kd (cut G (n0 + ((cn + 1) + 23))) (gR u x0 1) = 16 ∧ vp_in x1 (ln (cut G (n0 + ((cn + 1) + 23))) (gR u x0 1)) ∧ kd (cut G (n0 + ((cn + 1) + 23))) (gz G + (n0 + cn)) = 4 ∧ ∀ u_44 : Mm, u_44 = sR u_41 (gR u x0 1) x1.toNatClampNeg (gz G + (n0 + cn)) → ∀ x1_45 : Int32, x1_45 = x1 + (1 : Int32) → k_26 x0 x1_45 ((cn + 1) + 23) ((sl + 8) + 108) u_44)))
def V_X11_init_26 (G : Gx) (Q : Mm → Prop) (n0 : Nat) : Nat → (Nat → Int32 → Nat → Nat → Mm → Prop)
  | 0 => fun _ _ _ _ _ => False
  | n + 1 => fun x0 x1 cn sl u => V_X11_init_26_B G Q n0 (V_X11_init_26 G Q n0 n) x0 x1 cn sl u
set_option maxRecDepth 100000 in
def V_X11_init (G : Gx) (p0 n0 : Nat) (u : Mm) (Q : Mm → Prop) : Prop :=
  kd G (gz G + (n0 + 0)) = 8 ∧ blk u (gz G + (n0 + 0)) ∧ 0 + 1 ≤ 475 ∧ 0 + 12 ≤ 4363 ∧ 1 + 25 ≤ 475 ∧ 12 + 816 ≤ 4363 ∧ V_X8_init G (gz G + (n0 + 0)) (n0 + 1) u (fun (u_9 : Mm) => kd (cut G (n0 + 26)) p0 = 11 ∧ (gz G + (n0 + 0)) ≠ 0 ∧ ∀ u_12 : Mm, u_12 = sR u_9 p0 0 (gz G + (n0 + 0)) → kd G (gz G + (n0 + 26)) = 16 ∧ ln G (gz G + (n0 + 26)) = 6 ∧ blk u_12 (gz G + (n0 + 26)) ∧ 26 + 1 ≤ 475 ∧ 828 + 6 ≤ 4363 ∧ kd (cut G (n0 + 27)) p0 = 11 ∧ (gz G + (n0 + 26)) ≠ 0 ∧ ∀ u_21 : Mm, u_21 = sR u_12 p0 1 (gz G + (n0 + 26)) → ∃ n : Nat, V_X11_init_26 G Q n0 n p0 (0 : Int32) 27 834 u_21)
set_option maxHeartbeats 4000000 in
set_option maxRecDepth 100000 in
theorem b_X11_init_100 {G : Gx} {Q : Mm → Prop} {n0 : Nat} {p : Program} {l : Launch} {e : Env} {s : State} {m : MethodId} {args : Array Value} {below : List Frame} {meth : Method} {c : Code} (hB : bsG G) (C : Cx (cut G n0) p s m c cX11_init RX11 2) (hr : meth.sig.returnType = none) (hlk : meth.locks = false) (hn0 : s.heap.size = gz G + n0) (hnm : meth.name = "<init>") {k_100 : Nat → Int32 → Nat → Nat → Mm → Prop} (hk_100 : ∀ (x0 : Nat) (x1 : Int32) (cn sl : Nat) (u : Mm) (H : Heap) (locs : List Loc) (ls : Array Slot), k_100 x0 x1 cn sl u → lv_has ls 2 [(0, .ref x0), (1, .int x1)] → Hp (cut G (n0 + cn)) u s H locs → W p l e rm_X11_init s m args below meth c H locs cn sl (MQ below (EvC G (n0 + 475) Q) args s 475 4363 (ag G)) (F0 m 100 ls [])) {x0 : Nat} {x1 : Int32} {cn sl : Nat} {u : Mm} {H : Heap} {locs : List Loc} {ls : Array Slot} (h : V_X11_init_100_B G Q n0 k_100 x0 x1 cn sl u) (hl : lv_has ls 2 [(0, .ref x0), (1, .int x1)]) (hP : Hp (cut G (n0 + cn)) u s H locs) : W p l e rm_X11_init s m args below meth c H locs cn sl (MQ below (EvC G (n0 + 475) Q) args s 475 4363 (ag G)) (F0 m 100 ls []) := by
  have hx := C.1
  have hb := C.2.1
  unfold V_X11_init_100_B at h
  refine lv_iload_n hx hb dX11_init_100 rfl (lv_at hl 1 rfl) ?_
  refine lv_bipush (v := (20 : Int32)) hx hb dX11_init_101 (by decide) ?_
  refine lv_icmp_ge (tgt := 125) hx hb dX11_init_103 (by decide) (fun c103 => ?_) (fun c103 => ?_)
  · have h := h.1 c103
    refine lv_aload_n hx hb dX11_init_125 rfl (lv_at hl 0 rfl) ?_
    obtain ⟨g1, h⟩ := h
    obtain ⟨g2, h⟩ := h
    obtain ⟨g3, h⟩ := h
    obtain ⟨g4, h⟩ := h
    refine q_size hB hP hn0 (fun hz => ?_)
    refine q_new hB (C.cut hB _) hP hz tyX3_ok (lay_X3 C.hA) rfl (by decide) df_X3 (cl_X11_48 C.hA) (inst_X3 C.hA) (ini_X3 C.hA) g1 g2 g3 g4 dX11_init_126 (fun H hP => ?_)
    have hP : Hp (cut G (n0 + (cn + 1))) u s H _ := hP
    refine lv_dup hx hb dX11_init_129 rfl ?_
    obtain ⟨g5, h⟩ := h
    obtain ⟨g6, h⟩ := h
    refine q_size hB hP hn0 (fun hz => ?_)
    refine q_calC (q_runIN (C.cut hB _) hP hz (c_X3_init hB h) (cd_X3_init C.hA) (ini_X3 C.hA) (mn_X11_50 C.hA) (im_X3_init C.hA) rfl hd_X3_init ⟨rfl, rfl⟩ ⟨Nat.le_of_ble_eq_true rfl, Nat.le_of_ble_eq_true rfl⟩ ⟨g5, g6⟩ hl.1 rfl (Nat.le_of_ble_eq_true rfl) dX11_init_130) hP (fun u_130 H locs h hP => ?_)
    obtain ⟨g7, h⟩ := h
    obtain ⟨g8, h⟩ := h
    refine q_putFR (C.cut hB _) hP hnm (k := 7) tyX11_ok nmX11 (lay_X11 C.hA) rfl (by decide) rfl rfl rfl rfl rfl g7 g8 (fl_X11_51 C.hA) dX11_init_133 (fun H locs hP => ?_)
    obtain ⟨u_133, eu_133, hP⟩ := Hp.nm hP
    have h := h u_133 eu_133
    refine lv_aload_n hx hb dX11_init_136 rfl (lv_at hl 0 rfl) ?_
    obtain ⟨g9, h⟩ := h
    obtain ⟨g10, h⟩ := h
    obtain ⟨g11, h⟩ := h
    obtain ⟨g12, h⟩ := h
    refine q_size hB hP hn0 (fun hz => ?_)
    refine q_new hB (C.cut hB _) hP hz tyX5_ok (lay_X5 C.hA) rfl (by decide) df_X5 (cl_X11_55 C.hA) (inst_X5 C.hA) (ini_X5 C.hA) g9 g10 g11 g12 dX11_init_137 (fun H hP => ?_)
    have hP : Hp (cut G (n0 + (((cn + 1) + 5) + 1))) u_133 s H _ := hP
    refine lv_dup hx hb dX11_init_140 rfl ?_
    obtain ⟨g13, h⟩ := h
    obtain ⟨g14, h⟩ := h
    refine q_size hB hP hn0 (fun hz => ?_)
    refine q_calC (q_runIN (C.cut hB _) hP hz (c_X5_init hB h) (cd_X5_init C.hA) (ini_X5 C.hA) (mn_X11_57 C.hA) (im_X5_init C.hA) rfl hd_X5_init ⟨rfl, rfl⟩ ⟨Nat.le_of_ble_eq_true rfl, Nat.le_of_ble_eq_true rfl⟩ ⟨g13, g14⟩ hl.1 rfl (Nat.le_of_ble_eq_true rfl) dX11_init_141) hP (fun u_141 H locs h hP => ?_)
    obtain ⟨g15, h⟩ := h
    obtain ⟨g16, h⟩ := h
    refine q_putFR (C.cut hB _) hP hnm (k := 8) tyX11_ok nmX11 (lay_X11 C.hA) rfl (by decide) rfl rfl rfl rfl rfl g15 g16 (fl_X11_58 C.hA) dX11_init_144 (fun H locs hP => ?_)
    obtain ⟨u_144, eu_144, hP⟩ := Hp.nm hP
    have h := h u_144 eu_144
    refine lv_aload_n hx hb dX11_init_147 rfl (lv_at hl 0 rfl) ?_
    obtain ⟨g17, h⟩ := h
    obtain ⟨g18, h⟩ := h
    obtain ⟨g19, h⟩ := h
    obtain ⟨g20, h⟩ := h
    refine q_size hB hP hn0 (fun hz => ?_)
    refine q_new hB (C.cut hB _) hP hz tyX2_ok (lay_X2 C.hA) rfl (by decide) df_X2 (cl_X11_62 C.hA) (inst_X2 C.hA) (ini_X2 C.hA) g17 g18 g19 g20 dX11_init_148 (fun H hP => ?_)
    have hP : Hp (cut G (n0 + (((((cn + 1) + 5) + 1) + 3) + 1))) u_144 s H _ := hP
    refine lv_dup hx hb dX11_init_151 rfl ?_
    obtain ⟨g21, h⟩ := h
    obtain ⟨g22, h⟩ := h
    refine q_size hB hP hn0 (fun hz => ?_)
    refine q_calC (q_runIN (C.cut hB _) hP hz (c_X2_init hB h) (cd_X2_init C.hA) (ini_X2 C.hA) (mn_X11_64 C.hA) (im_X2_init C.hA) rfl hd_X2_init ⟨rfl, rfl⟩ ⟨Nat.le_of_ble_eq_true rfl, Nat.le_of_ble_eq_true rfl⟩ ⟨g21, g22⟩ hl.1 rfl (Nat.le_of_ble_eq_true rfl) dX11_init_152) hP (fun u_152 H locs h hP => ?_)
    obtain ⟨g23, h⟩ := h
    obtain ⟨g24, h⟩ := h
    refine q_putFR (C.cut hB _) hP hnm (k := 9) tyX11_ok nmX11 (lay_X11 C.hA) rfl (by decide) rfl rfl rfl rfl rfl g23 g24 (fl_X11_65 C.hA) dX11_init_155 (fun H locs hP => ?_)
    obtain ⟨u_155, eu_155, hP⟩ := Hp.nm hP
    have h := h u_155 eu_155
    refine lv_aload_n hx hb dX11_init_158 rfl (lv_at hl 0 rfl) ?_
    refine lv_bipush (v := (16 : Int32)) hx hb dX11_init_159 (by decide) ?_
    obtain ⟨g25, h⟩ := h
    obtain ⟨g26, h⟩ := h
    obtain ⟨g27, h⟩ := h
    obtain ⟨g28, h⟩ := h
    obtain ⟨g29, h⟩ := h
    refine q_size hB hP hn0 (fun hz => ?_)
    refine q_newi (C.cut hB _) hP hz (by decide) (by decide) g25 g26 g27 (by decide) g28 g29 dX11_init_161 (fun H hP => ?_)
    have hP : Hp (cut G (n0 + (((((((cn + 1) + 5) + 1) + 3) + 1) + 11) + 1))) u_155 s H _ := hP
    obtain ⟨g30, h⟩ := h
    obtain ⟨g31, h⟩ := h
    refine q_putFR (C.cut hB _) hP hnm (k := 10) tyX11_ok nmX11 (lay_X11 C.hA) rfl (by decide) rfl rfl rfl rfl rfl g30 g31 (fl_X11_69 C.hA) dX11_init_163 (fun H locs hP => ?_)
    obtain ⟨u_163, eu_163, hP⟩ := Hp.nm hP
    have h := h u_163 eu_163
    refine lv_aload_n hx hb dX11_init_166 rfl (lv_at hl 0 rfl) ?_
    refine lv_bipush (v := (16 : Int32)) hx hb dX11_init_167 (by decide) ?_
    obtain ⟨g32, h⟩ := h
    obtain ⟨g33, h⟩ := h
    obtain ⟨g34, h⟩ := h
    obtain ⟨g35, h⟩ := h
    obtain ⟨g36, h⟩ := h
    refine q_size hB hP hn0 (fun hz => ?_)
    refine q_newi (C.cut hB _) hP hz (by decide) (by decide) g32 g33 g34 (by decide) g35 g36 dX11_init_169 (fun H hP => ?_)
    have hP : Hp (cut G (n0 + ((((((((cn + 1) + 5) + 1) + 3) + 1) + 11) + 1) + 1))) u_163 s H _ := hP
    obtain ⟨g37, h⟩ := h
    obtain ⟨g38, h⟩ := h
    refine q_putFR (C.cut hB _) hP hnm (k := 11) tyX11_ok nmX11 (lay_X11 C.hA) rfl (by decide) rfl rfl rfl rfl rfl g37 g38 (fl_X11_73 C.hA) dX11_init_171 (fun H locs hP => ?_)
    obtain ⟨u_171, eu_171, hP⟩ := Hp.nm hP
    have h := h u_171 eu_171
    obtain ⟨g39, h⟩ := h
    obtain ⟨g40, h⟩ := h
    have hP := Hp.cte g39 hP
    exact q_vretC (C.cut hB _) hr hlk hP h (Nat.le_of_eq g39) g40 dX11_init_174
  · have h := h.2 c103
    refine lv_aload_n hx hb dX11_init_106 rfl (lv_at hl 0 rfl) ?_
    obtain ⟨g41, h⟩ := h
    obtain ⟨g42, h⟩ := h
    refine q_getR (C.cut hB _) hP (k := 6) (lay_X11 C.hA) rfl (by decide) g41 g42 (fl_X11_44 C.hA) dX11_init_107 ?_
    refine lv_iload_n hx hb dX11_init_110 rfl (lv_at hl 1 rfl) ?_
    obtain ⟨g43, h⟩ := h
    obtain ⟨g44, h⟩ := h
    obtain ⟨g45, h⟩ := h
    obtain ⟨g46, h⟩ := h
    refine q_size hB hP hn0 (fun hz => ?_)
    refine q_new hB (C.cut hB _) hP hz tyX6_ok (lay_X6 C.hA) rfl (by decide) df_X6 (cl_X11_37 C.hA) (inst_X6 C.hA) (ini_X6 C.hA) g43 g44 g45 g46 dX11_init_111 (fun H hP => ?_)
    have hP : Hp (cut G (n0 + (cn + 1))) u s H _ := hP
    refine lv_dup hx hb dX11_init_114 rfl ?_
    obtain ⟨g47, h⟩ := h
    obtain ⟨g48, h⟩ := h
    refine q_size hB hP hn0 (fun hz => ?_)
    refine q_calC (q_runIN (C.cut hB _) hP hz (c_X6_init hB h) (cd_X6_init C.hA) (ini_X6 C.hA) (mn_X11_39 C.hA) (im_X6_init C.hA) rfl hd_X6_init ⟨rfl, rfl⟩ ⟨Nat.le_of_ble_eq_true rfl, Nat.le_of_ble_eq_true rfl⟩ ⟨g47, g48⟩ hl.1 rfl (Nat.le_of_ble_eq_true rfl) dX11_init_115) hP (fun u_115 H locs h hP => ?_)
    obtain ⟨g49, h⟩ := h
    obtain ⟨g50, h⟩ := h
    obtain ⟨g51, h⟩ := h
    refine q_aast (C.cut hB _) hP g49 (by decide) (r := (RX6, TX6, 9)) rfl rfl (by decide) g51 g50 dX11_init_118 (fun H locs hP => ?_)
    obtain ⟨u_118, eu_118, hP⟩ := Hp.nm hP
    have h := h u_118 eu_118
    obtain ⟨x1_119, ex1_119⟩ : ∃ y : Int32, y = x1 + (1 : Int32) := ⟨_, rfl⟩
    have h := h x1_119 ex1_119
    refine lv_iinc (v := x1_119) (lv' := [(1, .int x1_119), (0, .ref x0)]) hx hb dX11_init_119 hl (k := 1) rfl (by rw [ex1_119]; rfl) (by decide) rfl (fun ls hl => ?_)
    refine lv_goto (tgt := 100) hx hb dX11_init_122 (by decide) ?_
    exact hk_100 x0 x1_119 ((cn + 1) + 6) ((sl + 9) + 36) u_118 _ _ _ h (lv_sub hl [1, 0] rfl) hP
theorem l_X11_init_100 {G : Gx} {Q : Mm → Prop} {n0 : Nat} {p : Program} {l : Launch} {e : Env} {s : State} {m : MethodId} {args : Array Value} {below : List Frame} {meth : Method} {c : Code} (hB : bsG G) (C : Cx (cut G n0) p s m c cX11_init RX11 2) (hr : meth.sig.returnType = none) (hlk : meth.locks = false) (hn0 : s.heap.size = gz G + n0) (hnm : meth.name = "<init>") : ∀ (n : Nat) (x0 : Nat) (x1 : Int32) (cn sl : Nat) (u : Mm) (H : Heap) (locs : List Loc) (ls : Array Slot), V_X11_init_100 G Q n0 n x0 x1 cn sl u → lv_has ls 2 [(0, .ref x0), (1, .int x1)] → Hp (cut G (n0 + cn)) u s H locs → W p l e rm_X11_init s m args below meth c H locs cn sl (MQ below (EvC G (n0 + 475) Q) args s 475 4363 (ag G)) (F0 m 100 ls []) := by
  intro n
  induction n with
  | zero => intro x0 x1 cn sl u H locs ls h; exact h.elim
  | succ n ih => intro x0 x1 cn sl u H locs ls h hl hP; exact b_X11_init_100 hB C hr hlk hn0 hnm ih h hl hP
set_option maxHeartbeats 4000000 in
set_option maxRecDepth 100000 in
theorem b_X11_init_26 {G : Gx} {Q : Mm → Prop} {n0 : Nat} {p : Program} {l : Launch} {e : Env} {s : State} {m : MethodId} {args : Array Value} {below : List Frame} {meth : Method} {c : Code} (hB : bsG G) (C : Cx (cut G n0) p s m c cX11_init RX11 2) (hr : meth.sig.returnType = none) (hlk : meth.locks = false) (hn0 : s.heap.size = gz G + n0) (hnm : meth.name = "<init>") {k_26 : Nat → Int32 → Nat → Nat → Mm → Prop} (hk_26 : ∀ (x0 : Nat) (x1 : Int32) (cn sl : Nat) (u : Mm) (H : Heap) (locs : List Loc) (ls : Array Slot), k_26 x0 x1 cn sl u → lv_has ls 2 [(0, .ref x0), (1, .int x1)] → Hp (cut G (n0 + cn)) u s H locs → W p l e rm_X11_init s m args below meth c H locs cn sl (MQ below (EvC G (n0 + 475) Q) args s 475 4363 (ag G)) (F0 m 26 ls [])) {x0 : Nat} {x1 : Int32} {cn sl : Nat} {u : Mm} {H : Heap} {locs : List Loc} {ls : Array Slot} (h : V_X11_init_26_B G Q n0 k_26 x0 x1 cn sl u) (hl : lv_has ls 2 [(0, .ref x0), (1, .int x1)]) (hP : Hp (cut G (n0 + cn)) u s H locs) : W p l e rm_X11_init s m args below meth c H locs cn sl (MQ below (EvC G (n0 + 475) Q) args s 475 4363 (ag G)) (F0 m 26 ls []) := by
  have hx := C.1
  have hb := C.2.1
  unfold V_X11_init_26_B at h
  refine lv_iload_n hx hb dX11_init_26 rfl (lv_at hl 1 rfl) ?_
  refine lv_bipush (v := (6 : Int32)) hx hb dX11_init_27 (by decide) ?_
  refine lv_icmp_ge (tgt := 51) hx hb dX11_init_29 (by decide) (fun c29 => ?_) (fun c29 => ?_)
  · have h := h.1 c29
    refine lv_aload_n hx hb dX11_init_51 rfl (lv_at hl 0 rfl) ?_
    obtain ⟨g1, h⟩ := h
    obtain ⟨g2, h⟩ := h
    obtain ⟨g3, h⟩ := h
    obtain ⟨g4, h⟩ := h
    refine q_size hB hP hn0 (fun hz => ?_)
    refine q_new hB (C.cut hB _) hP hz tyX1_ok (lay_X1 C.hA) rfl (by decide) df_X1 (cl_X11_23 C.hA) (inst_X1 C.hA) (ini_X1 C.hA) g1 g2 g3 g4 dX11_init_52 (fun H hP => ?_)
    have hP : Hp (cut G (n0 + (cn + 1))) u s H _ := hP
    refine lv_dup hx hb dX11_init_55 rfl ?_
    obtain ⟨g5, h⟩ := h
    obtain ⟨g6, h⟩ := h
    refine q_size hB hP hn0 (fun hz => ?_)
    refine q_calC (q_runIN (C.cut hB _) hP hz (c_X1_init hB h) (cd_X1_init C.hA) (ini_X1 C.hA) (mn_X11_25 C.hA) (im_X1_init C.hA) rfl hd_X1_init ⟨rfl, rfl⟩ ⟨Nat.le_of_ble_eq_true rfl, Nat.le_of_ble_eq_true rfl⟩ ⟨g5, g6⟩ hl.1 rfl (Nat.le_of_ble_eq_true rfl) dX11_init_56) hP (fun u_56 H locs h hP => ?_)
    obtain ⟨g7, h⟩ := h
    obtain ⟨g8, h⟩ := h
    refine q_putFR (C.cut hB _) hP hnm (k := 2) tyX11_ok nmX11 (lay_X11 C.hA) rfl (by decide) rfl rfl rfl rfl rfl g7 g8 (fl_X11_26 C.hA) dX11_init_59 (fun H locs hP => ?_)
    obtain ⟨u_59, eu_59, hP⟩ := Hp.nm hP
    have h := h u_59 eu_59
    refine lv_aload_n hx hb dX11_init_62 rfl (lv_at hl 0 rfl) ?_
    obtain ⟨g9, h⟩ := h
    obtain ⟨g10, h⟩ := h
    obtain ⟨g11, h⟩ := h
    obtain ⟨g12, h⟩ := h
    refine q_size hB hP hn0 (fun hz => ?_)
    refine q_new hB (C.cut hB _) hP hz tyX1_ok (lay_X1 C.hA) rfl (by decide) df_X1 (cl_X11_23 C.hA) (inst_X1 C.hA) (ini_X1 C.hA) g9 g10 g11 g12 dX11_init_63 (fun H hP => ?_)
    have hP : Hp (cut G (n0 + (((cn + 1) + 65) + 1))) u_59 s H _ := hP
    refine lv_dup hx hb dX11_init_66 rfl ?_
    obtain ⟨g13, h⟩ := h
    obtain ⟨g14, h⟩ := h
    refine q_size hB hP hn0 (fun hz => ?_)
    refine q_calC (q_runIN (C.cut hB _) hP hz (c_X1_init hB h) (cd_X1_init C.hA) (ini_X1 C.hA) (mn_X11_25 C.hA) (im_X1_init C.hA) rfl hd_X1_init ⟨rfl, rfl⟩ ⟨Nat.le_of_ble_eq_true rfl, Nat.le_of_ble_eq_true rfl⟩ ⟨g13, g14⟩ hl.1 rfl (Nat.le_of_ble_eq_true rfl) dX11_init_67) hP (fun u_67 H locs h hP => ?_)
    obtain ⟨g15, h⟩ := h
    obtain ⟨g16, h⟩ := h
    refine q_putFR (C.cut hB _) hP hnm (k := 3) tyX11_ok nmX11 (lay_X11 C.hA) rfl (by decide) rfl rfl rfl rfl rfl g15 g16 (fl_X11_30 C.hA) dX11_init_70 (fun H locs hP => ?_)
    obtain ⟨u_70, eu_70, hP⟩ := Hp.nm hP
    have h := h u_70 eu_70
    refine lv_aload_n hx hb dX11_init_73 rfl (lv_at hl 0 rfl) ?_
    refine lv_iconst (v := (0 : Int32)) hx hb dX11_init_74 (by decide) ?_
    refine q_putI (C.cut hB _) hP (k := 4) tyX11_ok nmX11 (lay_X11 C.hA) rfl (by decide) rfl rfl (nb01 (by decide)) (fb01 (by decide)) g15 (fl_X11_33 C.hA) dX11_init_75 (fun H locs hP => ?_)
    obtain ⟨u_75, eu_75, hP⟩ := Hp.nm hP
    have h := h u_75 eu_75
    refine lv_aload_n hx hb dX11_init_78 rfl (lv_at hl 0 rfl) ?_
    obtain ⟨g17, h⟩ := h
    obtain ⟨g18, h⟩ := h
    obtain ⟨g19, h⟩ := h
    obtain ⟨g20, h⟩ := h
    refine q_size hB hP hn0 (fun hz => ?_)
    refine q_new hB (C.cut hB _) hP hz tyX6_ok (lay_X6 C.hA) rfl (by decide) df_X6 (cl_X11_37 C.hA) (inst_X6 C.hA) (ini_X6 C.hA) g17 g18 g19 g20 dX11_init_79 (fun H hP => ?_)
    have hP : Hp (cut G (n0 + (((((cn + 1) + 65) + 1) + 65) + 1))) u_75 s H _ := hP
    refine lv_dup hx hb dX11_init_82 rfl ?_
    obtain ⟨g21, h⟩ := h
    obtain ⟨g22, h⟩ := h
    refine q_size hB hP hn0 (fun hz => ?_)
    refine q_calC (q_runIN (C.cut hB _) hP hz (c_X6_init hB h) (cd_X6_init C.hA) (ini_X6 C.hA) (mn_X11_39 C.hA) (im_X6_init C.hA) rfl hd_X6_init ⟨rfl, rfl⟩ ⟨Nat.le_of_ble_eq_true rfl, Nat.le_of_ble_eq_true rfl⟩ ⟨g21, g22⟩ hl.1 rfl (Nat.le_of_ble_eq_true rfl) dX11_init_83) hP (fun u_83 H locs h hP => ?_)
    obtain ⟨g23, h⟩ := h
    obtain ⟨g24, h⟩ := h
    refine q_putFR (C.cut hB _) hP hnm (k := 5) tyX11_ok nmX11 (lay_X11 C.hA) rfl (by decide) rfl rfl rfl rfl rfl g23 g24 (fl_X11_40 C.hA) dX11_init_86 (fun H locs hP => ?_)
    obtain ⟨u_86, eu_86, hP⟩ := Hp.nm hP
    have h := h u_86 eu_86
    refine lv_aload_n hx hb dX11_init_89 rfl (lv_at hl 0 rfl) ?_
    refine lv_bipush (v := (20 : Int32)) hx hb dX11_init_90 (by decide) ?_
    obtain ⟨g25, h⟩ := h
    obtain ⟨g26, h⟩ := h
    obtain ⟨g27, h⟩ := h
    obtain ⟨g28, h⟩ := h
    obtain ⟨g29, h⟩ := h
    refine q_size hB hP hn0 (fun hz => ?_)
    refine q_newr (C.cut hB _) hP hz (cl_X11_37 C.hA) (ao_object_ClapValley_Scene C.hA) rfl (by decide) (by decide) (by decide) g25 g26 g27 (by decide) g28 g29 dX11_init_92 (fun H hP => ?_)
    have hP : Hp (cut G (n0 + (((((((cn + 1) + 65) + 1) + 65) + 1) + 6) + 1))) u_86 s H _ := hP
    obtain ⟨g30, h⟩ := h
    obtain ⟨g31, h⟩ := h
    refine q_putFR (C.cut hB _) hP hnm (k := 6) tyX11_ok nmX11 (lay_X11 C.hA) rfl (by decide) rfl rfl rfl rfl rfl g30 g31 (fl_X11_44 C.hA) dX11_init_95 (fun H locs hP => ?_)
    obtain ⟨u_95, eu_95, hP⟩ := Hp.nm hP
    have h := h u_95 eu_95
    refine lv_iconst (v := (0 : Int32)) hx hb dX11_init_98 (by decide) ?_
    refine lv_istore_n (lv' := [(1, .int (0 : Int32)), (0, .ref x0)]) hx hb dX11_init_99 rfl hl (by decide) rfl (fun ls hl => ?_)
    obtain ⟨n, h⟩ := h
    exact l_X11_init_100 hB C hr hlk hn0 hnm n x0 (0 : Int32) (((((((cn + 1) + 65) + 1) + 65) + 1) + 6) + 1) (((((((sl + 8) + 680) + 8) + 680) + 9) + 36) + 20) u_95 _ _ _ h (lv_sub hl [1, 0] rfl) hP
  · have h := h.2 c29
    refine lv_aload_n hx hb dX11_init_32 rfl (lv_at hl 0 rfl) ?_
    obtain ⟨g32, h⟩ := h
    obtain ⟨g33, h⟩ := h
    refine q_getR (C.cut hB _) hP (k := 1) (lay_X11 C.hA) rfl (by decide) g32 g33 (fl_X11_18 C.hA) dX11_init_33 ?_
    refine lv_iload_n hx hb dX11_init_36 rfl (lv_at hl 1 rfl) ?_
    obtain ⟨g34, h⟩ := h
    obtain ⟨g35, h⟩ := h
    obtain ⟨g36, h⟩ := h
    obtain ⟨g37, h⟩ := h
    refine q_size hB hP hn0 (fun hz => ?_)
    refine q_new hB (C.cut hB _) hP hz tyX4_ok (lay_X4 C.hA) rfl (by decide) df_X4 (cl_X11_16 C.hA) (inst_X4 C.hA) (ini_X4 C.hA) g34 g35 g36 g37 dX11_init_37 (fun H hP => ?_)
    have hP : Hp (cut G (n0 + (cn + 1))) u s H _ := hP
    refine lv_dup hx hb dX11_init_40 rfl ?_
    obtain ⟨g38, h⟩ := h
    obtain ⟨g39, h⟩ := h
    refine q_size hB hP hn0 (fun hz => ?_)
    refine q_calC (q_runIN (C.cut hB _) hP hz (c_X4_init hB h) (cd_X4_init C.hA) (ini_X4 C.hA) (mn_X11_22 C.hA) (im_X4_init C.hA) rfl hd_X4_init ⟨rfl, rfl⟩ ⟨Nat.le_of_ble_eq_true rfl, Nat.le_of_ble_eq_true rfl⟩ ⟨g38, g39⟩ hl.1 rfl (Nat.le_of_ble_eq_true rfl) dX11_init_41) hP (fun u_41 H locs h hP => ?_)
    obtain ⟨g40, h⟩ := h
    obtain ⟨g41, h⟩ := h
    obtain ⟨g42, h⟩ := h
    refine q_aast (C.cut hB _) hP g40 (by decide) (r := (RX4, TX4, 8)) rfl rfl (by decide) g42 g41 dX11_init_44 (fun H locs hP => ?_)
    obtain ⟨u_44, eu_44, hP⟩ := Hp.nm hP
    have h := h u_44 eu_44
    obtain ⟨x1_45, ex1_45⟩ : ∃ y : Int32, y = x1 + (1 : Int32) := ⟨_, rfl⟩
    have h := h x1_45 ex1_45
    refine lv_iinc (v := x1_45) (lv' := [(1, .int x1_45), (0, .ref x0)]) hx hb dX11_init_45 hl (k := 1) rfl (by rw [ex1_45]; rfl) (by decide) rfl (fun ls hl => ?_)
    refine lv_goto (tgt := 26) hx hb dX11_init_48 (by decide) ?_
    exact hk_26 x0 x1_45 ((cn + 1) + 23) ((sl + 8) + 108) u_44 _ _ _ h (lv_sub hl [1, 0] rfl) hP
theorem l_X11_init_26 {G : Gx} {Q : Mm → Prop} {n0 : Nat} {p : Program} {l : Launch} {e : Env} {s : State} {m : MethodId} {args : Array Value} {below : List Frame} {meth : Method} {c : Code} (hB : bsG G) (C : Cx (cut G n0) p s m c cX11_init RX11 2) (hr : meth.sig.returnType = none) (hlk : meth.locks = false) (hn0 : s.heap.size = gz G + n0) (hnm : meth.name = "<init>") : ∀ (n : Nat) (x0 : Nat) (x1 : Int32) (cn sl : Nat) (u : Mm) (H : Heap) (locs : List Loc) (ls : Array Slot), V_X11_init_26 G Q n0 n x0 x1 cn sl u → lv_has ls 2 [(0, .ref x0), (1, .int x1)] → Hp (cut G (n0 + cn)) u s H locs → W p l e rm_X11_init s m args below meth c H locs cn sl (MQ below (EvC G (n0 + 475) Q) args s 475 4363 (ag G)) (F0 m 26 ls []) := by
  intro n
  induction n with
  | zero => intro x0 x1 cn sl u H locs ls h; exact h.elim
  | succ n ih => intro x0 x1 cn sl u H locs ls h hl hP; exact b_X11_init_26 hB C hr hlk hn0 hnm ih h hl hP
set_option maxHeartbeats 4000000 in
set_option maxRecDepth 100000 in
theorem c_X11_init {l : Launch} {G : Gx} {p0 n0 : Nat} {u : Mm} {Q : Mm → Prop} (hB : bsG G) (h : V_X11_init G p0 n0 u Q) : Met l yX11_init [.code yX11_init cX11_init 2 none] rm_X11_init (va_Pc [.ref p0] (WdC G n0 u)) (EvC G (n0 + 475) Q) 475 4363 (ag G) := by
  refine q_metC (by decide) (Nat.le_of_ble_eq_true rfl) ?_
  intro p e s m below meth c ls C hr hlk hnm hn0 hl hP
  have hl : lv_has ls 2 [(0, .ref p0)] := hl
  generalize ([.ref p0] : List Value).toArray = args
  have hx := C.1
  have hb := C.2.1
  have hP : Hp (cut G (n0 + 0)) u s s.heap [] := hP
  unfold V_X11_init at h
  refine lv_aload_n hx hb dX11_init_0 rfl (lv_at hl 0 rfl) ?_
  refine W.objInit hx hb C.2.2.1 (ml_X11_3 C.hA) (im_java_lang_Object__init___V C.hA) (cd_java_lang_Object__init___V C.hA) rfl (hl.1.trans C.2.2.2.1.symm) rfl dX11_init_1 (Nat.le_of_ble_eq_true rfl) (Nat.le_of_ble_eq_true rfl) ?_
  refine W.eq (g2 := F0 m 4 ls []) rfl ?_
  refine lv_aload_n hx hb dX11_init_4 rfl (lv_at hl 0 rfl) ?_
  obtain ⟨g1, h⟩ := h
  obtain ⟨g2, h⟩ := h
  obtain ⟨g3, h⟩ := h
  obtain ⟨g4, h⟩ := h
  refine q_size hB hP hn0 (fun hz => ?_)
  refine q_new hB (C.cut hB _) hP hz tyX8_ok (lay_X8 C.hA) rfl (by decide) df_X8 (cl_X11_9 C.hA) (inst_X8 C.hA) (ini_X8 C.hA) g1 g2 g3 g4 dX11_init_5 (fun H hP => ?_)
  refine W.cs (cells' := 1) (slots' := 12) rfl rfl ?_
  have hP : Hp (cut G (n0 + 1)) u s H _ := hP
  refine lv_dup hx hb dX11_init_8 rfl ?_
  obtain ⟨g5, h⟩ := h
  obtain ⟨g6, h⟩ := h
  refine q_size hB hP hn0 (fun hz => ?_)
  refine q_calC (q_runIN (C.cut hB _) hP hz (c_X8_init hB h) (cd_X8_init C.hA) (ini_X8 C.hA) (mn_X11_11 C.hA) (im_X8_init C.hA) rfl hd_X8_init ⟨rfl, rfl⟩ ⟨Nat.le_of_ble_eq_true rfl, Nat.le_of_ble_eq_true rfl⟩ ⟨g5, g6⟩ hl.1 rfl (Nat.le_of_ble_eq_true rfl) dX11_init_9) hP (fun u_9 H locs h hP => ?_)
  refine W.cs (cells' := 26) (slots' := 828) rfl rfl ?_
  obtain ⟨g7, h⟩ := h
  obtain ⟨g8, h⟩ := h
  refine q_putFR (C.cut hB _) hP hnm (k := 0) tyX11_ok nmX11 (lay_X11 C.hA) rfl (by decide) rfl rfl rfl rfl rfl g7 g8 (fl_X11_12 C.hA) dX11_init_12 (fun H locs hP => ?_)
  obtain ⟨u_12, eu_12, hP⟩ := Hp.nm hP
  have h := h u_12 eu_12
  refine lv_aload_n hx hb dX11_init_15 rfl (lv_at hl 0 rfl) ?_
  refine lv_bipush (v := (6 : Int32)) hx hb dX11_init_16 (by decide) ?_
  obtain ⟨g9, h⟩ := h
  obtain ⟨g10, h⟩ := h
  obtain ⟨g11, h⟩ := h
  obtain ⟨g12, h⟩ := h
  obtain ⟨g13, h⟩ := h
  refine q_size hB hP hn0 (fun hz => ?_)
  refine q_newr (C.cut hB _) hP hz (cl_X11_16 C.hA) (ao_object_ClapValley_Land C.hA) rfl (by decide) (by decide) (by decide) g9 g10 g11 (by decide) g12 g13 dX11_init_18 (fun H hP => ?_)
  refine W.cs (cells' := 27) (slots' := 834) rfl rfl ?_
  have hP : Hp (cut G (n0 + 27)) u_12 s H _ := hP
  obtain ⟨g14, h⟩ := h
  obtain ⟨g15, h⟩ := h
  refine q_putFR (C.cut hB _) hP hnm (k := 1) tyX11_ok nmX11 (lay_X11 C.hA) rfl (by decide) rfl rfl rfl rfl rfl g14 g15 (fl_X11_18 C.hA) dX11_init_21 (fun H locs hP => ?_)
  obtain ⟨u_21, eu_21, hP⟩ := Hp.nm hP
  have h := h u_21 eu_21
  refine lv_iconst (v := (0 : Int32)) hx hb dX11_init_24 (by decide) ?_
  refine lv_istore_n (lv' := [(1, .int (0 : Int32)), (0, .ref p0)]) hx hb dX11_init_25 rfl hl (by decide) rfl (fun ls hl => ?_)
  obtain ⟨n, h⟩ := h
  exact l_X11_init_26 hB C hr hlk hn0 hnm n p0 (0 : Int32) 27 834 u_21 _ _ _ h (lv_sub hl [1, 0] rfl) hP
-- X12_init
abbrev rm_X12_init : Room := { frames := 1, cells := 39, slots := 104789, locals := 21 }
theorem hd_X12_init : yX12_init.cls ≠ "java/lang/invoke/MethodHandle" ∧ yX12_init.cls ≠ "java/lang/invoke/VarHandle" ∧ (parseMethodDescriptor yX12_init.desc).map (fun d => d.parameters.length) = some 0 := by decide +kernel
def V_X12_init_361_B (G : Gx) (Q : Mm → Prop) (n0 : Nat) (k_361 : Nat → Int32 → Nat → Nat → Mm → Prop) (x0 : Nat) (x1 : Int32) (cn sl : Nat) (u : Mm) : Prop :=
  (((6 : Int32) ≤ x1 → cn = 39 ∧ sl ≤ 104789 ∧ Q u) ∧ (¬ (6 : Int32) ≤ x1 → kd (cut G (n0 + cn)) x0 = 12 ∧ cn + 0 ≤ 39 ∧ sl + 0 ≤ 104789 ∧ V_X12_atFirst (cut G (n0 + cn)) x0 x1 u (fun (u_369 : Mm) => ∀ x1_372 : Int32, x1_372 = x1 + (1 : Int32) → k_361 x0 x1_372 cn sl u_369)))
def V_X12_init_361 (G : Gx) (Q : Mm → Prop) (n0 : Nat) : Nat → (Nat → Int32 → Nat → Nat → Mm → Prop)
  | 0 => fun _ _ _ _ _ => False
  | n + 1 => fun x0 x1 cn sl u => V_X12_init_361_B G Q n0 (V_X12_init_361 G Q n0 n) x0 x1 cn sl u
set_option maxRecDepth 100000 in
def V_X12_init (G : Gx) (p0 n0 : Nat) (u : Mm) (Q : Mm → Prop) : Prop :=
  kd G (gz G + (n0 + 0)) = 23 ∧ ln G (gz G + (n0 + 0)) = 6 ∧ blk u (gz G + (n0 + 0)) ∧ 0 + 1 ≤ 39 ∧ 0 + 6 ≤ 104789 ∧ kd (cut G (n0 + 1)) (gz G + (n0 + 0)) = 23 ∧ vp_in (0 : Int32) (ln (cut G (n0 + 1)) (gz G + (n0 + 0))) ∧ ∀ u_14 : Mm, u_14 = sR u (gz G + (n0 + 0)) (0 : Int32).toNatClampNeg 29 → vp_in (1 : Int32) (ln (cut G (n0 + 1)) (gz G + (n0 + 0))) ∧ ∀ u_19 : Mm, u_19 = sR u_14 (gz G + (n0 + 0)) (1 : Int32).toNatClampNeg 30 → vp_in (2 : Int32) (ln (cut G (n0 + 1)) (gz G + (n0 + 0))) ∧ ∀ u_24 : Mm, u_24 = sR u_19 (gz G + (n0 + 0)) (2 : Int32).toNatClampNeg 31 → vp_in (3 : Int32) (ln (cut G (n0 + 1)) (gz G + (n0 + 0))) ∧ ∀ u_29 : Mm, u_29 = sR u_24 (gz G + (n0 + 0)) (3 : Int32).toNatClampNeg 32 → vp_in (4 : Int32) (ln (cut G (n0 + 1)) (gz G + (n0 + 0))) ∧ ∀ u_34 : Mm, u_34 = sR u_29 (gz G + (n0 + 0)) (4 : Int32).toNatClampNeg 33 → vp_in (5 : Int32) (ln (cut G (n0 + 1)) (gz G + (n0 + 0))) ∧ ∀ u_39 : Mm, u_39 = sR u_34 (gz G + (n0 + 0)) (5 : Int32).toNatClampNeg 34 → kd (cut G (n0 + 1)) p0 = 12 ∧ (gz G + (n0 + 0)) ≠ 0 ∧ ∀ u_40 : Mm, u_40 = sR u_39 p0 0 (gz G + (n0 + 0)) → kd G (gz G + (n0 + 1)) = 13 ∧ ln G (gz G + (n0 + 1)) = 7 ∧ blk u_40 (gz G + (n0 + 1)) ∧ 1 + 1 ≤ 39 ∧ 6 + 7 ≤ 104789 ∧ kd (cut G (n0 + 2)) p0 = 12 ∧ (gz G + (n0 + 1)) ≠ 0 ∧ ∀ u_48 : Mm, u_48 = sR u_40 p0 2 (gz G + (n0 + 1)) → kd G (gz G + (n0 + 2)) = 13 ∧ ln G (gz G + (n0 + 2)) = 7 ∧ blk u_48 (gz G + (n0 + 2)) ∧ 2 + 1 ≤ 39 ∧ 13 + 7 ≤ 104789 ∧ kd (cut G (n0 + 3)) p0 = 12 ∧ (gz G + (n0 + 2)) ≠ 0 ∧ ∀ u_56 : Mm, u_56 = sR u_48 p0 3 (gz G + (n0 + 2)) → kd G (gz G + (n0 + 3)) = 13 ∧ ln G (gz G + (n0 + 3)) = 7 ∧ blk u_56 (gz G + (n0 + 3)) ∧ 3 + 1 ≤ 39 ∧ 20 + 7 ≤ 104789 ∧ kd (cut G (n0 + 4)) p0 = 12 ∧ (gz G + (n0 + 3)) ≠ 0 ∧ ∀ u_64 : Mm, u_64 = sR u_56 p0 4 (gz G + (n0 + 3)) → kd G (gz G + (n0 + 4)) = 13 ∧ ln G (gz G + (n0 + 4)) = 7 ∧ blk u_64 (gz G + (n0 + 4)) ∧ 4 + 1 ≤ 39 ∧ 27 + 7 ≤ 104789 ∧ kd (cut G (n0 + 5)) p0 = 12 ∧ (gz G + (n0 + 4)) ≠ 0 ∧ ∀ u_72 : Mm, u_72 = sR u_64 p0 5 (gz G + (n0 + 4)) → kd G (gz G + (n0 + 5)) = 13 ∧ ln G (gz G + (n0 + 5)) = 7 ∧ blk u_72 (gz G + (n0 + 5)) ∧ 5 + 1 ≤ 39 ∧ 34 + 7 ≤ 104789 ∧ kd (cut G (n0 + 6)) p0 = 12 ∧ (gz G + (n0 + 5)) ≠ 0 ∧ ∀ u_80 : Mm, u_80 = sR u_72 p0 6 (gz G + (n0 + 5)) → kd G (gz G + (n0 + 6)) = 13 ∧ ln G (gz G + (n0 + 6)) = 280 ∧ blk u_80 (gz G + (n0 + 6)) ∧ 6 + 1 ≤ 39 ∧ 41 + 280 ≤ 104789 ∧ kd (cut G (n0 + 7)) p0 = 12 ∧ (gz G + (n0 + 6)) ≠ 0 ∧ ∀ u_89 : Mm, u_89 = sR u_80 p0 7 (gz G + (n0 + 6)) → kd G (gz G + (n0 + 7)) = 13 ∧ ln G (gz G + (n0 + 7)) = 280 ∧ blk u_89 (gz G + (n0 + 7)) ∧ 7 + 1 ≤ 39 ∧ 321 + 280 ≤ 104789 ∧ kd (cut G (n0 + 8)) p0 = 12 ∧ (gz G + (n0 + 7)) ≠ 0 ∧ ∀ u_98 : Mm, u_98 = sR u_89 p0 8 (gz G + (n0 + 7)) → kd G (gz G + (n0 + 8)) = 13 ∧ ln G (gz G + (n0 + 8)) = 196 ∧ blk u_98 (gz G + (n0 + 8)) ∧ 8 + 1 ≤ 39 ∧ 601 + 196 ≤ 104789 ∧ kd (cut G (n0 + 9)) p0 = 12 ∧ (gz G + (n0 + 8)) ≠ 0 ∧ ∀ u_107 : Mm, u_107 = sR u_98 p0 9 (gz G + (n0 + 8)) → kd G (gz G + (n0 + 9)) = 13 ∧ ln G (gz G + (n0 + 9)) = 4 ∧ blk u_107 (gz G + (n0 + 9)) ∧ 9 + 1 ≤ 39 ∧ 797 + 4 ≤ 104789 ∧ kd (cut G (n0 + 10)) p0 = 12 ∧ (gz G + (n0 + 9)) ≠ 0 ∧ ∀ u_114 : Mm, u_114 = sR u_107 p0 10 (gz G + (n0 + 9)) → kd G (gz G + (n0 + 10)) = 13 ∧ ln G (gz G + (n0 + 10)) = 700 ∧ blk u_114 (gz G + (n0 + 10)) ∧ 10 + 1 ≤ 39 ∧ 801 + 700 ≤ 104789 ∧ kd (cut G (n0 + 11)) p0 = 12 ∧ (gz G + (n0 + 10)) ≠ 0 ∧ ∀ u_123 : Mm, u_123 = sR u_114 p0 11 (gz G + (n0 + 10)) → ∀ u_128 : Mm, u_128 = sI u_123 p0 21 (-1 : Int32) → kd G (gz G + (n0 + 11)) = 13 ∧ ln G (gz G + (n0 + 11)) = 80 ∧ blk u_128 (gz G + (n0 + 11)) ∧ 11 + 1 ≤ 39 ∧ 1501 + 80 ≤ 104789 ∧ kd (cut G (n0 + 12)) p0 = 12 ∧ (gz G + (n0 + 11)) ≠ 0 ∧ ∀ u_136 : Mm, u_136 = sR u_128 p0 22 (gz G + (n0 + 11)) → kd G (gz G + (n0 + 12)) = 13 ∧ ln G (gz G + (n0 + 12)) = 80 ∧ blk u_136 (gz G + (n0 + 12)) ∧ 12 + 1 ≤ 39 ∧ 1581 + 80 ≤ 104789 ∧ kd (cut G (n0 + 13)) p0 = 12 ∧ (gz G + (n0 + 12)) ≠ 0 ∧ ∀ u_144 : Mm, u_144 = sR u_136 p0 23 (gz G + (n0 + 12)) → kd G (gz G + (n0 + 13)) = 13 ∧ ln G (gz G + (n0 + 13)) = 80 ∧ blk u_144 (gz G + (n0 + 13)) ∧ 13 + 1 ≤ 39 ∧ 1661 + 80 ≤ 104789 ∧ kd (cut G (n0 + 14)) p0 = 12 ∧ (gz G + (n0 + 13)) ≠ 0 ∧ ∀ u_152 : Mm, u_152 = sR u_144 p0 24 (gz G + (n0 + 13)) → kd G (gz G + (n0 + 14)) = 13 ∧ ln G (gz G + (n0 + 14)) = 80 ∧ blk u_152 (gz G + (n0 + 14)) ∧ 14 + 1 ≤ 39 ∧ 1741 + 80 ≤ 104789 ∧ kd (cut G (n0 + 15)) p0 = 12 ∧ (gz G + (n0 + 14)) ≠ 0 ∧ ∀ u_160 : Mm, u_160 = sR u_152 p0 25 (gz G + (n0 + 14)) → kd G (gz G + (n0 + 15)) = 13 ∧ ln G (gz G + (n0 + 15)) = 20 ∧ blk u_160 (gz G + (n0 + 15)) ∧ 15 + 1 ≤ 39 ∧ 1821 + 20 ≤ 104789 ∧ kd (cut G (n0 + 16)) p0 = 12 ∧ (gz G + (n0 + 15)) ≠ 0 ∧ ∀ u_168 : Mm, u_168 = sR u_160 p0 29 (gz G + (n0 + 15)) → kd G (gz G + (n0 + 16)) = 13 ∧ ln G (gz G + (n0 + 16)) = 20 ∧ blk u_168 (gz G + (n0 + 16)) ∧ 16 + 1 ≤ 39 ∧ 1841 + 20 ≤ 104789 ∧ kd (cut G (n0 + 17)) p0 = 12 ∧ (gz G + (n0 + 16)) ≠ 0 ∧ ∀ u_176 : Mm, u_176 = sR u_168 p0 30 (gz G + (n0 + 16)) → kd G (gz G + (n0 + 17)) = 13 ∧ ln G (gz G + (n0 + 17)) = 20 ∧ blk u_176 (gz G + (n0 + 17)) ∧ 17 + 1 ≤ 39 ∧ 1861 + 20 ≤ 104789 ∧ kd (cut G (n0 + 18)) p0 = 12 ∧ (gz G + (n0 + 17)) ≠ 0 ∧ ∀ u_184 : Mm, u_184 = sR u_176 p0 31 (gz G + (n0 + 17)) → kd G (gz G + (n0 + 18)) = 13 ∧ ln G (gz G + (n0 + 18)) = 20 ∧ blk u_184 (gz G + (n0 + 18)) ∧ 18 + 1 ≤ 39 ∧ 1881 + 20 ≤ 104789 ∧ kd (cut G (n0 + 19)) p0 = 12 ∧ (gz G + (n0 + 18)) ≠ 0 ∧ ∀ u_192 : Mm, u_192 = sR u_184 p0 32 (gz G + (n0 + 18)) → kd G (gz G + (n0 + 19)) = 13 ∧ ln G (gz G + (n0 + 19)) = 20 ∧ blk u_192 (gz G + (n0 + 19)) ∧ 19 + 1 ≤ 39 ∧ 1901 + 20 ≤ 104789 ∧ kd (cut G (n0 + 20)) p0 = 12 ∧ (gz G + (n0 + 19)) ≠ 0 ∧ ∀ u_200 : Mm, u_200 = sR u_192 p0 33 (gz G + (n0 + 19)) → kd G (gz G + (n0 + 20)) = 13 ∧ ln G (gz G + (n0 + 20)) = 240 ∧ blk u_200 (gz G + (n0 + 20)) ∧ 20 + 1 ≤ 39 ∧ 1921 + 240 ≤ 104789 ∧ kd (cut G (n0 + 21)) p0 = 12 ∧ (gz G + (n0 + 20)) ≠ 0 ∧ ∀ u_209 : Mm, u_209 = sR u_200 p0 34 (gz G + (n0 + 20)) → kd G (gz G + (n0 + 21)) = 13 ∧ ln G (gz G + (n0 + 21)) = 240 ∧ blk u_209 (gz G + (n0 + 21)) ∧ 21 + 1 ≤ 39 ∧ 2161 + 240 ≤ 104789 ∧ kd (cut G (n0 + 22)) p0 = 12 ∧ (gz G + (n0 + 21)) ≠ 0 ∧ ∀ u_218 : Mm, u_218 = sR u_209 p0 35 (gz G + (n0 + 21)) → kd G (gz G + (n0 + 22)) = 13 ∧ ln G (gz G + (n0 + 22)) = 8 ∧ blk u_218 (gz G + (n0 + 22)) ∧ 22 + 1 ≤ 39 ∧ 2401 + 8 ≤ 104789 ∧ kd (cut G (n0 + 23)) p0 = 12 ∧ (gz G + (n0 + 22)) ≠ 0 ∧ ∀ u_226 : Mm, u_226 = sR u_218 p0 36 (gz G + (n0 + 22)) → kd G (gz G + (n0 + 23)) = 13 ∧ ln G (gz G + (n0 + 23)) = 8 ∧ blk u_226 (gz G + (n0 + 23)) ∧ 23 + 1 ≤ 39 ∧ 2409 + 8 ≤ 104789 ∧ kd (cut G (n0 + 24)) p0 = 12 ∧ (gz G + (n0 + 23)) ≠ 0 ∧ ∀ u_234 : Mm, u_234 = sR u_226 p0 37 (gz G + (n0 + 23)) → kd G (gz G + (n0 + 24)) = 13 ∧ ln G (gz G + (n0 + 24)) = 1640 ∧ blk u_234 (gz G + (n0 + 24)) ∧ 24 + 1 ≤ 39 ∧ 2417 + 1640 ≤ 104789 ∧ kd (cut G (n0 + 25)) p0 = 12 ∧ (gz G + (n0 + 24)) ≠ 0 ∧ ∀ u_243 : Mm, u_243 = sR u_234 p0 38 (gz G + (n0 + 24)) → kd G (gz G + (n0 + 25)) = 13 ∧ ln G (gz G + (n0 + 25)) = 20 ∧ blk u_243 (gz G + (n0 + 25)) ∧ 25 + 1 ≤ 39 ∧ 4057 + 20 ≤ 104789 ∧ kd (cut G (n0 + 26)) p0 = 12 ∧ (gz G + (n0 + 25)) ≠ 0 ∧ ∀ u_251 : Mm, u_251 = sR u_243 p0 39 (gz G + (n0 + 25)) → kd G (gz G + (n0 + 26)) = 13 ∧ ln G (gz G + (n0 + 26)) = 100000 ∧ blk u_251 (gz G + (n0 + 26)) ∧ 26 + 1 ≤ 39 ∧ 4077 + 100000 ≤ 104789 ∧ kd (cut G (n0 + 27)) p0 = 12 ∧ (gz G + (n0 + 26)) ≠ 0 ∧ ∀ u_259 : Mm, u_259 = sR u_251 p0 40 (gz G + (n0 + 26)) → kd G (gz G + (n0 + 27)) = 13 ∧ ln G (gz G + (n0 + 27)) = 48 ∧ blk u_259 (gz G + (n0 + 27)) ∧ 27 + 1 ≤ 39 ∧ 104077 + 48 ≤ 104789 ∧ kd (cut G (n0 + 28)) p0 = 12 ∧ (gz G + (n0 + 27)) ≠ 0 ∧ ∀ u_267 : Mm, u_267 = sR u_259 p0 43 (gz G + (n0 + 27)) → kd G (gz G + (n0 + 28)) = 13 ∧ ln G (gz G + (n0 + 28)) = 64 ∧ blk u_267 (gz G + (n0 + 28)) ∧ 28 + 1 ≤ 39 ∧ 104125 + 64 ≤ 104789 ∧ kd (cut G (n0 + 29)) p0 = 12 ∧ (gz G + (n0 + 28)) ≠ 0 ∧ ∀ u_275 : Mm, u_275 = sR u_267 p0 44 (gz G + (n0 + 28)) → kd G (gz G + (n0 + 29)) = 13 ∧ ln G (gz G + (n0 + 29)) = 20 ∧ blk u_275 (gz G + (n0 + 29)) ∧ 29 + 1 ≤ 39 ∧ 104189 + 20 ≤ 104789 ∧ kd (cut G (n0 + 30)) p0 = 12 ∧ (gz G + (n0 + 29)) ≠ 0 ∧ ∀ u_283 : Mm, u_283 = sR u_275 p0 48 (gz G + (n0 + 29)) → kd G (gz G + (n0 + 30)) = 13 ∧ ln G (gz G + (n0 + 30)) = 20 ∧ blk u_283 (gz G + (n0 + 30)) ∧ 30 + 1 ≤ 39 ∧ 104209 + 20 ≤ 104789 ∧ kd (cut G (n0 + 31)) p0 = 12 ∧ (gz G + (n0 + 30)) ≠ 0 ∧ ∀ u_291 : Mm, u_291 = sR u_283 p0 49 (gz G + (n0 + 30)) → kd G (gz G + (n0 + 31)) = 13 ∧ ln G (gz G + (n0 + 31)) = 20 ∧ blk u_291 (gz G + (n0 + 31)) ∧ 31 + 1 ≤ 39 ∧ 104229 + 20 ≤ 104789 ∧ kd (cut G (n0 + 32)) p0 = 12 ∧ (gz G + (n0 + 31)) ≠ 0 ∧ ∀ u_299 : Mm, u_299 = sR u_291 p0 50 (gz G + (n0 + 31)) → kd G (gz G + (n0 + 32)) = 13 ∧ ln G (gz G + (n0 + 32)) = 20 ∧ blk u_299 (gz G + (n0 + 32)) ∧ 32 + 1 ≤ 39 ∧ 104249 + 20 ≤ 104789 ∧ kd (cut G (n0 + 33)) p0 = 12 ∧ (gz G + (n0 + 32)) ≠ 0 ∧ ∀ u_307 : Mm, u_307 = sR u_299 p0 51 (gz G + (n0 + 32)) → kd G (gz G + (n0 + 33)) = 13 ∧ ln G (gz G + (n0 + 33)) = 20 ∧ blk u_307 (gz G + (n0 + 33)) ∧ 33 + 1 ≤ 39 ∧ 104269 + 20 ≤ 104789 ∧ kd (cut G (n0 + 34)) p0 = 12 ∧ (gz G + (n0 + 33)) ≠ 0 ∧ ∀ u_315 : Mm, u_315 = sR u_307 p0 52 (gz G + (n0 + 33)) → kd G (gz G + (n0 + 34)) = 13 ∧ ln G (gz G + (n0 + 34)) = 240 ∧ blk u_315 (gz G + (n0 + 34)) ∧ 34 + 1 ≤ 39 ∧ 104289 + 240 ≤ 104789 ∧ kd (cut G (n0 + 35)) p0 = 12 ∧ (gz G + (n0 + 34)) ≠ 0 ∧ ∀ u_324 : Mm, u_324 = sR u_315 p0 53 (gz G + (n0 + 34)) → kd G (gz G + (n0 + 35)) = 13 ∧ ln G (gz G + (n0 + 35)) = 240 ∧ blk u_324 (gz G + (n0 + 35)) ∧ 35 + 1 ≤ 39 ∧ 104529 + 240 ≤ 104789 ∧ kd (cut G (n0 + 36)) p0 = 12 ∧ (gz G + (n0 + 35)) ≠ 0 ∧ ∀ u_333 : Mm, u_333 = sR u_324 p0 54 (gz G + (n0 + 35)) → kd G (gz G + (n0 + 36)) = 13 ∧ ln G (gz G + (n0 + 36)) = 8 ∧ blk u_333 (gz G + (n0 + 36)) ∧ 36 + 1 ≤ 39 ∧ 104769 + 8 ≤ 104789 ∧ kd (cut G (n0 + 37)) p0 = 12 ∧ (gz G + (n0 + 36)) ≠ 0 ∧ ∀ u_341 : Mm, u_341 = sR u_333 p0 55 (gz G + (n0 + 36)) → kd G (gz G + (n0 + 37)) = 13 ∧ ln G (gz G + (n0 + 37)) = 8 ∧ blk u_341 (gz G + (n0 + 37)) ∧ 37 + 1 ≤ 39 ∧ 104777 + 8 ≤ 104789 ∧ kd (cut G (n0 + 38)) p0 = 12 ∧ (gz G + (n0 + 37)) ≠ 0 ∧ ∀ u_349 : Mm, u_349 = sR u_341 p0 56 (gz G + (n0 + 37)) → kd G (gz G + (n0 + 38)) = 13 ∧ ln G (gz G + (n0 + 38)) = 4 ∧ blk u_349 (gz G + (n0 + 38)) ∧ 38 + 1 ≤ 39 ∧ 104785 + 4 ≤ 104789 ∧ kd (cut G (n0 + 39)) p0 = 12 ∧ (gz G + (n0 + 38)) ≠ 0 ∧ ∀ u_356 : Mm, u_356 = sR u_349 p0 57 (gz G + (n0 + 38)) → ∃ n : Nat, V_X12_init_361 G Q n0 n p0 (0 : Int32) 39 104789 u_356
set_option maxHeartbeats 4000000 in
set_option maxRecDepth 100000 in
theorem b_X12_init_361 {G : Gx} {Q : Mm → Prop} {n0 : Nat} {p : Program} {l : Launch} {e : Env} {s : State} {m : MethodId} {args : Array Value} {below : List Frame} {meth : Method} {c : Code} (hB : bsG G) (C : Cx (cut G n0) p s m c cX12_init RX12 2) (hr : meth.sig.returnType = none) (hlk : meth.locks = false) (hn0 : s.heap.size = gz G + n0) (hnm : meth.name = "<init>") {k_361 : Nat → Int32 → Nat → Nat → Mm → Prop} (hk_361 : ∀ (x0 : Nat) (x1 : Int32) (cn sl : Nat) (u : Mm) (H : Heap) (locs : List Loc) (ls : Array Slot), k_361 x0 x1 cn sl u → lv_has ls 2 [(0, .ref x0), (1, .int x1)] → Hp (cut G (n0 + cn)) u s H locs → W p l e rm_X12_init s m args below meth c H locs cn sl (MQ below (EvC G (n0 + 39) Q) args s 39 104789 (ag G)) (F0 m 361 ls [])) {x0 : Nat} {x1 : Int32} {cn sl : Nat} {u : Mm} {H : Heap} {locs : List Loc} {ls : Array Slot} (h : V_X12_init_361_B G Q n0 k_361 x0 x1 cn sl u) (hl : lv_has ls 2 [(0, .ref x0), (1, .int x1)]) (hP : Hp (cut G (n0 + cn)) u s H locs) : W p l e rm_X12_init s m args below meth c H locs cn sl (MQ below (EvC G (n0 + 39) Q) args s 39 104789 (ag G)) (F0 m 361 ls []) := by
  have hx := C.1
  have hb := C.2.1
  unfold V_X12_init_361_B at h
  refine lv_iload_n hx hb dX12_init_361 rfl (lv_at hl 1 rfl) ?_
  refine lv_bipush (v := (6 : Int32)) hx hb dX12_init_362 (by decide) ?_
  refine lv_icmp_ge (tgt := 378) hx hb dX12_init_364 (by decide) (fun c364 => ?_) (fun c364 => ?_)
  · have h := h.1 c364
    obtain ⟨g1, h⟩ := h
    obtain ⟨g2, h⟩ := h
    have hP := Hp.cte g1 hP
    exact q_vretC (C.cut hB _) hr hlk hP h (Nat.le_of_eq g1) g2 dX12_init_378
  · have h := h.2 c364
    refine lv_aload_n hx hb dX12_init_367 rfl (lv_at hl 0 rfl) ?_
    refine lv_iload_n hx hb dX12_init_368 rfl (lv_at hl 1 rfl) ?_
    obtain ⟨g3, h⟩ := h
    obtain ⟨g4, h⟩ := h
    obtain ⟨g5, h⟩ := h
    refine q_calv (q_runV (C.cut hB _) hP (c_X12_atFirst h) (cd_X12_atFirst C.hA) (ini_X12 C.hA) (ml_X12_143 C.hA) (im_X12_atFirst C.hA) (sl_X12_atFirst C.hA) g3 (by decide) rfl hd_X12_atFirst ⟨rfl, rfl⟩ ⟨Nat.le_of_ble_eq_true rfl, Nat.le_of_ble_eq_true rfl⟩ ⟨g4, g5⟩ hl.1 rfl (Nat.le_of_ble_eq_true rfl) dX12_init_369) hP (fun u_369 H locs h hP => ?_)
    obtain ⟨x1_372, ex1_372⟩ : ∃ y : Int32, y = x1 + (1 : Int32) := ⟨_, rfl⟩
    have h := h x1_372 ex1_372
    refine lv_iinc (v := x1_372) (lv' := [(1, .int x1_372), (0, .ref x0)]) hx hb dX12_init_372 hl (k := 1) rfl (by rw [ex1_372]; rfl) (by decide) rfl (fun ls hl => ?_)
    refine lv_goto (tgt := 361) hx hb dX12_init_375 (by decide) ?_
    exact hk_361 x0 x1_372 cn sl u_369 _ _ _ h (lv_sub hl [1, 0] rfl) hP
theorem l_X12_init_361 {G : Gx} {Q : Mm → Prop} {n0 : Nat} {p : Program} {l : Launch} {e : Env} {s : State} {m : MethodId} {args : Array Value} {below : List Frame} {meth : Method} {c : Code} (hB : bsG G) (C : Cx (cut G n0) p s m c cX12_init RX12 2) (hr : meth.sig.returnType = none) (hlk : meth.locks = false) (hn0 : s.heap.size = gz G + n0) (hnm : meth.name = "<init>") : ∀ (n : Nat) (x0 : Nat) (x1 : Int32) (cn sl : Nat) (u : Mm) (H : Heap) (locs : List Loc) (ls : Array Slot), V_X12_init_361 G Q n0 n x0 x1 cn sl u → lv_has ls 2 [(0, .ref x0), (1, .int x1)] → Hp (cut G (n0 + cn)) u s H locs → W p l e rm_X12_init s m args below meth c H locs cn sl (MQ below (EvC G (n0 + 39) Q) args s 39 104789 (ag G)) (F0 m 361 ls []) := by
  intro n
  induction n with
  | zero => intro x0 x1 cn sl u H locs ls h; exact h.elim
  | succ n ih => intro x0 x1 cn sl u H locs ls h hl hP; exact b_X12_init_361 hB C hr hlk hn0 hnm ih h hl hP
set_option maxHeartbeats 4000000 in
set_option maxRecDepth 100000 in
theorem c_X12_init {l : Launch} {G : Gx} {p0 n0 : Nat} {u : Mm} {Q : Mm → Prop} (hB : bsG G) (h : V_X12_init G p0 n0 u Q) : Met l yX12_init [.code yX12_init cX12_init 2 none] rm_X12_init (va_Pc [.ref p0] (WdC G n0 u)) (EvC G (n0 + 39) Q) 39 104789 (ag G) := by
  refine q_metC (by decide) (Nat.le_of_ble_eq_true rfl) ?_
  intro p e s m below meth c ls C hr hlk hnm hn0 hl hP
  have hl : lv_has ls 2 [(0, .ref p0)] := hl
  generalize ([.ref p0] : List Value).toArray = args
  have hx := C.1
  have hb := C.2.1
  have hP : Hp (cut G (n0 + 0)) u s s.heap [] := hP
  unfold V_X12_init at h
  refine lv_aload_n hx hb dX12_init_0 rfl (lv_at hl 0 rfl) ?_
  refine W.objInit hx hb C.2.2.1 (ml_X12_1 C.hA) (im_java_lang_Object__init___V C.hA) (cd_java_lang_Object__init___V C.hA) rfl (hl.1.trans C.2.2.2.1.symm) rfl dX12_init_1 (Nat.le_of_ble_eq_true rfl) (Nat.le_of_ble_eq_true rfl) ?_
  refine W.eq (g2 := F0 m 4 ls []) rfl ?_
  refine lv_aload_n hx hb dX12_init_4 rfl (lv_at hl 0 rfl) ?_
  refine lv_bipush (v := (6 : Int32)) hx hb dX12_init_5 (by decide) ?_
  obtain ⟨g1, h⟩ := h
  obtain ⟨g2, h⟩ := h
  obtain ⟨g3, h⟩ := h
  obtain ⟨g4, h⟩ := h
  obtain ⟨g5, h⟩ := h
  refine q_size hB hP hn0 (fun hz => ?_)
  refine q_newr (C.cut hB _) hP hz (cl_X12_7 C.hA) (ao_object_java_lang_String C.hA) rfl (by decide) (by decide) (by decide) g1 g2 g3 (by decide) g4 g5 dX12_init_7 (fun H hP => ?_)
  refine W.cs (cells' := 1) (slots' := 6) rfl rfl ?_
  have hP : Hp (cut G (n0 + 1)) u s H _ := hP
  refine lv_dup hx hb dX12_init_10 rfl ?_
  refine lv_iconst (v := (0 : Int32)) hx hb dX12_init_11 (by decide) ?_
  refine q_lds C 28 (by decide) rfl rfl dX12_init_12 ?_
  obtain ⟨g6, h⟩ := h
  obtain ⟨g7, h⟩ := h
  refine q_aastS (C.cut hB _) hP 28 (by decide) g6 g7 dX12_init_14 (fun H locs hP => ?_)
  obtain ⟨u_14, eu_14, hP⟩ := Hp.nm hP
  have h := h u_14 eu_14
  refine lv_dup hx hb dX12_init_15 rfl ?_
  refine lv_iconst (v := (1 : Int32)) hx hb dX12_init_16 (by decide) ?_
  refine q_lds C 29 (by decide) rfl rfl dX12_init_17 ?_
  obtain ⟨g8, h⟩ := h
  refine q_aastS (C.cut hB _) hP 29 (by decide) g6 g8 dX12_init_19 (fun H locs hP => ?_)
  obtain ⟨u_19, eu_19, hP⟩ := Hp.nm hP
  have h := h u_19 eu_19
  refine lv_dup hx hb dX12_init_20 rfl ?_
  refine lv_iconst (v := (2 : Int32)) hx hb dX12_init_21 (by decide) ?_
  refine q_lds C 30 (by decide) rfl rfl dX12_init_22 ?_
  obtain ⟨g9, h⟩ := h
  refine q_aastS (C.cut hB _) hP 30 (by decide) g6 g9 dX12_init_24 (fun H locs hP => ?_)
  obtain ⟨u_24, eu_24, hP⟩ := Hp.nm hP
  have h := h u_24 eu_24
  refine lv_dup hx hb dX12_init_25 rfl ?_
  refine lv_iconst (v := (3 : Int32)) hx hb dX12_init_26 (by decide) ?_
  refine q_lds C 31 (by decide) rfl rfl dX12_init_27 ?_
  obtain ⟨g10, h⟩ := h
  refine q_aastS (C.cut hB _) hP 31 (by decide) g6 g10 dX12_init_29 (fun H locs hP => ?_)
  obtain ⟨u_29, eu_29, hP⟩ := Hp.nm hP
  have h := h u_29 eu_29
  refine lv_dup hx hb dX12_init_30 rfl ?_
  refine lv_iconst (v := (4 : Int32)) hx hb dX12_init_31 (by decide) ?_
  refine q_lds C 32 (by decide) rfl rfl dX12_init_32 ?_
  obtain ⟨g11, h⟩ := h
  refine q_aastS (C.cut hB _) hP 32 (by decide) g6 g11 dX12_init_34 (fun H locs hP => ?_)
  obtain ⟨u_34, eu_34, hP⟩ := Hp.nm hP
  have h := h u_34 eu_34
  refine lv_dup hx hb dX12_init_35 rfl ?_
  refine lv_iconst (v := (5 : Int32)) hx hb dX12_init_36 (by decide) ?_
  refine q_lds C 33 (by decide) rfl rfl dX12_init_37 ?_
  obtain ⟨g12, h⟩ := h
  refine q_aastS (C.cut hB _) hP 33 (by decide) g6 g12 dX12_init_39 (fun H locs hP => ?_)
  obtain ⟨u_39, eu_39, hP⟩ := Hp.nm hP
  have h := h u_39 eu_39
  obtain ⟨g13, h⟩ := h
  obtain ⟨g14, h⟩ := h
  refine q_putFR (C.cut hB _) hP hnm (k := 0) tyX12_ok nmX12 (lay_X12 C.hA) rfl (by decide) rfl rfl rfl rfl rfl g13 g14 (fl_X12_21 C.hA) dX12_init_40 (fun H locs hP => ?_)
  obtain ⟨u_40, eu_40, hP⟩ := Hp.nm hP
  have h := h u_40 eu_40
  refine lv_aload_n hx hb dX12_init_43 rfl (lv_at hl 0 rfl) ?_
  refine lv_bipush (v := (7 : Int32)) hx hb dX12_init_44 (by decide) ?_
  obtain ⟨g15, h⟩ := h
  obtain ⟨g16, h⟩ := h
  obtain ⟨g17, h⟩ := h
  obtain ⟨g18, h⟩ := h
  obtain ⟨g19, h⟩ := h
  refine q_size hB hP hn0 (fun hz => ?_)
  refine q_newi (C.cut hB _) hP hz (by decide) (by decide) g15 g16 g17 (by decide) g18 g19 dX12_init_46 (fun H hP => ?_)
  refine W.cs (cells' := 2) (slots' := 13) rfl rfl ?_
  have hP : Hp (cut G (n0 + 2)) u_40 s H _ := hP
  obtain ⟨g20, h⟩ := h
  obtain ⟨g21, h⟩ := h
  refine q_putFR (C.cut hB _) hP hnm (k := 2) tyX12_ok nmX12 (lay_X12 C.hA) rfl (by decide) rfl rfl rfl rfl rfl g20 g21 (fl_X12_27 C.hA) dX12_init_48 (fun H locs hP => ?_)
  obtain ⟨u_48, eu_48, hP⟩ := Hp.nm hP
  have h := h u_48 eu_48
  refine lv_aload_n hx hb dX12_init_51 rfl (lv_at hl 0 rfl) ?_
  refine lv_bipush (v := (7 : Int32)) hx hb dX12_init_52 (by decide) ?_
  obtain ⟨g22, h⟩ := h
  obtain ⟨g23, h⟩ := h
  obtain ⟨g24, h⟩ := h
  obtain ⟨g25, h⟩ := h
  obtain ⟨g26, h⟩ := h
  refine q_size hB hP hn0 (fun hz => ?_)
  refine q_newi (C.cut hB _) hP hz (by decide) (by decide) g22 g23 g24 (by decide) g25 g26 dX12_init_54 (fun H hP => ?_)
  refine W.cs (cells' := 3) (slots' := 20) rfl rfl ?_
  have hP : Hp (cut G (n0 + 3)) u_48 s H _ := hP
  obtain ⟨g27, h⟩ := h
  obtain ⟨g28, h⟩ := h
  refine q_putFR (C.cut hB _) hP hnm (k := 3) tyX12_ok nmX12 (lay_X12 C.hA) rfl (by decide) rfl rfl rfl rfl rfl g27 g28 (fl_X12_31 C.hA) dX12_init_56 (fun H locs hP => ?_)
  obtain ⟨u_56, eu_56, hP⟩ := Hp.nm hP
  have h := h u_56 eu_56
  refine lv_aload_n hx hb dX12_init_59 rfl (lv_at hl 0 rfl) ?_
  refine lv_bipush (v := (7 : Int32)) hx hb dX12_init_60 (by decide) ?_
  obtain ⟨g29, h⟩ := h
  obtain ⟨g30, h⟩ := h
  obtain ⟨g31, h⟩ := h
  obtain ⟨g32, h⟩ := h
  obtain ⟨g33, h⟩ := h
  refine q_size hB hP hn0 (fun hz => ?_)
  refine q_newi (C.cut hB _) hP hz (by decide) (by decide) g29 g30 g31 (by decide) g32 g33 dX12_init_62 (fun H hP => ?_)
  refine W.cs (cells' := 4) (slots' := 27) rfl rfl ?_
  have hP : Hp (cut G (n0 + 4)) u_56 s H _ := hP
  obtain ⟨g34, h⟩ := h
  obtain ⟨g35, h⟩ := h
  refine q_putFR (C.cut hB _) hP hnm (k := 4) tyX12_ok nmX12 (lay_X12 C.hA) rfl (by decide) rfl rfl rfl rfl rfl g34 g35 (fl_X12_34 C.hA) dX12_init_64 (fun H locs hP => ?_)
  obtain ⟨u_64, eu_64, hP⟩ := Hp.nm hP
  have h := h u_64 eu_64
  refine lv_aload_n hx hb dX12_init_67 rfl (lv_at hl 0 rfl) ?_
  refine lv_bipush (v := (7 : Int32)) hx hb dX12_init_68 (by decide) ?_
  obtain ⟨g36, h⟩ := h
  obtain ⟨g37, h⟩ := h
  obtain ⟨g38, h⟩ := h
  obtain ⟨g39, h⟩ := h
  obtain ⟨g40, h⟩ := h
  refine q_size hB hP hn0 (fun hz => ?_)
  refine q_newi (C.cut hB _) hP hz (by decide) (by decide) g36 g37 g38 (by decide) g39 g40 dX12_init_70 (fun H hP => ?_)
  refine W.cs (cells' := 5) (slots' := 34) rfl rfl ?_
  have hP : Hp (cut G (n0 + 5)) u_64 s H _ := hP
  obtain ⟨g41, h⟩ := h
  obtain ⟨g42, h⟩ := h
  refine q_putFR (C.cut hB _) hP hnm (k := 5) tyX12_ok nmX12 (lay_X12 C.hA) rfl (by decide) rfl rfl rfl rfl rfl g41 g42 (fl_X12_37 C.hA) dX12_init_72 (fun H locs hP => ?_)
  obtain ⟨u_72, eu_72, hP⟩ := Hp.nm hP
  have h := h u_72 eu_72
  refine lv_aload_n hx hb dX12_init_75 rfl (lv_at hl 0 rfl) ?_
  refine lv_bipush (v := (7 : Int32)) hx hb dX12_init_76 (by decide) ?_
  obtain ⟨g43, h⟩ := h
  obtain ⟨g44, h⟩ := h
  obtain ⟨g45, h⟩ := h
  obtain ⟨g46, h⟩ := h
  obtain ⟨g47, h⟩ := h
  refine q_size hB hP hn0 (fun hz => ?_)
  refine q_newi (C.cut hB _) hP hz (by decide) (by decide) g43 g44 g45 (by decide) g46 g47 dX12_init_78 (fun H hP => ?_)
  refine W.cs (cells' := 6) (slots' := 41) rfl rfl ?_
  have hP : Hp (cut G (n0 + 6)) u_72 s H _ := hP
  obtain ⟨g48, h⟩ := h
  obtain ⟨g49, h⟩ := h
  refine q_putFR (C.cut hB _) hP hnm (k := 6) tyX12_ok nmX12 (lay_X12 C.hA) rfl (by decide) rfl rfl rfl rfl rfl g48 g49 (fl_X12_39 C.hA) dX12_init_80 (fun H locs hP => ?_)
  obtain ⟨u_80, eu_80, hP⟩ := Hp.nm hP
  have h := h u_80 eu_80
  refine lv_aload_n hx hb dX12_init_83 rfl (lv_at hl 0 rfl) ?_
  refine lv_sipush (v := (280 : Int32)) hx hb dX12_init_84 (by decide) ?_
  obtain ⟨g50, h⟩ := h
  obtain ⟨g51, h⟩ := h
  obtain ⟨g52, h⟩ := h
  obtain ⟨g53, h⟩ := h
  obtain ⟨g54, h⟩ := h
  refine q_size hB hP hn0 (fun hz => ?_)
  refine q_newi (C.cut hB _) hP hz (by decide) (by decide) g50 g51 g52 (by decide) g53 g54 dX12_init_87 (fun H hP => ?_)
  refine W.cs (cells' := 7) (slots' := 321) rfl rfl ?_
  have hP : Hp (cut G (n0 + 7)) u_80 s H _ := hP
  obtain ⟨g55, h⟩ := h
  obtain ⟨g56, h⟩ := h
  refine q_putFR (C.cut hB _) hP hnm (k := 7) tyX12_ok nmX12 (lay_X12 C.hA) rfl (by decide) rfl rfl rfl rfl rfl g55 g56 (fl_X12_41 C.hA) dX12_init_89 (fun H locs hP => ?_)
  obtain ⟨u_89, eu_89, hP⟩ := Hp.nm hP
  have h := h u_89 eu_89
  refine lv_aload_n hx hb dX12_init_92 rfl (lv_at hl 0 rfl) ?_
  refine lv_sipush (v := (280 : Int32)) hx hb dX12_init_93 (by decide) ?_
  obtain ⟨g57, h⟩ := h
  obtain ⟨g58, h⟩ := h
  obtain ⟨g59, h⟩ := h
  obtain ⟨g60, h⟩ := h
  obtain ⟨g61, h⟩ := h
  refine q_size hB hP hn0 (fun hz => ?_)
  refine q_newi (C.cut hB _) hP hz (by decide) (by decide) g57 g58 g59 (by decide) g60 g61 dX12_init_96 (fun H hP => ?_)
  refine W.cs (cells' := 8) (slots' := 601) rfl rfl ?_
  have hP : Hp (cut G (n0 + 8)) u_89 s H _ := hP
  obtain ⟨g62, h⟩ := h
  obtain ⟨g63, h⟩ := h
  refine q_putFR (C.cut hB _) hP hnm (k := 8) tyX12_ok nmX12 (lay_X12 C.hA) rfl (by decide) rfl rfl rfl rfl rfl g62 g63 (fl_X12_44 C.hA) dX12_init_98 (fun H locs hP => ?_)
  obtain ⟨u_98, eu_98, hP⟩ := Hp.nm hP
  have h := h u_98 eu_98
  refine lv_aload_n hx hb dX12_init_101 rfl (lv_at hl 0 rfl) ?_
  refine lv_sipush (v := (196 : Int32)) hx hb dX12_init_102 (by decide) ?_
  obtain ⟨g64, h⟩ := h
  obtain ⟨g65, h⟩ := h
  obtain ⟨g66, h⟩ := h
  obtain ⟨g67, h⟩ := h
  obtain ⟨g68, h⟩ := h
  refine q_size hB hP hn0 (fun hz => ?_)
  refine q_newi (C.cut hB _) hP hz (by decide) (by decide) g64 g65 g66 (by decide) g67 g68 dX12_init_105 (fun H hP => ?_)
  refine W.cs (cells' := 9) (slots' := 797) rfl rfl ?_
  have hP : Hp (cut G (n0 + 9)) u_98 s H _ := hP
  obtain ⟨g69, h⟩ := h
  obtain ⟨g70, h⟩ := h
  refine q_putFR (C.cut hB _) hP hnm (k := 9) tyX12_ok nmX12 (lay_X12 C.hA) rfl (by decide) rfl rfl rfl rfl rfl g69 g70 (fl_X12_46 C.hA) dX12_init_107 (fun H locs hP => ?_)
  obtain ⟨u_107, eu_107, hP⟩ := Hp.nm hP
  have h := h u_107 eu_107
  refine lv_aload_n hx hb dX12_init_110 rfl (lv_at hl 0 rfl) ?_
  refine lv_iconst (v := (4 : Int32)) hx hb dX12_init_111 (by decide) ?_
  obtain ⟨g71, h⟩ := h
  obtain ⟨g72, h⟩ := h
  obtain ⟨g73, h⟩ := h
  obtain ⟨g74, h⟩ := h
  obtain ⟨g75, h⟩ := h
  refine q_size hB hP hn0 (fun hz => ?_)
  refine q_newi (C.cut hB _) hP hz (by decide) (by decide) g71 g72 g73 (by decide) g74 g75 dX12_init_112 (fun H hP => ?_)
  refine W.cs (cells' := 10) (slots' := 801) rfl rfl ?_
  have hP : Hp (cut G (n0 + 10)) u_107 s H _ := hP
  obtain ⟨g76, h⟩ := h
  obtain ⟨g77, h⟩ := h
  refine q_putFR (C.cut hB _) hP hnm (k := 10) tyX12_ok nmX12 (lay_X12 C.hA) rfl (by decide) rfl rfl rfl rfl rfl g76 g77 (fl_X12_48 C.hA) dX12_init_114 (fun H locs hP => ?_)
  obtain ⟨u_114, eu_114, hP⟩ := Hp.nm hP
  have h := h u_114 eu_114
  refine lv_aload_n hx hb dX12_init_117 rfl (lv_at hl 0 rfl) ?_
  refine lv_sipush (v := (700 : Int32)) hx hb dX12_init_118 (by decide) ?_
  obtain ⟨g78, h⟩ := h
  obtain ⟨g79, h⟩ := h
  obtain ⟨g80, h⟩ := h
  obtain ⟨g81, h⟩ := h
  obtain ⟨g82, h⟩ := h
  refine q_size hB hP hn0 (fun hz => ?_)
  refine q_newi (C.cut hB _) hP hz (by decide) (by decide) g78 g79 g80 (by decide) g81 g82 dX12_init_121 (fun H hP => ?_)
  refine W.cs (cells' := 11) (slots' := 1501) rfl rfl ?_
  have hP : Hp (cut G (n0 + 11)) u_114 s H _ := hP
  obtain ⟨g83, h⟩ := h
  obtain ⟨g84, h⟩ := h
  refine q_putFR (C.cut hB _) hP hnm (k := 11) tyX12_ok nmX12 (lay_X12 C.hA) rfl (by decide) rfl rfl rfl rfl rfl g83 g84 (fl_X12_51 C.hA) dX12_init_123 (fun H locs hP => ?_)
  obtain ⟨u_123, eu_123, hP⟩ := Hp.nm hP
  have h := h u_123 eu_123
  refine lv_aload_n hx hb dX12_init_126 rfl (lv_at hl 0 rfl) ?_
  refine lv_iconst (v := (-1 : Int32)) hx hb dX12_init_127 (by decide) ?_
  refine q_putI (C.cut hB _) hP (k := 21) tyX12_ok nmX12 (lay_X12 C.hA) rfl (by decide) rfl rfl rfl rfl g83 (fl_X12_54 C.hA) dX12_init_128 (fun H locs hP => ?_)
  obtain ⟨u_128, eu_128, hP⟩ := Hp.nm hP
  have h := h u_128 eu_128
  refine lv_aload_n hx hb dX12_init_131 rfl (lv_at hl 0 rfl) ?_
  refine lv_bipush (v := (80 : Int32)) hx hb dX12_init_132 (by decide) ?_
  obtain ⟨g85, h⟩ := h
  obtain ⟨g86, h⟩ := h
  obtain ⟨g87, h⟩ := h
  obtain ⟨g88, h⟩ := h
  obtain ⟨g89, h⟩ := h
  refine q_size hB hP hn0 (fun hz => ?_)
  refine q_newi (C.cut hB _) hP hz (by decide) (by decide) g85 g86 g87 (by decide) g88 g89 dX12_init_134 (fun H hP => ?_)
  refine W.cs (cells' := 12) (slots' := 1581) rfl rfl ?_
  have hP : Hp (cut G (n0 + 12)) u_128 s H _ := hP
  obtain ⟨g90, h⟩ := h
  obtain ⟨g91, h⟩ := h
  refine q_putFR (C.cut hB _) hP hnm (k := 22) tyX12_ok nmX12 (lay_X12 C.hA) rfl (by decide) rfl rfl rfl rfl rfl g90 g91 (fl_X12_58 C.hA) dX12_init_136 (fun H locs hP => ?_)
  obtain ⟨u_136, eu_136, hP⟩ := Hp.nm hP
  have h := h u_136 eu_136
  refine lv_aload_n hx hb dX12_init_139 rfl (lv_at hl 0 rfl) ?_
  refine lv_bipush (v := (80 : Int32)) hx hb dX12_init_140 (by decide) ?_
  obtain ⟨g92, h⟩ := h
  obtain ⟨g93, h⟩ := h
  obtain ⟨g94, h⟩ := h
  obtain ⟨g95, h⟩ := h
  obtain ⟨g96, h⟩ := h
  refine q_size hB hP hn0 (fun hz => ?_)
  refine q_newi (C.cut hB _) hP hz (by decide) (by decide) g92 g93 g94 (by decide) g95 g96 dX12_init_142 (fun H hP => ?_)
  refine W.cs (cells' := 13) (slots' := 1661) rfl rfl ?_
  have hP : Hp (cut G (n0 + 13)) u_136 s H _ := hP
  obtain ⟨g97, h⟩ := h
  obtain ⟨g98, h⟩ := h
  refine q_putFR (C.cut hB _) hP hnm (k := 23) tyX12_ok nmX12 (lay_X12 C.hA) rfl (by decide) rfl rfl rfl rfl rfl g97 g98 (fl_X12_61 C.hA) dX12_init_144 (fun H locs hP => ?_)
  obtain ⟨u_144, eu_144, hP⟩ := Hp.nm hP
  have h := h u_144 eu_144
  refine lv_aload_n hx hb dX12_init_147 rfl (lv_at hl 0 rfl) ?_
  refine lv_bipush (v := (80 : Int32)) hx hb dX12_init_148 (by decide) ?_
  obtain ⟨g99, h⟩ := h
  obtain ⟨g100, h⟩ := h
  obtain ⟨g101, h⟩ := h
  obtain ⟨g102, h⟩ := h
  obtain ⟨g103, h⟩ := h
  refine q_size hB hP hn0 (fun hz => ?_)
  refine q_newi (C.cut hB _) hP hz (by decide) (by decide) g99 g100 g101 (by decide) g102 g103 dX12_init_150 (fun H hP => ?_)
  refine W.cs (cells' := 14) (slots' := 1741) rfl rfl ?_
  have hP : Hp (cut G (n0 + 14)) u_144 s H _ := hP
  obtain ⟨g104, h⟩ := h
  obtain ⟨g105, h⟩ := h
  refine q_putFR (C.cut hB _) hP hnm (k := 24) tyX12_ok nmX12 (lay_X12 C.hA) rfl (by decide) rfl rfl rfl rfl rfl g104 g105 (fl_X12_64 C.hA) dX12_init_152 (fun H locs hP => ?_)
  obtain ⟨u_152, eu_152, hP⟩ := Hp.nm hP
  have h := h u_152 eu_152
  refine lv_aload_n hx hb dX12_init_155 rfl (lv_at hl 0 rfl) ?_
  refine lv_bipush (v := (80 : Int32)) hx hb dX12_init_156 (by decide) ?_
  obtain ⟨g106, h⟩ := h
  obtain ⟨g107, h⟩ := h
  obtain ⟨g108, h⟩ := h
  obtain ⟨g109, h⟩ := h
  obtain ⟨g110, h⟩ := h
  refine q_size hB hP hn0 (fun hz => ?_)
  refine q_newi (C.cut hB _) hP hz (by decide) (by decide) g106 g107 g108 (by decide) g109 g110 dX12_init_158 (fun H hP => ?_)
  refine W.cs (cells' := 15) (slots' := 1821) rfl rfl ?_
  have hP : Hp (cut G (n0 + 15)) u_152 s H _ := hP
  obtain ⟨g111, h⟩ := h
  obtain ⟨g112, h⟩ := h
  refine q_putFR (C.cut hB _) hP hnm (k := 25) tyX12_ok nmX12 (lay_X12 C.hA) rfl (by decide) rfl rfl rfl rfl rfl g111 g112 (fl_X12_67 C.hA) dX12_init_160 (fun H locs hP => ?_)
  obtain ⟨u_160, eu_160, hP⟩ := Hp.nm hP
  have h := h u_160 eu_160
  refine lv_aload_n hx hb dX12_init_163 rfl (lv_at hl 0 rfl) ?_
  refine lv_bipush (v := (20 : Int32)) hx hb dX12_init_164 (by decide) ?_
  obtain ⟨g113, h⟩ := h
  obtain ⟨g114, h⟩ := h
  obtain ⟨g115, h⟩ := h
  obtain ⟨g116, h⟩ := h
  obtain ⟨g117, h⟩ := h
  refine q_size hB hP hn0 (fun hz => ?_)
  refine q_newi (C.cut hB _) hP hz (by decide) (by decide) g113 g114 g115 (by decide) g116 g117 dX12_init_166 (fun H hP => ?_)
  refine W.cs (cells' := 16) (slots' := 1841) rfl rfl ?_
  have hP : Hp (cut G (n0 + 16)) u_160 s H _ := hP
  obtain ⟨g118, h⟩ := h
  obtain ⟨g119, h⟩ := h
  refine q_putFR (C.cut hB _) hP hnm (k := 29) tyX12_ok nmX12 (lay_X12 C.hA) rfl (by decide) rfl rfl rfl rfl rfl g118 g119 (fl_X12_70 C.hA) dX12_init_168 (fun H locs hP => ?_)
  obtain ⟨u_168, eu_168, hP⟩ := Hp.nm hP
  have h := h u_168 eu_168
  refine lv_aload_n hx hb dX12_init_171 rfl (lv_at hl 0 rfl) ?_
  refine lv_bipush (v := (20 : Int32)) hx hb dX12_init_172 (by decide) ?_
  obtain ⟨g120, h⟩ := h
  obtain ⟨g121, h⟩ := h
  obtain ⟨g122, h⟩ := h
  obtain ⟨g123, h⟩ := h
  obtain ⟨g124, h⟩ := h
  refine q_size hB hP hn0 (fun hz => ?_)
  refine q_newi (C.cut hB _) hP hz (by decide) (by decide) g120 g121 g122 (by decide) g123 g124 dX12_init_174 (fun H hP => ?_)
  refine W.cs (cells' := 17) (slots' := 1861) rfl rfl ?_
  have hP : Hp (cut G (n0 + 17)) u_168 s H _ := hP
  obtain ⟨g125, h⟩ := h
  obtain ⟨g126, h⟩ := h
  refine q_putFR (C.cut hB _) hP hnm (k := 30) tyX12_ok nmX12 (lay_X12 C.hA) rfl (by decide) rfl rfl rfl rfl rfl g125 g126 (fl_X12_73 C.hA) dX12_init_176 (fun H locs hP => ?_)
  obtain ⟨u_176, eu_176, hP⟩ := Hp.nm hP
  have h := h u_176 eu_176
  refine lv_aload_n hx hb dX12_init_179 rfl (lv_at hl 0 rfl) ?_
  refine lv_bipush (v := (20 : Int32)) hx hb dX12_init_180 (by decide) ?_
  obtain ⟨g127, h⟩ := h
  obtain ⟨g128, h⟩ := h
  obtain ⟨g129, h⟩ := h
  obtain ⟨g130, h⟩ := h
  obtain ⟨g131, h⟩ := h
  refine q_size hB hP hn0 (fun hz => ?_)
  refine q_newi (C.cut hB _) hP hz (by decide) (by decide) g127 g128 g129 (by decide) g130 g131 dX12_init_182 (fun H hP => ?_)
  refine W.cs (cells' := 18) (slots' := 1881) rfl rfl ?_
  have hP : Hp (cut G (n0 + 18)) u_176 s H _ := hP
  obtain ⟨g132, h⟩ := h
  obtain ⟨g133, h⟩ := h
  refine q_putFR (C.cut hB _) hP hnm (k := 31) tyX12_ok nmX12 (lay_X12 C.hA) rfl (by decide) rfl rfl rfl rfl rfl g132 g133 (fl_X12_76 C.hA) dX12_init_184 (fun H locs hP => ?_)
  obtain ⟨u_184, eu_184, hP⟩ := Hp.nm hP
  have h := h u_184 eu_184
  refine lv_aload_n hx hb dX12_init_187 rfl (lv_at hl 0 rfl) ?_
  refine lv_bipush (v := (20 : Int32)) hx hb dX12_init_188 (by decide) ?_
  obtain ⟨g134, h⟩ := h
  obtain ⟨g135, h⟩ := h
  obtain ⟨g136, h⟩ := h
  obtain ⟨g137, h⟩ := h
  obtain ⟨g138, h⟩ := h
  refine q_size hB hP hn0 (fun hz => ?_)
  refine q_newi (C.cut hB _) hP hz (by decide) (by decide) g134 g135 g136 (by decide) g137 g138 dX12_init_190 (fun H hP => ?_)
  refine W.cs (cells' := 19) (slots' := 1901) rfl rfl ?_
  have hP : Hp (cut G (n0 + 19)) u_184 s H _ := hP
  obtain ⟨g139, h⟩ := h
  obtain ⟨g140, h⟩ := h
  refine q_putFR (C.cut hB _) hP hnm (k := 32) tyX12_ok nmX12 (lay_X12 C.hA) rfl (by decide) rfl rfl rfl rfl rfl g139 g140 (fl_X12_79 C.hA) dX12_init_192 (fun H locs hP => ?_)
  obtain ⟨u_192, eu_192, hP⟩ := Hp.nm hP
  have h := h u_192 eu_192
  refine lv_aload_n hx hb dX12_init_195 rfl (lv_at hl 0 rfl) ?_
  refine lv_bipush (v := (20 : Int32)) hx hb dX12_init_196 (by decide) ?_
  obtain ⟨g141, h⟩ := h
  obtain ⟨g142, h⟩ := h
  obtain ⟨g143, h⟩ := h
  obtain ⟨g144, h⟩ := h
  obtain ⟨g145, h⟩ := h
  refine q_size hB hP hn0 (fun hz => ?_)
  refine q_newi (C.cut hB _) hP hz (by decide) (by decide) g141 g142 g143 (by decide) g144 g145 dX12_init_198 (fun H hP => ?_)
  refine W.cs (cells' := 20) (slots' := 1921) rfl rfl ?_
  have hP : Hp (cut G (n0 + 20)) u_192 s H _ := hP
  obtain ⟨g146, h⟩ := h
  obtain ⟨g147, h⟩ := h
  refine q_putFR (C.cut hB _) hP hnm (k := 33) tyX12_ok nmX12 (lay_X12 C.hA) rfl (by decide) rfl rfl rfl rfl rfl g146 g147 (fl_X12_82 C.hA) dX12_init_200 (fun H locs hP => ?_)
  obtain ⟨u_200, eu_200, hP⟩ := Hp.nm hP
  have h := h u_200 eu_200
  refine lv_aload_n hx hb dX12_init_203 rfl (lv_at hl 0 rfl) ?_
  refine lv_sipush (v := (240 : Int32)) hx hb dX12_init_204 (by decide) ?_
  obtain ⟨g148, h⟩ := h
  obtain ⟨g149, h⟩ := h
  obtain ⟨g150, h⟩ := h
  obtain ⟨g151, h⟩ := h
  obtain ⟨g152, h⟩ := h
  refine q_size hB hP hn0 (fun hz => ?_)
  refine q_newi (C.cut hB _) hP hz (by decide) (by decide) g148 g149 g150 (by decide) g151 g152 dX12_init_207 (fun H hP => ?_)
  refine W.cs (cells' := 21) (slots' := 2161) rfl rfl ?_
  have hP : Hp (cut G (n0 + 21)) u_200 s H _ := hP
  obtain ⟨g153, h⟩ := h
  obtain ⟨g154, h⟩ := h
  refine q_putFR (C.cut hB _) hP hnm (k := 34) tyX12_ok nmX12 (lay_X12 C.hA) rfl (by decide) rfl rfl rfl rfl rfl g153 g154 (fl_X12_85 C.hA) dX12_init_209 (fun H locs hP => ?_)
  obtain ⟨u_209, eu_209, hP⟩ := Hp.nm hP
  have h := h u_209 eu_209
  refine lv_aload_n hx hb dX12_init_212 rfl (lv_at hl 0 rfl) ?_
  refine lv_sipush (v := (240 : Int32)) hx hb dX12_init_213 (by decide) ?_
  obtain ⟨g155, h⟩ := h
  obtain ⟨g156, h⟩ := h
  obtain ⟨g157, h⟩ := h
  obtain ⟨g158, h⟩ := h
  obtain ⟨g159, h⟩ := h
  refine q_size hB hP hn0 (fun hz => ?_)
  refine q_newi (C.cut hB _) hP hz (by decide) (by decide) g155 g156 g157 (by decide) g158 g159 dX12_init_216 (fun H hP => ?_)
  refine W.cs (cells' := 22) (slots' := 2401) rfl rfl ?_
  have hP : Hp (cut G (n0 + 22)) u_209 s H _ := hP
  obtain ⟨g160, h⟩ := h
  obtain ⟨g161, h⟩ := h
  refine q_putFR (C.cut hB _) hP hnm (k := 35) tyX12_ok nmX12 (lay_X12 C.hA) rfl (by decide) rfl rfl rfl rfl rfl g160 g161 (fl_X12_88 C.hA) dX12_init_218 (fun H locs hP => ?_)
  obtain ⟨u_218, eu_218, hP⟩ := Hp.nm hP
  have h := h u_218 eu_218
  refine lv_aload_n hx hb dX12_init_221 rfl (lv_at hl 0 rfl) ?_
  refine lv_bipush (v := (8 : Int32)) hx hb dX12_init_222 (by decide) ?_
  obtain ⟨g162, h⟩ := h
  obtain ⟨g163, h⟩ := h
  obtain ⟨g164, h⟩ := h
  obtain ⟨g165, h⟩ := h
  obtain ⟨g166, h⟩ := h
  refine q_size hB hP hn0 (fun hz => ?_)
  refine q_newi (C.cut hB _) hP hz (by decide) (by decide) g162 g163 g164 (by decide) g165 g166 dX12_init_224 (fun H hP => ?_)
  refine W.cs (cells' := 23) (slots' := 2409) rfl rfl ?_
  have hP : Hp (cut G (n0 + 23)) u_218 s H _ := hP
  obtain ⟨g167, h⟩ := h
  obtain ⟨g168, h⟩ := h
  refine q_putFR (C.cut hB _) hP hnm (k := 36) tyX12_ok nmX12 (lay_X12 C.hA) rfl (by decide) rfl rfl rfl rfl rfl g167 g168 (fl_X12_91 C.hA) dX12_init_226 (fun H locs hP => ?_)
  obtain ⟨u_226, eu_226, hP⟩ := Hp.nm hP
  have h := h u_226 eu_226
  refine lv_aload_n hx hb dX12_init_229 rfl (lv_at hl 0 rfl) ?_
  refine lv_bipush (v := (8 : Int32)) hx hb dX12_init_230 (by decide) ?_
  obtain ⟨g169, h⟩ := h
  obtain ⟨g170, h⟩ := h
  obtain ⟨g171, h⟩ := h
  obtain ⟨g172, h⟩ := h
  obtain ⟨g173, h⟩ := h
  refine q_size hB hP hn0 (fun hz => ?_)
  refine q_newi (C.cut hB _) hP hz (by decide) (by decide) g169 g170 g171 (by decide) g172 g173 dX12_init_232 (fun H hP => ?_)
  refine W.cs (cells' := 24) (slots' := 2417) rfl rfl ?_
  have hP : Hp (cut G (n0 + 24)) u_226 s H _ := hP
  obtain ⟨g174, h⟩ := h
  obtain ⟨g175, h⟩ := h
  refine q_putFR (C.cut hB _) hP hnm (k := 37) tyX12_ok nmX12 (lay_X12 C.hA) rfl (by decide) rfl rfl rfl rfl rfl g174 g175 (fl_X12_94 C.hA) dX12_init_234 (fun H locs hP => ?_)
  obtain ⟨u_234, eu_234, hP⟩ := Hp.nm hP
  have h := h u_234 eu_234
  refine lv_aload_n hx hb dX12_init_237 rfl (lv_at hl 0 rfl) ?_
  refine lv_sipush (v := (1640 : Int32)) hx hb dX12_init_238 (by decide) ?_
  obtain ⟨g176, h⟩ := h
  obtain ⟨g177, h⟩ := h
  obtain ⟨g178, h⟩ := h
  obtain ⟨g179, h⟩ := h
  obtain ⟨g180, h⟩ := h
  refine q_size hB hP hn0 (fun hz => ?_)
  refine q_newi (C.cut hB _) hP hz (by decide) (by decide) g176 g177 g178 (by decide) g179 g180 dX12_init_241 (fun H hP => ?_)
  refine W.cs (cells' := 25) (slots' := 4057) rfl rfl ?_
  have hP : Hp (cut G (n0 + 25)) u_234 s H _ := hP
  obtain ⟨g181, h⟩ := h
  obtain ⟨g182, h⟩ := h
  refine q_putFR (C.cut hB _) hP hnm (k := 38) tyX12_ok nmX12 (lay_X12 C.hA) rfl (by decide) rfl rfl rfl rfl rfl g181 g182 (fl_X12_97 C.hA) dX12_init_243 (fun H locs hP => ?_)
  obtain ⟨u_243, eu_243, hP⟩ := Hp.nm hP
  have h := h u_243 eu_243
  refine lv_aload_n hx hb dX12_init_246 rfl (lv_at hl 0 rfl) ?_
  refine lv_bipush (v := (20 : Int32)) hx hb dX12_init_247 (by decide) ?_
  obtain ⟨g183, h⟩ := h
  obtain ⟨g184, h⟩ := h
  obtain ⟨g185, h⟩ := h
  obtain ⟨g186, h⟩ := h
  obtain ⟨g187, h⟩ := h
  refine q_size hB hP hn0 (fun hz => ?_)
  refine q_newi (C.cut hB _) hP hz (by decide) (by decide) g183 g184 g185 (by decide) g186 g187 dX12_init_249 (fun H hP => ?_)
  refine W.cs (cells' := 26) (slots' := 4077) rfl rfl ?_
  have hP : Hp (cut G (n0 + 26)) u_243 s H _ := hP
  obtain ⟨g188, h⟩ := h
  obtain ⟨g189, h⟩ := h
  refine q_putFR (C.cut hB _) hP hnm (k := 39) tyX12_ok nmX12 (lay_X12 C.hA) rfl (by decide) rfl rfl rfl rfl rfl g188 g189 (fl_X12_100 C.hA) dX12_init_251 (fun H locs hP => ?_)
  obtain ⟨u_251, eu_251, hP⟩ := Hp.nm hP
  have h := h u_251 eu_251
  refine lv_aload_n hx hb dX12_init_254 rfl (lv_at hl 0 rfl) ?_
  refine lv_ldc (v := (100000 : Int32)) hx hb C.2.2.1 (kc_X12_103 C.hA) dX12_init_255 ?_
  obtain ⟨g190, h⟩ := h
  obtain ⟨g191, h⟩ := h
  obtain ⟨g192, h⟩ := h
  obtain ⟨g193, h⟩ := h
  obtain ⟨g194, h⟩ := h
  refine q_size hB hP hn0 (fun hz => ?_)
  refine q_newi (C.cut hB _) hP hz (by decide) (by decide) g190 g191 g192 (by decide) g193 g194 dX12_init_257 (fun H hP => ?_)
  refine W.cs (cells' := 27) (slots' := 104077) rfl rfl ?_
  have hP : Hp (cut G (n0 + 27)) u_251 s H _ := hP
  obtain ⟨g195, h⟩ := h
  obtain ⟨g196, h⟩ := h
  refine q_putFR (C.cut hB _) hP hnm (k := 40) tyX12_ok nmX12 (lay_X12 C.hA) rfl (by decide) rfl rfl rfl rfl rfl g195 g196 (fl_X12_104 C.hA) dX12_init_259 (fun H locs hP => ?_)
  obtain ⟨u_259, eu_259, hP⟩ := Hp.nm hP
  have h := h u_259 eu_259
  refine lv_aload_n hx hb dX12_init_262 rfl (lv_at hl 0 rfl) ?_
  refine lv_bipush (v := (48 : Int32)) hx hb dX12_init_263 (by decide) ?_
  obtain ⟨g197, h⟩ := h
  obtain ⟨g198, h⟩ := h
  obtain ⟨g199, h⟩ := h
  obtain ⟨g200, h⟩ := h
  obtain ⟨g201, h⟩ := h
  refine q_size hB hP hn0 (fun hz => ?_)
  refine q_newi (C.cut hB _) hP hz (by decide) (by decide) g197 g198 g199 (by decide) g200 g201 dX12_init_265 (fun H hP => ?_)
  refine W.cs (cells' := 28) (slots' := 104125) rfl rfl ?_
  have hP : Hp (cut G (n0 + 28)) u_259 s H _ := hP
  obtain ⟨g202, h⟩ := h
  obtain ⟨g203, h⟩ := h
  refine q_putFR (C.cut hB _) hP hnm (k := 43) tyX12_ok nmX12 (lay_X12 C.hA) rfl (by decide) rfl rfl rfl rfl rfl g202 g203 (fl_X12_107 C.hA) dX12_init_267 (fun H locs hP => ?_)
  obtain ⟨u_267, eu_267, hP⟩ := Hp.nm hP
  have h := h u_267 eu_267
  refine lv_aload_n hx hb dX12_init_270 rfl (lv_at hl 0 rfl) ?_
  refine lv_bipush (v := (64 : Int32)) hx hb dX12_init_271 (by decide) ?_
  obtain ⟨g204, h⟩ := h
  obtain ⟨g205, h⟩ := h
  obtain ⟨g206, h⟩ := h
  obtain ⟨g207, h⟩ := h
  obtain ⟨g208, h⟩ := h
  refine q_size hB hP hn0 (fun hz => ?_)
  refine q_newi (C.cut hB _) hP hz (by decide) (by decide) g204 g205 g206 (by decide) g207 g208 dX12_init_273 (fun H hP => ?_)
  refine W.cs (cells' := 29) (slots' := 104189) rfl rfl ?_
  have hP : Hp (cut G (n0 + 29)) u_267 s H _ := hP
  obtain ⟨g209, h⟩ := h
  obtain ⟨g210, h⟩ := h
  refine q_putFR (C.cut hB _) hP hnm (k := 44) tyX12_ok nmX12 (lay_X12 C.hA) rfl (by decide) rfl rfl rfl rfl rfl g209 g210 (fl_X12_110 C.hA) dX12_init_275 (fun H locs hP => ?_)
  obtain ⟨u_275, eu_275, hP⟩ := Hp.nm hP
  have h := h u_275 eu_275
  refine lv_aload_n hx hb dX12_init_278 rfl (lv_at hl 0 rfl) ?_
  refine lv_bipush (v := (20 : Int32)) hx hb dX12_init_279 (by decide) ?_
  obtain ⟨g211, h⟩ := h
  obtain ⟨g212, h⟩ := h
  obtain ⟨g213, h⟩ := h
  obtain ⟨g214, h⟩ := h
  obtain ⟨g215, h⟩ := h
  refine q_size hB hP hn0 (fun hz => ?_)
  refine q_newi (C.cut hB _) hP hz (by decide) (by decide) g211 g212 g213 (by decide) g214 g215 dX12_init_281 (fun H hP => ?_)
  refine W.cs (cells' := 30) (slots' := 104209) rfl rfl ?_
  have hP : Hp (cut G (n0 + 30)) u_275 s H _ := hP
  obtain ⟨g216, h⟩ := h
  obtain ⟨g217, h⟩ := h
  refine q_putFR (C.cut hB _) hP hnm (k := 48) tyX12_ok nmX12 (lay_X12 C.hA) rfl (by decide) rfl rfl rfl rfl rfl g216 g217 (fl_X12_113 C.hA) dX12_init_283 (fun H locs hP => ?_)
  obtain ⟨u_283, eu_283, hP⟩ := Hp.nm hP
  have h := h u_283 eu_283
  refine lv_aload_n hx hb dX12_init_286 rfl (lv_at hl 0 rfl) ?_
  refine lv_bipush (v := (20 : Int32)) hx hb dX12_init_287 (by decide) ?_
  obtain ⟨g218, h⟩ := h
  obtain ⟨g219, h⟩ := h
  obtain ⟨g220, h⟩ := h
  obtain ⟨g221, h⟩ := h
  obtain ⟨g222, h⟩ := h
  refine q_size hB hP hn0 (fun hz => ?_)
  refine q_newi (C.cut hB _) hP hz (by decide) (by decide) g218 g219 g220 (by decide) g221 g222 dX12_init_289 (fun H hP => ?_)
  refine W.cs (cells' := 31) (slots' := 104229) rfl rfl ?_
  have hP : Hp (cut G (n0 + 31)) u_283 s H _ := hP
  obtain ⟨g223, h⟩ := h
  obtain ⟨g224, h⟩ := h
  refine q_putFR (C.cut hB _) hP hnm (k := 49) tyX12_ok nmX12 (lay_X12 C.hA) rfl (by decide) rfl rfl rfl rfl rfl g223 g224 (fl_X12_116 C.hA) dX12_init_291 (fun H locs hP => ?_)
  obtain ⟨u_291, eu_291, hP⟩ := Hp.nm hP
  have h := h u_291 eu_291
  refine lv_aload_n hx hb dX12_init_294 rfl (lv_at hl 0 rfl) ?_
  refine lv_bipush (v := (20 : Int32)) hx hb dX12_init_295 (by decide) ?_
  obtain ⟨g225, h⟩ := h
  obtain ⟨g226, h⟩ := h
  obtain ⟨g227, h⟩ := h
  obtain ⟨g228, h⟩ := h
  obtain ⟨g229, h⟩ := h
  refine q_size hB hP hn0 (fun hz => ?_)
  refine q_newi (C.cut hB _) hP hz (by decide) (by decide) g225 g226 g227 (by decide) g228 g229 dX12_init_297 (fun H hP => ?_)
  refine W.cs (cells' := 32) (slots' := 104249) rfl rfl ?_
  have hP : Hp (cut G (n0 + 32)) u_291 s H _ := hP
  obtain ⟨g230, h⟩ := h
  obtain ⟨g231, h⟩ := h
  refine q_putFR (C.cut hB _) hP hnm (k := 50) tyX12_ok nmX12 (lay_X12 C.hA) rfl (by decide) rfl rfl rfl rfl rfl g230 g231 (fl_X12_119 C.hA) dX12_init_299 (fun H locs hP => ?_)
  obtain ⟨u_299, eu_299, hP⟩ := Hp.nm hP
  have h := h u_299 eu_299
  refine lv_aload_n hx hb dX12_init_302 rfl (lv_at hl 0 rfl) ?_
  refine lv_bipush (v := (20 : Int32)) hx hb dX12_init_303 (by decide) ?_
  obtain ⟨g232, h⟩ := h
  obtain ⟨g233, h⟩ := h
  obtain ⟨g234, h⟩ := h
  obtain ⟨g235, h⟩ := h
  obtain ⟨g236, h⟩ := h
  refine q_size hB hP hn0 (fun hz => ?_)
  refine q_newi (C.cut hB _) hP hz (by decide) (by decide) g232 g233 g234 (by decide) g235 g236 dX12_init_305 (fun H hP => ?_)
  refine W.cs (cells' := 33) (slots' := 104269) rfl rfl ?_
  have hP : Hp (cut G (n0 + 33)) u_299 s H _ := hP
  obtain ⟨g237, h⟩ := h
  obtain ⟨g238, h⟩ := h
  refine q_putFR (C.cut hB _) hP hnm (k := 51) tyX12_ok nmX12 (lay_X12 C.hA) rfl (by decide) rfl rfl rfl rfl rfl g237 g238 (fl_X12_122 C.hA) dX12_init_307 (fun H locs hP => ?_)
  obtain ⟨u_307, eu_307, hP⟩ := Hp.nm hP
  have h := h u_307 eu_307
  refine lv_aload_n hx hb dX12_init_310 rfl (lv_at hl 0 rfl) ?_
  refine lv_bipush (v := (20 : Int32)) hx hb dX12_init_311 (by decide) ?_
  obtain ⟨g239, h⟩ := h
  obtain ⟨g240, h⟩ := h
  obtain ⟨g241, h⟩ := h
  obtain ⟨g242, h⟩ := h
  obtain ⟨g243, h⟩ := h
  refine q_size hB hP hn0 (fun hz => ?_)
  refine q_newi (C.cut hB _) hP hz (by decide) (by decide) g239 g240 g241 (by decide) g242 g243 dX12_init_313 (fun H hP => ?_)
  refine W.cs (cells' := 34) (slots' := 104289) rfl rfl ?_
  have hP : Hp (cut G (n0 + 34)) u_307 s H _ := hP
  obtain ⟨g244, h⟩ := h
  obtain ⟨g245, h⟩ := h
  refine q_putFR (C.cut hB _) hP hnm (k := 52) tyX12_ok nmX12 (lay_X12 C.hA) rfl (by decide) rfl rfl rfl rfl rfl g244 g245 (fl_X12_125 C.hA) dX12_init_315 (fun H locs hP => ?_)
  obtain ⟨u_315, eu_315, hP⟩ := Hp.nm hP
  have h := h u_315 eu_315
  refine lv_aload_n hx hb dX12_init_318 rfl (lv_at hl 0 rfl) ?_
  refine lv_sipush (v := (240 : Int32)) hx hb dX12_init_319 (by decide) ?_
  obtain ⟨g246, h⟩ := h
  obtain ⟨g247, h⟩ := h
  obtain ⟨g248, h⟩ := h
  obtain ⟨g249, h⟩ := h
  obtain ⟨g250, h⟩ := h
  refine q_size hB hP hn0 (fun hz => ?_)
  refine q_newi (C.cut hB _) hP hz (by decide) (by decide) g246 g247 g248 (by decide) g249 g250 dX12_init_322 (fun H hP => ?_)
  refine W.cs (cells' := 35) (slots' := 104529) rfl rfl ?_
  have hP : Hp (cut G (n0 + 35)) u_315 s H _ := hP
  obtain ⟨g251, h⟩ := h
  obtain ⟨g252, h⟩ := h
  refine q_putFR (C.cut hB _) hP hnm (k := 53) tyX12_ok nmX12 (lay_X12 C.hA) rfl (by decide) rfl rfl rfl rfl rfl g251 g252 (fl_X12_128 C.hA) dX12_init_324 (fun H locs hP => ?_)
  obtain ⟨u_324, eu_324, hP⟩ := Hp.nm hP
  have h := h u_324 eu_324
  refine lv_aload_n hx hb dX12_init_327 rfl (lv_at hl 0 rfl) ?_
  refine lv_sipush (v := (240 : Int32)) hx hb dX12_init_328 (by decide) ?_
  obtain ⟨g253, h⟩ := h
  obtain ⟨g254, h⟩ := h
  obtain ⟨g255, h⟩ := h
  obtain ⟨g256, h⟩ := h
  obtain ⟨g257, h⟩ := h
  refine q_size hB hP hn0 (fun hz => ?_)
  refine q_newi (C.cut hB _) hP hz (by decide) (by decide) g253 g254 g255 (by decide) g256 g257 dX12_init_331 (fun H hP => ?_)
  refine W.cs (cells' := 36) (slots' := 104769) rfl rfl ?_
  have hP : Hp (cut G (n0 + 36)) u_324 s H _ := hP
  obtain ⟨g258, h⟩ := h
  obtain ⟨g259, h⟩ := h
  refine q_putFR (C.cut hB _) hP hnm (k := 54) tyX12_ok nmX12 (lay_X12 C.hA) rfl (by decide) rfl rfl rfl rfl rfl g258 g259 (fl_X12_131 C.hA) dX12_init_333 (fun H locs hP => ?_)
  obtain ⟨u_333, eu_333, hP⟩ := Hp.nm hP
  have h := h u_333 eu_333
  refine lv_aload_n hx hb dX12_init_336 rfl (lv_at hl 0 rfl) ?_
  refine lv_bipush (v := (8 : Int32)) hx hb dX12_init_337 (by decide) ?_
  obtain ⟨g260, h⟩ := h
  obtain ⟨g261, h⟩ := h
  obtain ⟨g262, h⟩ := h
  obtain ⟨g263, h⟩ := h
  obtain ⟨g264, h⟩ := h
  refine q_size hB hP hn0 (fun hz => ?_)
  refine q_newi (C.cut hB _) hP hz (by decide) (by decide) g260 g261 g262 (by decide) g263 g264 dX12_init_339 (fun H hP => ?_)
  refine W.cs (cells' := 37) (slots' := 104777) rfl rfl ?_
  have hP : Hp (cut G (n0 + 37)) u_333 s H _ := hP
  obtain ⟨g265, h⟩ := h
  obtain ⟨g266, h⟩ := h
  refine q_putFR (C.cut hB _) hP hnm (k := 55) tyX12_ok nmX12 (lay_X12 C.hA) rfl (by decide) rfl rfl rfl rfl rfl g265 g266 (fl_X12_134 C.hA) dX12_init_341 (fun H locs hP => ?_)
  obtain ⟨u_341, eu_341, hP⟩ := Hp.nm hP
  have h := h u_341 eu_341
  refine lv_aload_n hx hb dX12_init_344 rfl (lv_at hl 0 rfl) ?_
  refine lv_bipush (v := (8 : Int32)) hx hb dX12_init_345 (by decide) ?_
  obtain ⟨g267, h⟩ := h
  obtain ⟨g268, h⟩ := h
  obtain ⟨g269, h⟩ := h
  obtain ⟨g270, h⟩ := h
  obtain ⟨g271, h⟩ := h
  refine q_size hB hP hn0 (fun hz => ?_)
  refine q_newi (C.cut hB _) hP hz (by decide) (by decide) g267 g268 g269 (by decide) g270 g271 dX12_init_347 (fun H hP => ?_)
  refine W.cs (cells' := 38) (slots' := 104785) rfl rfl ?_
  have hP : Hp (cut G (n0 + 38)) u_341 s H _ := hP
  obtain ⟨g272, h⟩ := h
  obtain ⟨g273, h⟩ := h
  refine q_putFR (C.cut hB _) hP hnm (k := 56) tyX12_ok nmX12 (lay_X12 C.hA) rfl (by decide) rfl rfl rfl rfl rfl g272 g273 (fl_X12_137 C.hA) dX12_init_349 (fun H locs hP => ?_)
  obtain ⟨u_349, eu_349, hP⟩ := Hp.nm hP
  have h := h u_349 eu_349
  refine lv_aload_n hx hb dX12_init_352 rfl (lv_at hl 0 rfl) ?_
  refine lv_iconst (v := (4 : Int32)) hx hb dX12_init_353 (by decide) ?_
  obtain ⟨g274, h⟩ := h
  obtain ⟨g275, h⟩ := h
  obtain ⟨g276, h⟩ := h
  obtain ⟨g277, h⟩ := h
  obtain ⟨g278, h⟩ := h
  refine q_size hB hP hn0 (fun hz => ?_)
  refine q_newi (C.cut hB _) hP hz (by decide) (by decide) g274 g275 g276 (by decide) g277 g278 dX12_init_354 (fun H hP => ?_)
  refine W.cs (cells' := 39) (slots' := 104789) rfl rfl ?_
  have hP : Hp (cut G (n0 + 39)) u_349 s H _ := hP
  obtain ⟨g279, h⟩ := h
  obtain ⟨g280, h⟩ := h
  refine q_putFR (C.cut hB _) hP hnm (k := 57) tyX12_ok nmX12 (lay_X12 C.hA) rfl (by decide) rfl rfl rfl rfl rfl g279 g280 (fl_X12_140 C.hA) dX12_init_356 (fun H locs hP => ?_)
  obtain ⟨u_356, eu_356, hP⟩ := Hp.nm hP
  have h := h u_356 eu_356
  refine lv_iconst (v := (0 : Int32)) hx hb dX12_init_359 (by decide) ?_
  refine lv_istore_n (lv' := [(1, .int (0 : Int32)), (0, .ref p0)]) hx hb dX12_init_360 rfl hl (by decide) rfl (fun ls hl => ?_)
  obtain ⟨n, h⟩ := h
  exact l_X12_init_361 hB C hr hlk hn0 hnm n p0 (0 : Int32) 39 104789 u_356 _ _ _ h (lv_sub hl [1, 0] rfl) hP
