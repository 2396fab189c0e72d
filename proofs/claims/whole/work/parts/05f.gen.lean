-- X11_feed
abbrev rm_X11_feed : Room := { frames := 1, cells := 0, slots := 0, locals := 22 }
theorem hd_X11_feed : yX11_feed.cls ≠ "java/lang/invoke/MethodHandle" ∧ yX11_feed.cls ≠ "java/lang/invoke/VarHandle" ∧ (parseMethodDescriptor yX11_feed.desc).map (fun d => d.parameters.length) = some 5 := by decide +kernel
def V_X11_feed (G : Gx) (p0 : Nat) (p1 : Int32) (p2 : Int32) (p3 : Int32) (p4 : Int32) (p5 : Int32) (u : Mm) (Q : Int32 → Mm → Prop) : Prop :=
  kd G p0 = 11 ∧ (gR u p0 0) ≠ 0 ∧ kd G (gR u p0 0) = 8 ∧ ((((gI u (gR u p0 0) 1) + (20 : Int32)) ≤ (700 : Int32) → V_X8_append G (gR u p0 0) p1 u (fun (u_23 : Mm) => (gR u_23 p0 0) ≠ 0 ∧ kd G (gR u_23 p0 0) = 8 ∧ V_X8_append G (gR u_23 p0 0) p2 u_23 (fun (u_31 : Mm) => (gR u_31 p0 0) ≠ 0 ∧ kd G (gR u_31 p0 0) = 8 ∧ V_X8_append G (gR u_31 p0 0) p3 u_31 (fun (u_39 : Mm) => (gR u_39 p0 0) ≠ 0 ∧ kd G (gR u_39 p0 0) = 8 ∧ V_X8_append G (gR u_39 p0 0) p4 u_39 (fun (u_48 : Mm) => (gR u_48 p0 0) ≠ 0 ∧ kd G (gR u_48 p0 0) = 8 ∧ V_X8_append G (gR u_48 p0 0) p5 u_48 (fun (u_57 : Mm) => (gR u_57 p0 0) ≠ 0 ∧ kd G (gR u_57 p0 0) = 8 ∧ Q (gI u_57 (gR u_57 p0 0) 1) u_57)))))) ∧ (¬ ((gI u (gR u p0 0) 1) + (20 : Int32)) ≤ (700 : Int32) → Q (-1 : Int32) u))
set_option maxHeartbeats 4000000 in
set_option maxRecDepth 100000 in
theorem c_X11_feed {l : Launch} {G : Gx} {p0 : Nat} {p1 : Int32} {p2 : Int32} {p3 : Int32} {p4 : Int32} {p5 : Int32} {u : Mm} {Q : Int32 → Mm → Prop} (h : V_X11_feed G p0 p1 p2 p3 p4 p5 u Q) : Met l yX11_feed [.code yX11_feed cX11_feed 6 (some .int)] rm_X11_feed (va_Pc [.ref p0, .int p1, .int p2, .int p3, .int p4, .int p5] (Wd G u)) (Ei G Q) 0 0 (ag G) := by
  refine q_met (by decide) (Nat.le_of_ble_eq_true rfl) ?_
  intro p e s m below meth c ls C hr hlk hnm hl hP
  have hl : lv_has ls 6 [(0, .ref p0), (1, .int p1), (2, .int p2), (3, .int p3), (4, .int p4), (5, .int p5)] := hl
  generalize ([.ref p0, .int p1, .int p2, .int p3, .int p4, .int p5] : List Value).toArray = args
  have hx := C.1
  have hb := C.2.1
  unfold V_X11_feed at h
  refine lv_aload_n hx hb dX11_feed_0 rfl (lv_at hl 0 rfl) ?_
  obtain ⟨g1, h⟩ := h
  obtain ⟨g2, h⟩ := h
  refine q_getR C hP (k := 0) (lay_X11 C.hA) rfl (by decide) g1 g2 (fl_X11_12 C.hA) dX11_feed_1 ?_
  obtain ⟨g3, h⟩ := h
  refine q_getIN C hP (k := 1) (lay_X8 C.hA) rfl (by decide) g3 (fn_X11_76 C.hA) dX11_feed_4 ?_
  refine lv_bipush (v := (20 : Int32)) hx hb dX11_feed_7 (by decide) ?_
  refine lv_iadd hx hb dX11_feed_9 ?_
  refine lv_sipush (v := (700 : Int32)) hx hb dX11_feed_10 (by decide) ?_
  refine lv_icmp_le (tgt := 18) hx hb dX11_feed_13 (by decide) (fun c13 => ?_) (fun c13 => ?_)
  · have h := h.1 c13
    refine lv_aload_n hx hb dX11_feed_18 rfl (lv_at hl 0 rfl) ?_
    refine q_getR C hP (k := 0) (lay_X11 C.hA) rfl (by decide) g1 g2 (fl_X11_12 C.hA) dX11_feed_19 ?_
    refine lv_iload_n hx hb dX11_feed_22 rfl (lv_at hl 1 rfl) ?_
    refine q_calv (q_runVN C hP (c_X8_append h) (cd_X8_append C.hA) (ini_X8 C.hA) (mn_X11_80 C.hA) (im_X8_append C.hA) (sl_X8_append C.hA) g3 (by decide) rfl hd_X8_append ⟨rfl, rfl⟩ ⟨Nat.le_of_ble_eq_true rfl, Nat.le_of_ble_eq_true rfl⟩ ⟨Nat.le_of_ble_eq_true rfl, Nat.le_of_ble_eq_true rfl⟩ hl.1 rfl (Nat.le_of_ble_eq_true rfl) dX11_feed_23) hP (fun u_23 H locs h hP => ?_)
    refine lv_aload_n hx hb dX11_feed_26 rfl (lv_at hl 0 rfl) ?_
    obtain ⟨g4, h⟩ := h
    refine q_getR C hP (k := 0) (lay_X11 C.hA) rfl (by decide) g1 g4 (fl_X11_12 C.hA) dX11_feed_27 ?_
    refine lv_iload_n hx hb dX11_feed_30 rfl (lv_at hl 2 rfl) ?_
    obtain ⟨g5, h⟩ := h
    refine q_calv (q_runVN C hP (c_X8_append h) (cd_X8_append C.hA) (ini_X8 C.hA) (mn_X11_80 C.hA) (im_X8_append C.hA) (sl_X8_append C.hA) g5 (by decide) rfl hd_X8_append ⟨rfl, rfl⟩ ⟨Nat.le_of_ble_eq_true rfl, Nat.le_of_ble_eq_true rfl⟩ ⟨Nat.le_of_ble_eq_true rfl, Nat.le_of_ble_eq_true rfl⟩ hl.1 rfl (Nat.le_of_ble_eq_true rfl) dX11_feed_31) hP (fun u_31 H locs h hP => ?_)
    refine lv_aload_n hx hb dX11_feed_34 rfl (lv_at hl 0 rfl) ?_
    obtain ⟨g6, h⟩ := h
    refine q_getR C hP (k := 0) (lay_X11 C.hA) rfl (by decide) g1 g6 (fl_X11_12 C.hA) dX11_feed_35 ?_
    refine lv_iload_n hx hb dX11_feed_38 rfl (lv_at hl 3 rfl) ?_
    obtain ⟨g7, h⟩ := h
    refine q_calv (q_runVN C hP (c_X8_append h) (cd_X8_append C.hA) (ini_X8 C.hA) (mn_X11_80 C.hA) (im_X8_append C.hA) (sl_X8_append C.hA) g7 (by decide) rfl hd_X8_append ⟨rfl, rfl⟩ ⟨Nat.le_of_ble_eq_true rfl, Nat.le_of_ble_eq_true rfl⟩ ⟨Nat.le_of_ble_eq_true rfl, Nat.le_of_ble_eq_true rfl⟩ hl.1 rfl (Nat.le_of_ble_eq_true rfl) dX11_feed_39) hP (fun u_39 H locs h hP => ?_)
    refine lv_aload_n hx hb dX11_feed_42 rfl (lv_at hl 0 rfl) ?_
    obtain ⟨g8, h⟩ := h
    refine q_getR C hP (k := 0) (lay_X11 C.hA) rfl (by decide) g1 g8 (fl_X11_12 C.hA) dX11_feed_43 ?_
    refine lv_iload hx hb dX11_feed_46 (lv_at hl 4 rfl) ?_
    obtain ⟨g9, h⟩ := h
    refine q_calv (q_runVN C hP (c_X8_append h) (cd_X8_append C.hA) (ini_X8 C.hA) (mn_X11_80 C.hA) (im_X8_append C.hA) (sl_X8_append C.hA) g9 (by decide) rfl hd_X8_append ⟨rfl, rfl⟩ ⟨Nat.le_of_ble_eq_true rfl, Nat.le_of_ble_eq_true rfl⟩ ⟨Nat.le_of_ble_eq_true rfl, Nat.le_of_ble_eq_true rfl⟩ hl.1 rfl (Nat.le_of_ble_eq_true rfl) dX11_feed_48) hP (fun u_48 H locs h hP => ?_)
    refine lv_aload_n hx hb dX11_feed_51 rfl (lv_at hl 0 rfl) ?_
    obtain ⟨g10, h⟩ := h
    refine q_getR C hP (k := 0) (lay_X11 C.hA) rfl (by decide) g1 g10 (fl_X11_12 C.hA) dX11_feed_52 ?_
    refine lv_iload hx hb dX11_feed_55 (lv_at hl 5 rfl) ?_
    obtain ⟨g11, h⟩ := h
    refine q_calv (q_runVN C hP (c_X8_append h) (cd_X8_append C.hA) (ini_X8 C.hA) (mn_X11_80 C.hA) (im_X8_append C.hA) (sl_X8_append C.hA) g11 (by decide) rfl hd_X8_append ⟨rfl, rfl⟩ ⟨Nat.le_of_ble_eq_true rfl, Nat.le_of_ble_eq_true rfl⟩ ⟨Nat.le_of_ble_eq_true rfl, Nat.le_of_ble_eq_true rfl⟩ hl.1 rfl (Nat.le_of_ble_eq_true rfl) dX11_feed_57) hP (fun u_57 H locs h hP => ?_)
    refine lv_aload_n hx hb dX11_feed_60 rfl (lv_at hl 0 rfl) ?_
    obtain ⟨g12, h⟩ := h
    refine q_getR C hP (k := 0) (lay_X11 C.hA) rfl (by decide) g1 g12 (fl_X11_12 C.hA) dX11_feed_61 ?_
    obtain ⟨g13, h⟩ := h
    refine q_getIN C hP (k := 1) (lay_X8 C.hA) rfl (by decide) g13 (fn_X11_76 C.hA) dX11_feed_64 ?_
    exact q_iret C hr hlk hP h (by decide) (by decide) dX11_feed_67
  · have h := h.2 c13
    refine lv_iconst (v := (-1 : Int32)) hx hb dX11_feed_16 (by decide) ?_
    exact q_iret C hr hlk hP h (by decide) (by decide) dX11_feed_17
-- X11_needLand
abbrev rm_X11_needLand : Room := { frames := 6, cells := 1, slots := 6, locals := 82 }
theorem hd_X11_needLand : yX11_needLand.cls ≠ "java/lang/invoke/MethodHandle" ∧ yX11_needLand.cls ≠ "java/lang/invoke/VarHandle" ∧ (parseMethodDescriptor yX11_needLand.desc).map (fun d => d.parameters.length) = some 1 := by decide +kernel
def V_X11_needLand_10 (G : Gx) (Q : Nat → Mm → Prop) (X : String → Mm → Prop) (u : Mm) : Prop :=
  X "java/util/NoSuchElementException" u
def V_X11_needLand (G : Gx) (p0 : Nat) (p1 : Int32) (u : Mm) (Q : Nat → Mm → Prop) (X : String → Mm → Prop) : Prop :=
  ((p1 < 0 → V_X11_needLand_10 G Q X  u) ∧ (¬ p1 < 0 → ((p1 < (6 : Int32) → kd G p0 = 11 ∧ (gR u p0 1) ≠ 0 ∧ kd G (gR u p0 1) = 16 ∧ vp_in p1 (ln G (gR u p0 1)) ∧ (gR u (gR u p0 1) p1.toNatClampNeg) ≠ 0 ∧ Q (gR u (gR u p0 1) p1.toNatClampNeg) u) ∧ (¬ p1 < (6 : Int32) → V_X11_needLand_10 G Q X  u))))
set_option maxHeartbeats 4000000 in
set_option maxRecDepth 100000 in
theorem b_X11_needLand_10 {G : Gx} {Q : Nat → Mm → Prop} {X : String → Mm → Prop} {p : Program} {l : Launch} {e : Env} {s : State} {m : MethodId} {args : Array Value} {below : List Frame} {meth : Method} {c : Code} (hst : l.stackTraces = false) (C : Cx G p s m c cX11_needLand RX11 2) (hr : meth.sig.returnType = (some (.object "ClapValley$Land"))) (hlk : meth.locks = false) (hxt : ∀ x ∈ c.exceptionTable.toList, False) {u : Mm} {H : Heap} {locs : List Loc} {ls : Array Slot} (h : V_X11_needLand_10 G Q X  u) (hl : lv_has ls 2 []) (hP : Hp G u s H locs) : W p l e rm_X11_needLand s m args below meth c H locs 0 0 (vx_MQ below (Er G Q) (Xe G X) args s 1 6 (ag G)) (F0 m 10 ls []) := by
  have hx := C.1
  have hb := C.2.1
  unfold V_X11_needLand_10 at h
  exact q_thrNW C hst hxt hlk hP 0 (by decide) rfl rfl (by decide) (cl_X11_115 C.hA) (ini_java_util_NoSuchElementException C.hA) (thN C.hA) thN_g hl.1 h dX11_needLand_10 dX11_needLand_13 dX11_needLand_14 dX11_needLand_17 dX11_needLand_20 ⟨Nat.le_of_ble_eq_true rfl, Nat.le_of_ble_eq_true rfl, Nat.le_of_ble_eq_true rfl, Nat.le_of_ble_eq_true rfl⟩ (Nat.le_of_ble_eq_true rfl) (Nat.le_of_ble_eq_true rfl)
set_option maxHeartbeats 4000000 in
set_option maxRecDepth 100000 in
theorem c_X11_needLand {l : Launch} (hst : l.stackTraces = false) {G : Gx} {p0 : Nat} {p1 : Int32} {u : Mm} {Q : Nat → Mm → Prop} {X : String → Mm → Prop} (h : V_X11_needLand G p0 p1 u Q X) : vx_Met l yX11_needLand [.code yX11_needLand cX11_needLand 2 (some (.object "ClapValley$Land"))] rm_X11_needLand (va_Pc [.ref p0, .int p1] (Wd G u)) (Er G Q) (Xe G X) 1 6 (ag G) := by
  refine q_metX (by decide) (Nat.le_of_ble_eq_true rfl) ?_
  intro p e s m below meth c ls C hr hlk hnm hxt hl hP
  have hl : lv_has ls 2 [(0, .ref p0), (1, .int p1)] := hl
  generalize ([.ref p0, .int p1] : List Value).toArray = args
  have hx := C.1
  have hb := C.2.1
  unfold V_X11_needLand at h
  refine lv_iload_n hx hb dX11_needLand_0 rfl (lv_at hl 1 rfl) ?_
  refine lv_if_lt (tgt := 10) hx hb dX11_needLand_1 (by decide) (fun c1 => ?_) (fun c1 => ?_)
  · have h := h.1 c1
    exact b_X11_needLand_10 hst C hr hlk hxt h (lv_sub hl [] rfl) hP
  · have h := h.2 c1
    refine lv_iload_n hx hb dX11_needLand_4 rfl (lv_at hl 1 rfl) ?_
    refine lv_bipush (v := (6 : Int32)) hx hb dX11_needLand_5 (by decide) ?_
    refine lv_icmp_lt (tgt := 21) hx hb dX11_needLand_7 (by decide) (fun c7 => ?_) (fun c7 => ?_)
    · have h := h.1 c7
      refine lv_aload_n hx hb dX11_needLand_21 rfl (lv_at hl 0 rfl) ?_
      obtain ⟨g1, h⟩ := h
      obtain ⟨g2, h⟩ := h
      refine q_getR C hP (k := 1) (lay_X11 C.hA) rfl (by decide) g1 g2 (fl_X11_18 C.hA) dX11_needLand_22 ?_
      refine lv_iload_n hx hb dX11_needLand_25 rfl (lv_at hl 1 rfl) ?_
      obtain ⟨g3, h⟩ := h
      obtain ⟨g4, h⟩ := h
      obtain ⟨g5, h⟩ := h
      refine q_aald C hP g3 (by decide) rfl g4 g5 dX11_needLand_26 ?_
      exact vx_ret (q_aret C hr hlk hP h (by decide) (by decide) dX11_needLand_27)
    · have h := h.2 c7
      exact b_X11_needLand_10 hst C hr hlk hxt h (lv_sub hl [] rfl) hP
-- X11_land
abbrev rm_X11_land : Room := { frames := 8, cells := 2, slots := 12, locals := 171 }
theorem hd_X11_land : yX11_land.cls ≠ "java/lang/invoke/MethodHandle" ∧ yX11_land.cls ≠ "java/lang/invoke/VarHandle" ∧ (parseMethodDescriptor yX11_land.desc).map (fun d => d.parameters.length) = some 2 := by decide +kernel
def V_X11_land_21 (G : Gx) (Q : Int32 → Mm → Prop) (X : String → Mm → Prop) (u : Mm) : Prop :=
  X "java/lang/IllegalArgumentException" u
def V_X11_land (G : Gx) (p0 : Nat) (p1 : Int32) (p2 : Int32) (u : Mm) (Q : Int32 → Mm → Prop) (X : String → Mm → Prop) : Prop :=
  kd G p0 = 11 ∧ V_X11_needLand G p0 p1 u (fun (v_2 : Nat) (u_2 : Mm) => ((p2 < 0 → V_X11_land_21 G Q X  u_2) ∧ (¬ p2 < 0 → (gR u_2 p0 0) ≠ 0 ∧ kd G (gR u_2 p0 0) = 8 ∧ ((p2 ≤ (gI u_2 (gR u_2 p0 0) 1) → V_X8_readLand G (gR u_2 p0 0) p2 u_2 (fun (v_36 : Int32) (u_36 : Mm) => ((v_36 = 0 → (gR u_36 p0 1) ≠ 0 ∧ (gR u_36 p0 0) ≠ 0 ∧ kd G (gR u_36 p0 0) = 8 ∧ V_X8_exchange G (gR u_36 p0 0) v_2 u_36 (fun (v_72 : Nat) (u_72 : Mm) => kd G (gR u_36 p0 1) = 16 ∧ vp_in p1 (ln G (gR u_36 p0 1)) ∧ kd G v_72 = 4 ∧ ∀ u_75 : Mm, u_75 = sR u_72 (gR u_36 p0 1) p1.toNatClampNeg v_72 → Q (0 : Int32) u_75)) ∧ (¬ v_36 = 0 → (gR u_36 p0 2) ≠ 0 ∧ kd G (gR u_36 p0 2) = 1 ∧ (gR u_36 (gR u_36 p0 2) 5) ≠ 0 ∧ kd G (gR u_36 (gR u_36 p0 2) 5) = 13 ∧ vp_in (0 : Int32) (ln G (gR u_36 (gR u_36 p0 2) 5)) ∧ ∀ u_58 : Mm, u_58 = sI u_36 (gR u_36 (gR u_36 p0 2) 5) (0 : Int32).toNatClampNeg ((gI u_36 (gR u_36 (gR u_36 p0 2) 5) (0 : Int32).toNatClampNeg) + (1 : Int32)) → Q v_36 u_58)))) ∧ (¬ p2 ≤ (gI u_2 (gR u_2 p0 0) 1) → V_X11_land_21 G Q X  u_2))))) X
set_option maxHeartbeats 4000000 in
set_option maxRecDepth 100000 in
theorem b_X11_land_21 {G : Gx} {Q : Int32 → Mm → Prop} {X : String → Mm → Prop} {p : Program} {l : Launch} {e : Env} {s : State} {m : MethodId} {args : Array Value} {below : List Frame} {meth : Method} {c : Code} (hst : l.stackTraces = false) (C : Cx G p s m c cX11_land RX11 5) (hr : meth.sig.returnType = (some .int)) (hlk : meth.locks = false) (hxt : ∀ x ∈ c.exceptionTable.toList, False) {u : Mm} {H : Heap} {locs : List Loc} {ls : Array Slot} (h : V_X11_land_21 G Q X  u) (hl : lv_has ls 5 []) (hP : Hp G u s H locs) : W p l e rm_X11_land s m args below meth c H locs 1 6 (vx_MQ below (Ei G Q) (Xe G X) args s 2 12 (ag G)) (F0 m 21 ls []) := by
  have hx := C.1
  have hb := C.2.1
  unfold V_X11_land_21 at h
  exact q_throw C hst hxt hlk hP 1 (by decide) rfl rfl (by decide) (cl_X11_88 C.hA) (ini_java_lang_IllegalArgumentException C.hA) (thI C.hA) thI_g hl.1 h dX11_land_21 dX11_land_24 dX11_land_25 dX11_land_27 dX11_land_30 ⟨Nat.le_of_ble_eq_true rfl, Nat.le_of_ble_eq_true rfl, Nat.le_of_ble_eq_true rfl, Nat.le_of_ble_eq_true rfl⟩ (Nat.le_of_ble_eq_true rfl) (Nat.le_of_ble_eq_true rfl)
set_option maxHeartbeats 4000000 in
set_option maxRecDepth 100000 in
theorem c_X11_land {l : Launch} (hst : l.stackTraces = false) {G : Gx} {p0 : Nat} {p1 : Int32} {p2 : Int32} {u : Mm} {Q : Int32 → Mm → Prop} {X : String → Mm → Prop} (h : V_X11_land G p0 p1 p2 u Q X) : vx_Met l yX11_land [.code yX11_land cX11_land 5 (some .int)] rm_X11_land (va_Pc [.ref p0, .int p1, .int p2] (Wd G u)) (Ei G Q) (Xe G X) 2 12 (ag G) := by
  refine q_metX (by decide) (Nat.le_of_ble_eq_true rfl) ?_
  intro p e s m below meth c ls C hr hlk hnm hxt hl hP
  have hl : lv_has ls 5 [(0, .ref p0), (1, .int p1), (2, .int p2)] := hl
  generalize ([.ref p0, .int p1, .int p2] : List Value).toArray = args
  have hx := C.1
  have hb := C.2.1
  unfold V_X11_land at h
  refine lv_aload_n hx hb dX11_land_0 rfl (lv_at hl 0 rfl) ?_
  refine lv_iload_n hx hb dX11_land_1 rfl (lv_at hl 1 rfl) ?_
  obtain ⟨g1, h⟩ := h
  refine q_calrX hxt hlk (q_runVX C hP (c_X11_needLand hst h) (cd_X11_needLand C.hA) (ini_X11 C.hA) (ml_X11_84 C.hA) (im_X11_needLand C.hA) (sl_X11_needLand C.hA) g1 (by decide) rfl hd_X11_needLand ⟨rfl, rfl⟩ ⟨Nat.le_of_ble_eq_true rfl, Nat.le_of_ble_eq_true rfl⟩ ⟨Nat.le_of_ble_eq_true rfl, Nat.le_of_ble_eq_true rfl⟩ hl.1 rfl (Nat.le_of_ble_eq_true rfl) dX11_land_2) hP (Nat.le_of_ble_eq_true rfl) (Nat.le_of_ble_eq_true rfl) (fun v_2 u_2 H locs h hP => ?_)
  refine lv_astore_n (lv' := [(3, .ref v_2), (0, .ref p0), (1, .int p1), (2, .int p2)]) hx hb dX11_land_5 rfl hl (by decide) rfl (fun ls hl => ?_)
  refine lv_iload_n hx hb dX11_land_6 rfl (lv_at hl 3 rfl) ?_
  refine lv_if_lt (tgt := 21) hx hb dX11_land_7 (by decide) (fun c7 => ?_) (fun c7 => ?_)
  · have h := h.1 c7
    exact b_X11_land_21 hst C hr hlk hxt h (lv_sub hl [] rfl) hP
  · have h := h.2 c7
    refine lv_iload_n hx hb dX11_land_10 rfl (lv_at hl 3 rfl) ?_
    refine lv_aload_n hx hb dX11_land_11 rfl (lv_at hl 1 rfl) ?_
    obtain ⟨g2, h⟩ := h
    refine q_getR C hP (k := 0) (lay_X11 C.hA) rfl (by decide) g1 g2 (fl_X11_12 C.hA) dX11_land_12 ?_
    obtain ⟨g3, h⟩ := h
    refine q_getIN C hP (k := 1) (lay_X8 C.hA) rfl (by decide) g3 (fn_X11_76 C.hA) dX11_land_15 ?_
    refine lv_icmp_le (tgt := 31) hx hb dX11_land_18 (by decide) (fun c18 => ?_) (fun c18 => ?_)
    · have h := h.1 c18
      refine lv_aload_n hx hb dX11_land_31 rfl (lv_at hl 1 rfl) ?_
      refine q_getR C hP (k := 0) (lay_X11 C.hA) rfl (by decide) g1 g2 (fl_X11_12 C.hA) dX11_land_32 ?_
      refine lv_iload_n hx hb dX11_land_35 rfl (lv_at hl 3 rfl) ?_
      refine q_cali (q_runVN C hP (c_X8_readLand h) (cd_X8_readLand C.hA) (ini_X8 C.hA) (mn_X11_95 C.hA) (im_X8_readLand C.hA) (sl_X8_readLand C.hA) g3 (by decide) rfl hd_X8_readLand ⟨rfl, rfl⟩ ⟨Nat.le_of_ble_eq_true rfl, Nat.le_of_ble_eq_true rfl⟩ ⟨Nat.le_of_ble_eq_true rfl, Nat.le_of_ble_eq_true rfl⟩ hl.1 rfl (Nat.le_of_ble_eq_true rfl) dX11_land_36) hP (fun v_36 u_36 H locs h hP => ?_)
      refine lv_istore (lv' := [(4, .int v_36), (3, .ref v_2), (0, .ref p0), (1, .int p1), (2, .int p2)]) hx hb dX11_land_39 hl (by decide) rfl (fun ls hl => ?_)
      refine lv_iload hx hb dX11_land_41 (lv_at hl 0 rfl) ?_
      refine lv_if_eq (tgt := 62) hx hb dX11_land_43 (by decide) (fun c43 => ?_) (fun c43 => ?_)
      · have h := h.1 c43
        refine lv_aload_n hx hb dX11_land_62 rfl (lv_at hl 2 rfl) ?_
        obtain ⟨g4, h⟩ := h
        refine q_getR C hP (k := 1) (lay_X11 C.hA) rfl (by decide) g1 g4 (fl_X11_18 C.hA) dX11_land_63 ?_
        refine lv_iload_n hx hb dX11_land_66 rfl (lv_at hl 3 rfl) ?_
        refine lv_aload_n hx hb dX11_land_67 rfl (lv_at hl 2 rfl) ?_
        obtain ⟨g5, h⟩ := h
        refine q_getR C hP (k := 0) (lay_X11 C.hA) rfl (by decide) g1 g5 (fl_X11_12 C.hA) dX11_land_68 ?_
        refine lv_aload_n hx hb dX11_land_71 rfl (lv_at hl 1 rfl) ?_
        obtain ⟨g6, h⟩ := h
        refine q_calr (q_runVN C hP (c_X8_exchange h) (cd_X8_exchange C.hA) (ini_X8 C.hA) (mn_X11_102 C.hA) (im_X8_exchange C.hA) (sl_X8_exchange C.hA) g6 (by decide) rfl hd_X8_exchange ⟨rfl, rfl⟩ ⟨Nat.le_of_ble_eq_true rfl, Nat.le_of_ble_eq_true rfl⟩ ⟨Nat.le_of_ble_eq_true rfl, Nat.le_of_ble_eq_true rfl⟩ hl.1 rfl (Nat.le_of_ble_eq_true rfl) dX11_land_72) hP (fun v_72 u_72 H locs h hP => ?_)
        obtain ⟨g7, h⟩ := h
        obtain ⟨g8, h⟩ := h
        obtain ⟨g9, h⟩ := h
        refine q_aast C hP g7 (by decide) (r := (RX4, TX4, 8)) rfl rfl (by decide) g9 g8 dX11_land_75 (fun H locs hP => ?_)
        obtain ⟨u_75, eu_75, hP⟩ := Hp.nm hP
        have h := h u_75 eu_75
        refine lv_iconst (v := (0 : Int32)) hx hb dX11_land_76 (by decide) ?_
        exact vx_ret (q_iret C hr hlk hP h (by decide) (by decide) dX11_land_77)
      · have h := h.2 c43
        refine lv_aload_n hx hb dX11_land_46 rfl (lv_at hl 2 rfl) ?_
        obtain ⟨g10, h⟩ := h
        refine q_getR C hP (k := 2) (lay_X11 C.hA) rfl (by decide) g1 g10 (fl_X11_26 C.hA) dX11_land_47 ?_
        obtain ⟨g11, h⟩ := h
        obtain ⟨g12, h⟩ := h
        refine q_getRN C hP (k := 5) (lay_X1 C.hA) rfl (by decide) g11 g12 (fn_X11_99 C.hA) dX11_land_50 ?_
        refine lv_iconst (v := (0 : Int32)) hx hb dX11_land_53 (by decide) ?_
        refine lv_dup2_11 hx hb dX11_land_54 rfl rfl ?_
        obtain ⟨g13, h⟩ := h
        obtain ⟨g14, h⟩ := h
        refine q_iald C hP g13 g14 dX11_land_55 ?_
        refine lv_iconst (v := (1 : Int32)) hx hb dX11_land_56 (by decide) ?_
        refine lv_iadd hx hb dX11_land_57 ?_
        refine q_iast C hP g13 g14 dX11_land_58 (fun H locs hP => ?_)
        obtain ⟨u_58, eu_58, hP⟩ := Hp.nm hP
        have h := h u_58 eu_58
        refine lv_iload hx hb dX11_land_59 (lv_at hl 0 rfl) ?_
        exact vx_ret (q_iret C hr hlk hP h (by decide) (by decide) dX11_land_61)
    · have h := h.2 c18
      exact b_X11_land_21 hst C hr hlk hxt h (lv_sub hl [] rfl) hP
-- X11_fault
abbrev rm_X11_fault : Room := { frames := 0, cells := 0, slots := 0, locals := 0 }
theorem hd_X11_fault : yX11_fault.cls ≠ "java/lang/invoke/MethodHandle" ∧ yX11_fault.cls ≠ "java/lang/invoke/VarHandle" ∧ (parseMethodDescriptor yX11_fault.desc).map (fun d => d.parameters.length) = some 0 := by decide +kernel
def V_X11_fault (G : Gx) (p0 : Nat) (u : Mm) (Q : Int32 → Mm → Prop) : Prop :=
  kd G p0 = 11 ∧ (gR u p0 0) ≠ 0 ∧ kd G (gR u p0 0) = 8 ∧ Q (gI u (gR u p0 0) 11) u
set_option maxHeartbeats 4000000 in
set_option maxRecDepth 100000 in
theorem c_X11_fault {l : Launch} {G : Gx} {p0 : Nat} {u : Mm} {Q : Int32 → Mm → Prop} (h : V_X11_fault G p0 u Q) : Met l yX11_fault [.code yX11_fault cX11_fault 1 (some .int)] rm_X11_fault (va_Pc [.ref p0] (Wd G u)) (Ei G Q) 0 0 (ag G) := by
  refine q_met (by decide) (Nat.le_of_ble_eq_true rfl) ?_
  intro p e s m below meth c ls C hr hlk hnm hl hP
  have hl : lv_has ls 1 [(0, .ref p0)] := hl
  generalize ([.ref p0] : List Value).toArray = args
  have hx := C.1
  have hb := C.2.1
  unfold V_X11_fault at h
  refine lv_aload_n hx hb dX11_fault_0 rfl (lv_at hl 0 rfl) ?_
  obtain ⟨g1, h⟩ := h
  obtain ⟨g2, h⟩ := h
  refine q_getR C hP (k := 0) (lay_X11 C.hA) rfl (by decide) g1 g2 (fl_X11_12 C.hA) dX11_fault_1 ?_
  obtain ⟨g3, h⟩ := h
  refine q_getIN C hP (k := 11) (lay_X8 C.hA) rfl (by decide) g3 (fn_X11_106 C.hA) dX11_fault_4 ?_
  exact q_iret C hr hlk hP h (by decide) (by decide) dX11_fault_7
-- X11_count
abbrev rm_X11_count : Room := { frames := 6, cells := 1, slots := 6, locals := 82 }
theorem hd_X11_count : yX11_count.cls ≠ "java/lang/invoke/MethodHandle" ∧ yX11_count.cls ≠ "java/lang/invoke/VarHandle" ∧ (parseMethodDescriptor yX11_count.desc).map (fun d => d.parameters.length) = some 1 := by decide +kernel
def V_X11_count (G : Gx) (p0 : Nat) (p1 : Int32) (u : Mm) (Q : Int32 → Mm → Prop) (X : String → Mm → Prop) : Prop :=
  ((p1 = (0 : Int32) → kd G p0 = 11 ∧ (gR u p0 0) ≠ 0 ∧ kd G (gR u p0 0) = 8 ∧ Q (gI u (gR u p0 0) 1) u) ∧ (p1 = (1 : Int32) → kd G p0 = 11 ∧ (gR u p0 2) ≠ 0 ∧ kd G (gR u p0 2) = 1 ∧ Q (gI u (gR u p0 2) 1) u) ∧ (p1 = (2 : Int32) → kd G p0 = 11 ∧ (gR u p0 2) ≠ 0 ∧ kd G (gR u p0 2) = 1 ∧ Q (gI u (gR u p0 2) 4) u) ∧ (p1 = (3 : Int32) → kd G p0 = 11 ∧ (gR u p0 2) ≠ 0 ∧ kd G (gR u p0 2) = 1 ∧ (gR u (gR u p0 2) 5) ≠ 0 ∧ kd G (gR u (gR u p0 2) 5) = 13 ∧ vp_in (0 : Int32) (ln G (gR u (gR u p0 2) 5)) ∧ Q (gI u (gR u (gR u p0 2) 5) (0 : Int32).toNatClampNeg) u) ∧ (p1 = (4 : Int32) → kd G p0 = 11 ∧ (gR u p0 2) ≠ 0 ∧ kd G (gR u p0 2) = 1 ∧ (gR u (gR u p0 2) 5) ≠ 0 ∧ kd G (gR u (gR u p0 2) 5) = 13 ∧ vp_in (1 : Int32) (ln G (gR u (gR u p0 2) 5)) ∧ Q (gI u (gR u (gR u p0 2) 5) (1 : Int32).toNatClampNeg) u) ∧ (p1 = (5 : Int32) → kd G p0 = 11 ∧ (gR u p0 2) ≠ 0 ∧ kd G (gR u p0 2) = 1 ∧ (gR u (gR u p0 2) 5) ≠ 0 ∧ kd G (gR u (gR u p0 2) 5) = 13 ∧ vp_in (2 : Int32) (ln G (gR u (gR u p0 2) 5)) ∧ Q (gI u (gR u (gR u p0 2) 5) (2 : Int32).toNatClampNeg) u) ∧ (p1 = (6 : Int32) → kd G p0 = 11 ∧ (gR u p0 2) ≠ 0 ∧ kd G (gR u p0 2) = 1 ∧ (gR u (gR u p0 2) 5) ≠ 0 ∧ kd G (gR u (gR u p0 2) 5) = 13 ∧ vp_in (3 : Int32) (ln G (gR u (gR u p0 2) 5)) ∧ Q (gI u (gR u (gR u p0 2) 5) (3 : Int32).toNatClampNeg) u) ∧ (¬ p1 = (0 : Int32) ∧ ¬ p1 = (1 : Int32) ∧ ¬ p1 = (2 : Int32) ∧ ¬ p1 = (3 : Int32) ∧ ¬ p1 = (4 : Int32) ∧ ¬ p1 = (5 : Int32) ∧ ¬ p1 = (6 : Int32) → X "java/util/NoSuchElementException" u))
set_option maxHeartbeats 4000000 in
set_option maxRecDepth 100000 in
theorem c_X11_count {l : Launch} (hst : l.stackTraces = false) {G : Gx} {p0 : Nat} {p1 : Int32} {u : Mm} {Q : Int32 → Mm → Prop} {X : String → Mm → Prop} (h : V_X11_count G p0 p1 u Q X) : vx_Met l yX11_count [.code yX11_count cX11_count 2 (some .int)] rm_X11_count (va_Pc [.ref p0, .int p1] (Wd G u)) (Ei G Q) (Xe G X) 1 6 (ag G) := by
  refine q_metX (by decide) (Nat.le_of_ble_eq_true rfl) ?_
  intro p e s m below meth c ls C hr hlk hnm hxt hl hP
  have hl : lv_has ls 2 [(0, .ref p0), (1, .int p1)] := hl
  generalize ([.ref p0, .int p1] : List Value).toArray = args
  have hx := C.1
  have hb := C.2.1
  unfold V_X11_count at h
  refine lv_iload_n hx hb dX11_count_0 rfl (lv_at hl 1 rfl) ?_
  by_cases c1_0 : p1 = (0 : Int32)
  · have h := h.1 c1_0
    refine lv_tableIn (tgt := 44) (off := 43) hx hb dX11_count_1 (by rw [c1_0]; decide) (by rw [c1_0]; decide) (by rw [c1_0]; rfl) (by decide) ?_
    refine lv_aload_n hx hb dX11_count_44 rfl (lv_at hl 0 rfl) ?_
    obtain ⟨g1, h⟩ := h
    obtain ⟨g2, h⟩ := h
    refine q_getR C hP (k := 0) (lay_X11 C.hA) rfl (by decide) g1 g2 (fl_X11_12 C.hA) dX11_count_45 ?_
    obtain ⟨g3, h⟩ := h
    refine q_getIN C hP (k := 1) (lay_X8 C.hA) rfl (by decide) g3 (fn_X11_76 C.hA) dX11_count_48 ?_
    exact vx_ret (q_iret C hr hlk hP h (by decide) (by decide) dX11_count_51)
  have h := h.2
  by_cases c1_1 : p1 = (1 : Int32)
  · have h := h.1 c1_1
    refine lv_tableIn (tgt := 52) (off := 51) hx hb dX11_count_1 (by rw [c1_1]; decide) (by rw [c1_1]; decide) (by rw [c1_1]; rfl) (by decide) ?_
    refine lv_aload_n hx hb dX11_count_52 rfl (lv_at hl 0 rfl) ?_
    obtain ⟨g4, h⟩ := h
    obtain ⟨g5, h⟩ := h
    refine q_getR C hP (k := 2) (lay_X11 C.hA) rfl (by decide) g4 g5 (fl_X11_26 C.hA) dX11_count_53 ?_
    obtain ⟨g6, h⟩ := h
    refine q_getIN C hP (k := 1) (lay_X1 C.hA) rfl (by decide) g6 (fn_X11_109 C.hA) dX11_count_56 ?_
    exact vx_ret (q_iret C hr hlk hP h (by decide) (by decide) dX11_count_59)
  have h := h.2
  by_cases c1_2 : p1 = (2 : Int32)
  · have h := h.1 c1_2
    refine lv_tableIn (tgt := 60) (off := 59) hx hb dX11_count_1 (by rw [c1_2]; decide) (by rw [c1_2]; decide) (by rw [c1_2]; rfl) (by decide) ?_
    refine lv_aload_n hx hb dX11_count_60 rfl (lv_at hl 0 rfl) ?_
    obtain ⟨g7, h⟩ := h
    obtain ⟨g8, h⟩ := h
    refine q_getR C hP (k := 2) (lay_X11 C.hA) rfl (by decide) g7 g8 (fl_X11_26 C.hA) dX11_count_61 ?_
    obtain ⟨g9, h⟩ := h
    refine q_getIN C hP (k := 4) (lay_X1 C.hA) rfl (by decide) g9 (fn_X11_112 C.hA) dX11_count_64 ?_
    exact vx_ret (q_iret C hr hlk hP h (by decide) (by decide) dX11_count_67)
  have h := h.2
  by_cases c1_3 : p1 = (3 : Int32)
  · have h := h.1 c1_3
    refine lv_tableIn (tgt := 68) (off := 67) hx hb dX11_count_1 (by rw [c1_3]; decide) (by rw [c1_3]; decide) (by rw [c1_3]; rfl) (by decide) ?_
    refine lv_aload_n hx hb dX11_count_68 rfl (lv_at hl 0 rfl) ?_
    obtain ⟨g10, h⟩ := h
    obtain ⟨g11, h⟩ := h
    refine q_getR C hP (k := 2) (lay_X11 C.hA) rfl (by decide) g10 g11 (fl_X11_26 C.hA) dX11_count_69 ?_
    obtain ⟨g12, h⟩ := h
    obtain ⟨g13, h⟩ := h
    refine q_getRN C hP (k := 5) (lay_X1 C.hA) rfl (by decide) g12 g13 (fn_X11_99 C.hA) dX11_count_72 ?_
    refine lv_iconst (v := (0 : Int32)) hx hb dX11_count_75 (by decide) ?_
    obtain ⟨g14, h⟩ := h
    obtain ⟨g15, h⟩ := h
    refine q_iald C hP g14 g15 dX11_count_76 ?_
    exact vx_ret (q_iret C hr hlk hP h (by decide) (by decide) dX11_count_77)
  have h := h.2
  by_cases c1_4 : p1 = (4 : Int32)
  · have h := h.1 c1_4
    refine lv_tableIn (tgt := 78) (off := 77) hx hb dX11_count_1 (by rw [c1_4]; decide) (by rw [c1_4]; decide) (by rw [c1_4]; rfl) (by decide) ?_
    refine lv_aload_n hx hb dX11_count_78 rfl (lv_at hl 0 rfl) ?_
    obtain ⟨g16, h⟩ := h
    obtain ⟨g17, h⟩ := h
    refine q_getR C hP (k := 2) (lay_X11 C.hA) rfl (by decide) g16 g17 (fl_X11_26 C.hA) dX11_count_79 ?_
    obtain ⟨g18, h⟩ := h
    obtain ⟨g19, h⟩ := h
    refine q_getRN C hP (k := 5) (lay_X1 C.hA) rfl (by decide) g18 g19 (fn_X11_99 C.hA) dX11_count_82 ?_
    refine lv_iconst (v := (1 : Int32)) hx hb dX11_count_85 (by decide) ?_
    obtain ⟨g20, h⟩ := h
    obtain ⟨g21, h⟩ := h
    refine q_iald C hP g20 g21 dX11_count_86 ?_
    exact vx_ret (q_iret C hr hlk hP h (by decide) (by decide) dX11_count_87)
  have h := h.2
  by_cases c1_5 : p1 = (5 : Int32)
  · have h := h.1 c1_5
    refine lv_tableIn (tgt := 88) (off := 87) hx hb dX11_count_1 (by rw [c1_5]; decide) (by rw [c1_5]; decide) (by rw [c1_5]; rfl) (by decide) ?_
    refine lv_aload_n hx hb dX11_count_88 rfl (lv_at hl 0 rfl) ?_
    obtain ⟨g22, h⟩ := h
    obtain ⟨g23, h⟩ := h
    refine q_getR C hP (k := 2) (lay_X11 C.hA) rfl (by decide) g22 g23 (fl_X11_26 C.hA) dX11_count_89 ?_
    obtain ⟨g24, h⟩ := h
    obtain ⟨g25, h⟩ := h
    refine q_getRN C hP (k := 5) (lay_X1 C.hA) rfl (by decide) g24 g25 (fn_X11_99 C.hA) dX11_count_92 ?_
    refine lv_iconst (v := (2 : Int32)) hx hb dX11_count_95 (by decide) ?_
    obtain ⟨g26, h⟩ := h
    obtain ⟨g27, h⟩ := h
    refine q_iald C hP g26 g27 dX11_count_96 ?_
    exact vx_ret (q_iret C hr hlk hP h (by decide) (by decide) dX11_count_97)
  have h := h.2
  by_cases c1_6 : p1 = (6 : Int32)
  · have h := h.1 c1_6
    refine lv_tableIn (tgt := 98) (off := 97) hx hb dX11_count_1 (by rw [c1_6]; decide) (by rw [c1_6]; decide) (by rw [c1_6]; rfl) (by decide) ?_
    refine lv_aload_n hx hb dX11_count_98 rfl (lv_at hl 0 rfl) ?_
    obtain ⟨g28, h⟩ := h
    obtain ⟨g29, h⟩ := h
    refine q_getR C hP (k := 2) (lay_X11 C.hA) rfl (by decide) g28 g29 (fl_X11_26 C.hA) dX11_count_99 ?_
    obtain ⟨g30, h⟩ := h
    obtain ⟨g31, h⟩ := h
    refine q_getRN C hP (k := 5) (lay_X1 C.hA) rfl (by decide) g30 g31 (fn_X11_99 C.hA) dX11_count_102 ?_
    refine lv_iconst (v := (3 : Int32)) hx hb dX11_count_105 (by decide) ?_
    obtain ⟨g32, h⟩ := h
    obtain ⟨g33, h⟩ := h
    refine q_iald C hP g32 g33 dX11_count_106 ?_
    exact vx_ret (q_iret C hr hlk hP h (by decide) (by decide) dX11_count_107)
  have h := h.2
  have h := h ⟨c1_0, c1_1, c1_2, c1_3, c1_4, c1_5, c1_6⟩
  refine lv_tableOut (tgt := 108) hx hb dX11_count_1 (by have := lv_neT c1_0 (a := 0) (by decide); have := lv_neT c1_1 (a := 1) (by decide); have := lv_neT c1_2 (a := 2) (by decide); have := lv_neT c1_3 (a := 3) (by decide); have := lv_neT c1_4 (a := 4) (by decide); have := lv_neT c1_5 (a := 5) (by decide); have := lv_neT c1_6 (a := 6) (by decide); omega) (by decide) ?_
  exact q_thrN C hst hxt hlk hP 10 (by decide) rfl rfl (by decide) (cl_X11_115 C.hA) (ini_java_util_NoSuchElementException C.hA) (thN C.hA) thN_g hl.1 h dX11_count_108 dX11_count_111 dX11_count_112 dX11_count_114 dX11_count_117 ⟨Nat.le_of_ble_eq_true rfl, Nat.le_of_ble_eq_true rfl, Nat.le_of_ble_eq_true rfl, Nat.le_of_ble_eq_true rfl⟩ (Nat.le_of_ble_eq_true rfl) (Nat.le_of_ble_eq_true rfl)
-- X11_about
abbrev rm_X11_about : Room := { frames := 7, cells := 2, slots := 12, locals := 103 }
theorem hd_X11_about : yX11_about.cls ≠ "java/lang/invoke/MethodHandle" ∧ yX11_about.cls ≠ "java/lang/invoke/VarHandle" ∧ (parseMethodDescriptor yX11_about.desc).map (fun d => d.parameters.length) = some 2 := by decide +kernel
def V_X11_about (G : Gx) (p0 : Nat) (p1 : Int32) (p2 : Int32) (u : Mm) (Q : Int32 → Mm → Prop) (X : String → Mm → Prop) : Prop :=
  kd G p0 = 11 ∧ V_X11_needLand G p0 p1 u (fun (v_2 : Nat) (u_2 : Mm) => ((p2 = (0 : Int32) → kd G v_2 = 4 ∧ Q (gI u_2 v_2 3) u_2) ∧ (p2 = (1 : Int32) → kd G v_2 = 4 ∧ Q (gI u_2 v_2 4) u_2) ∧ (p2 = (2 : Int32) → kd G v_2 = 4 ∧ Q (gI u_2 v_2 5) u_2) ∧ (p2 = (3 : Int32) → kd G v_2 = 4 ∧ Q (gI u_2 v_2 6) u_2) ∧ (p2 = (4 : Int32) → kd G v_2 = 4 ∧ Q (gI u_2 v_2 7) u_2) ∧ (¬ p2 = (0 : Int32) ∧ ¬ p2 = (1 : Int32) ∧ ¬ p2 = (2 : Int32) ∧ ¬ p2 = (3 : Int32) ∧ ¬ p2 = (4 : Int32) → X "java/util/NoSuchElementException" u_2))) X
set_option maxHeartbeats 4000000 in
set_option maxRecDepth 100000 in
theorem c_X11_about {l : Launch} (hst : l.stackTraces = false) {G : Gx} {p0 : Nat} {p1 : Int32} {p2 : Int32} {u : Mm} {Q : Int32 → Mm → Prop} {X : String → Mm → Prop} (h : V_X11_about G p0 p1 p2 u Q X) : vx_Met l yX11_about [.code yX11_about cX11_about 4 (some .int)] rm_X11_about (va_Pc [.ref p0, .int p1, .int p2] (Wd G u)) (Ei G Q) (Xe G X) 2 12 (ag G) := by
  refine q_metX (by decide) (Nat.le_of_ble_eq_true rfl) ?_
  intro p e s m below meth c ls C hr hlk hnm hxt hl hP
  have hl : lv_has ls 4 [(0, .ref p0), (1, .int p1), (2, .int p2)] := hl
  generalize ([.ref p0, .int p1, .int p2] : List Value).toArray = args
  have hx := C.1
  have hb := C.2.1
  unfold V_X11_about at h
  refine lv_aload_n hx hb dX11_about_0 rfl (lv_at hl 0 rfl) ?_
  refine lv_iload_n hx hb dX11_about_1 rfl (lv_at hl 1 rfl) ?_
  obtain ⟨g1, h⟩ := h
  refine q_calrX hxt hlk (q_runVX C hP (c_X11_needLand hst h) (cd_X11_needLand C.hA) (ini_X11 C.hA) (ml_X11_84 C.hA) (im_X11_needLand C.hA) (sl_X11_needLand C.hA) g1 (by decide) rfl hd_X11_needLand ⟨rfl, rfl⟩ ⟨Nat.le_of_ble_eq_true rfl, Nat.le_of_ble_eq_true rfl⟩ ⟨Nat.le_of_ble_eq_true rfl, Nat.le_of_ble_eq_true rfl⟩ hl.1 rfl (Nat.le_of_ble_eq_true rfl) dX11_about_2) hP (Nat.le_of_ble_eq_true rfl) (Nat.le_of_ble_eq_true rfl) (fun v_2 u_2 H locs h hP => ?_)
  refine lv_astore_n (lv' := [(3, .ref v_2), (0, .ref p0), (1, .int p1), (2, .int p2)]) hx hb dX11_about_5 rfl hl (by decide) rfl (fun ls hl => ?_)
  refine lv_iload_n hx hb dX11_about_6 rfl (lv_at hl 3 rfl) ?_
  by_cases c7_0 : p2 = (0 : Int32)
  · have h := h.1 c7_0
    refine lv_tableIn (tgt := 40) (off := 33) hx hb dX11_about_7 (by rw [c7_0]; decide) (by rw [c7_0]; decide) (by rw [c7_0]; rfl) (by decide) ?_
    refine lv_aload_n hx hb dX11_about_40 rfl (lv_at hl 0 rfl) ?_
    obtain ⟨g2, h⟩ := h
    refine q_getIN C hP (k := 3) (lay_X4 C.hA) rfl (by decide) g2 (fn_X11_120 C.hA) dX11_about_41 ?_
    exact vx_ret (q_iret C hr hlk hP h (by decide) (by decide) dX11_about_44)
  have h := h.2
  by_cases c7_1 : p2 = (1 : Int32)
  · have h := h.1 c7_1
    refine lv_tableIn (tgt := 45) (off := 38) hx hb dX11_about_7 (by rw [c7_1]; decide) (by rw [c7_1]; decide) (by rw [c7_1]; rfl) (by decide) ?_
    refine lv_aload_n hx hb dX11_about_45 rfl (lv_at hl 0 rfl) ?_
    obtain ⟨g3, h⟩ := h
    refine q_getIN C hP (k := 4) (lay_X4 C.hA) rfl (by decide) g3 (fn_X11_123 C.hA) dX11_about_46 ?_
    exact vx_ret (q_iret C hr hlk hP h (by decide) (by decide) dX11_about_49)
  have h := h.2
  by_cases c7_2 : p2 = (2 : Int32)
  · have h := h.1 c7_2
    refine lv_tableIn (tgt := 50) (off := 43) hx hb dX11_about_7 (by rw [c7_2]; decide) (by rw [c7_2]; decide) (by rw [c7_2]; rfl) (by decide) ?_
    refine lv_aload_n hx hb dX11_about_50 rfl (lv_at hl 0 rfl) ?_
    obtain ⟨g4, h⟩ := h
    refine q_getIN C hP (k := 5) (lay_X4 C.hA) rfl (by decide) g4 (fn_X11_126 C.hA) dX11_about_51 ?_
    exact vx_ret (q_iret C hr hlk hP h (by decide) (by decide) dX11_about_54)
  have h := h.2
  by_cases c7_3 : p2 = (3 : Int32)
  · have h := h.1 c7_3
    refine lv_tableIn (tgt := 55) (off := 48) hx hb dX11_about_7 (by rw [c7_3]; decide) (by rw [c7_3]; decide) (by rw [c7_3]; rfl) (by decide) ?_
    refine lv_aload_n hx hb dX11_about_55 rfl (lv_at hl 0 rfl) ?_
    obtain ⟨g5, h⟩ := h
    refine q_getIN C hP (k := 6) (lay_X4 C.hA) rfl (by decide) g5 (fn_X11_129 C.hA) dX11_about_56 ?_
    exact vx_ret (q_iret C hr hlk hP h (by decide) (by decide) dX11_about_59)
  have h := h.2
  by_cases c7_4 : p2 = (4 : Int32)
  · have h := h.1 c7_4
    refine lv_tableIn (tgt := 60) (off := 53) hx hb dX11_about_7 (by rw [c7_4]; decide) (by rw [c7_4]; decide) (by rw [c7_4]; rfl) (by decide) ?_
    refine lv_aload_n hx hb dX11_about_60 rfl (lv_at hl 0 rfl) ?_
    obtain ⟨g6, h⟩ := h
    refine q_getIN C hP (k := 7) (lay_X4 C.hA) rfl (by decide) g6 (fn_X11_132 C.hA) dX11_about_61 ?_
    exact vx_ret (q_iret C hr hlk hP h (by decide) (by decide) dX11_about_64)
  have h := h.2
  have h := h ⟨c7_0, c7_1, c7_2, c7_3, c7_4⟩
  refine lv_tableOut (tgt := 65) hx hb dX11_about_7 (by have := lv_neT c7_0 (a := 0) (by decide); have := lv_neT c7_1 (a := 1) (by decide); have := lv_neT c7_2 (a := 2) (by decide); have := lv_neT c7_3 (a := 3) (by decide); have := lv_neT c7_4 (a := 4) (by decide); omega) (by decide) ?_
  exact q_thrN C hst hxt hlk hP 11 (by decide) rfl rfl (by decide) (cl_X11_115 C.hA) (ini_java_util_NoSuchElementException C.hA) (thN C.hA) thN_g hl.1 h dX11_about_65 dX11_about_68 dX11_about_69 dX11_about_71 dX11_about_74 ⟨Nat.le_of_ble_eq_true rfl, Nat.le_of_ble_eq_true rfl, Nat.le_of_ble_eq_true rfl, Nat.le_of_ble_eq_true rfl⟩ (Nat.le_of_ble_eq_true rfl) (Nat.le_of_ble_eq_true rfl)
-- X11_needPlace
abbrev rm_X11_needPlace : Room := { frames := 6, cells := 1, slots := 6, locals := 82 }
theorem hd_X11_needPlace : yX11_needPlace.cls ≠ "java/lang/invoke/MethodHandle" ∧ yX11_needPlace.cls ≠ "java/lang/invoke/VarHandle" ∧ (parseMethodDescriptor yX11_needPlace.desc).map (fun d => d.parameters.length) = some 2 := by decide +kernel
def V_X11_needPlace (G : Gx) (p0 : Int32) (p1 : Int32) (u : Mm) (Q : Mm → Prop) (X : String → Mm → Prop) : Prop :=
  V_X11_isPlace G p0 p1 u (fun (v_2 : Int32) (u_2 : Mm) => ((v_2 = 0 → X "java/util/NoSuchElementException" u_2) ∧ (¬ v_2 = 0 → Q u_2)))
set_option maxHeartbeats 4000000 in
set_option maxRecDepth 100000 in
theorem c_X11_needPlace {l : Launch} (hst : l.stackTraces = false) {G : Gx} {p0 : Int32} {p1 : Int32} {u : Mm} {Q : Mm → Prop} {X : String → Mm → Prop} (h : V_X11_needPlace G p0 p1 u Q X) : vx_Met l yX11_needPlace [.code yX11_needPlace cX11_needPlace 2 none] rm_X11_needPlace (va_Pc [.int p0, .int p1] (Wd G u)) (Ev G Q) (Xe G X) 1 6 (ag G) := by
  refine q_metX (by decide) (Nat.le_of_ble_eq_true rfl) ?_
  intro p e s m below meth c ls C hr hlk hnm hxt hl hP
  have hl : lv_has ls 2 [(0, .int p0), (1, .int p1)] := hl
  generalize ([.int p0, .int p1] : List Value).toArray = args
  have hx := C.1
  have hb := C.2.1
  unfold V_X11_needPlace at h
  refine lv_iload_n hx hb dX11_needPlace_0 rfl (lv_at hl 0 rfl) ?_
  refine lv_iload_n hx hb dX11_needPlace_1 rfl (lv_at hl 1 rfl) ?_
  refine q_cali (q_runS C hP (c_X11_isPlace h) (cd_X11_isPlace C.hA) (ini_X11 C.hA) (ml_X11_166 C.hA) (st_X11_isPlace C.hA) hd_X11_isPlace ⟨rfl, rfl⟩ ⟨Nat.le_of_ble_eq_true rfl, Nat.le_of_ble_eq_true rfl⟩ ⟨Nat.le_of_ble_eq_true rfl, Nat.le_of_ble_eq_true rfl⟩ hl.1 rfl (Nat.le_of_ble_eq_true rfl) dX11_needPlace_2) hP (fun v_2 u_2 H locs h hP => ?_)
  refine lv_if_ne (tgt := 19) hx hb dX11_needPlace_5 (by decide) (fun c5 => ?_) (fun c5 => ?_)
  · have h := h.2 c5
    exact vx_ret (q_vret C hr hlk hP h (by decide) (by decide) dX11_needPlace_19)
  · have h := h.1 c5
    exact q_thrNW C hst hxt hlk hP 12 (by decide) rfl rfl (by decide) (cl_X11_115 C.hA) (ini_java_util_NoSuchElementException C.hA) (thN C.hA) thN_g hl.1 h dX11_needPlace_8 dX11_needPlace_11 dX11_needPlace_12 dX11_needPlace_15 dX11_needPlace_18 ⟨Nat.le_of_ble_eq_true rfl, Nat.le_of_ble_eq_true rfl, Nat.le_of_ble_eq_true rfl, Nat.le_of_ble_eq_true rfl⟩ (Nat.le_of_ble_eq_true rfl) (Nat.le_of_ble_eq_true rfl)
-- X11_needYear
abbrev rm_X11_needYear : Room := { frames := 6, cells := 1, slots := 6, locals := 82 }
theorem hd_X11_needYear : yX11_needYear.cls ≠ "java/lang/invoke/MethodHandle" ∧ yX11_needYear.cls ≠ "java/lang/invoke/VarHandle" ∧ (parseMethodDescriptor yX11_needYear.desc).map (fun d => d.parameters.length) = some 1 := by decide +kernel
def V_X11_needYear (G : Gx) (p0 : Int32) (u : Mm) (Q : Mm → Prop) (X : String → Mm → Prop) : Prop :=
  V_X11_isYear G p0 u (fun (v_1 : Int32) (u_1 : Mm) => ((v_1 = 0 → X "java/util/NoSuchElementException" u_1) ∧ (¬ v_1 = 0 → Q u_1)))
set_option maxHeartbeats 4000000 in
set_option maxRecDepth 100000 in
theorem c_X11_needYear {l : Launch} (hst : l.stackTraces = false) {G : Gx} {p0 : Int32} {u : Mm} {Q : Mm → Prop} {X : String → Mm → Prop} (h : V_X11_needYear G p0 u Q X) : vx_Met l yX11_needYear [.code yX11_needYear cX11_needYear 1 none] rm_X11_needYear (va_Pc [.int p0] (Wd G u)) (Ev G Q) (Xe G X) 1 6 (ag G) := by
  refine q_metX (by decide) (Nat.le_of_ble_eq_true rfl) ?_
  intro p e s m below meth c ls C hr hlk hnm hxt hl hP
  have hl : lv_has ls 1 [(0, .int p0)] := hl
  generalize ([.int p0] : List Value).toArray = args
  have hx := C.1
  have hb := C.2.1
  unfold V_X11_needYear at h
  refine lv_iload_n hx hb dX11_needYear_0 rfl (lv_at hl 0 rfl) ?_
  refine q_cali (q_runS C hP (c_X11_isYear h) (cd_X11_isYear C.hA) (ini_X11 C.hA) (ml_X11_170 C.hA) (st_X11_isYear C.hA) hd_X11_isYear ⟨rfl, rfl⟩ ⟨Nat.le_of_ble_eq_true rfl, Nat.le_of_ble_eq_true rfl⟩ ⟨Nat.le_of_ble_eq_true rfl, Nat.le_of_ble_eq_true rfl⟩ hl.1 rfl (Nat.le_of_ble_eq_true rfl) dX11_needYear_1) hP (fun v_1 u_1 H locs h hP => ?_)
  refine lv_if_ne (tgt := 18) hx hb dX11_needYear_4 (by decide) (fun c4 => ?_) (fun c4 => ?_)
  · have h := h.2 c4
    exact vx_ret (q_vret C hr hlk hP h (by decide) (by decide) dX11_needYear_18)
  · have h := h.1 c4
    exact q_thrNW C hst hxt hlk hP 13 (by decide) rfl rfl (by decide) (cl_X11_115 C.hA) (ini_java_util_NoSuchElementException C.hA) (thN C.hA) thN_g hl.1 h dX11_needYear_7 dX11_needYear_10 dX11_needYear_11 dX11_needYear_14 dX11_needYear_17 ⟨Nat.le_of_ble_eq_true rfl, Nat.le_of_ble_eq_true rfl, Nat.le_of_ble_eq_true rfl, Nat.le_of_ble_eq_true rfl⟩ (Nat.le_of_ble_eq_true rfl) (Nat.le_of_ble_eq_true rfl)
-- X11_needTone
abbrev rm_X11_needTone : Room := { frames := 6, cells := 1, slots := 6, locals := 82 }
theorem hd_X11_needTone : yX11_needTone.cls ≠ "java/lang/invoke/MethodHandle" ∧ yX11_needTone.cls ≠ "java/lang/invoke/VarHandle" ∧ (parseMethodDescriptor yX11_needTone.desc).map (fun d => d.parameters.length) = some 1 := by decide +kernel
def V_X11_needTone (G : Gx) (p0 : Int32) (u : Mm) (Q : Mm → Prop) (X : String → Mm → Prop) : Prop :=
  V_X11_isTone G p0 u (fun (v_1 : Int32) (u_1 : Mm) => ((v_1 = 0 → X "java/util/NoSuchElementException" u_1) ∧ (¬ v_1 = 0 → Q u_1)))
set_option maxHeartbeats 4000000 in
set_option maxRecDepth 100000 in
theorem c_X11_needTone {l : Launch} (hst : l.stackTraces = false) {G : Gx} {p0 : Int32} {u : Mm} {Q : Mm → Prop} {X : String → Mm → Prop} (h : V_X11_needTone G p0 u Q X) : vx_Met l yX11_needTone [.code yX11_needTone cX11_needTone 1 none] rm_X11_needTone (va_Pc [.int p0] (Wd G u)) (Ev G Q) (Xe G X) 1 6 (ag G) := by
  refine q_metX (by decide) (Nat.le_of_ble_eq_true rfl) ?_
  intro p e s m below meth c ls C hr hlk hnm hxt hl hP
  have hl : lv_has ls 1 [(0, .int p0)] := hl
  generalize ([.int p0] : List Value).toArray = args
  have hx := C.1
  have hb := C.2.1
  unfold V_X11_needTone at h
  refine lv_iload_n hx hb dX11_needTone_0 rfl (lv_at hl 0 rfl) ?_
  refine q_cali (q_runS C hP (c_X11_isTone h) (cd_X11_isTone C.hA) (ini_X11 C.hA) (ml_X11_174 C.hA) (st_X11_isTone C.hA) hd_X11_isTone ⟨rfl, rfl⟩ ⟨Nat.le_of_ble_eq_true rfl, Nat.le_of_ble_eq_true rfl⟩ ⟨Nat.le_of_ble_eq_true rfl, Nat.le_of_ble_eq_true rfl⟩ hl.1 rfl (Nat.le_of_ble_eq_true rfl) dX11_needTone_1) hP (fun v_1 u_1 H locs h hP => ?_)
  refine lv_if_ne (tgt := 18) hx hb dX11_needTone_4 (by decide) (fun c4 => ?_) (fun c4 => ?_)
  · have h := h.2 c4
    exact vx_ret (q_vret C hr hlk hP h (by decide) (by decide) dX11_needTone_18)
  · have h := h.1 c4
    exact q_thrNW C hst hxt hlk hP 14 (by decide) rfl rfl (by decide) (cl_X11_115 C.hA) (ini_java_util_NoSuchElementException C.hA) (thN C.hA) thN_g hl.1 h dX11_needTone_7 dX11_needTone_10 dX11_needTone_11 dX11_needTone_14 dX11_needTone_17 ⟨Nat.le_of_ble_eq_true rfl, Nat.le_of_ble_eq_true rfl, Nat.le_of_ble_eq_true rfl, Nat.le_of_ble_eq_true rfl⟩ (Nat.le_of_ble_eq_true rfl) (Nat.le_of_ble_eq_true rfl)
-- X11_needClap
abbrev rm_X11_needClap : Room := { frames := 7, cells := 4, slots := 24, locals := 103 }
theorem hd_X11_needClap : yX11_needClap.cls ≠ "java/lang/invoke/MethodHandle" ∧ yX11_needClap.cls ≠ "java/lang/invoke/VarHandle" ∧ (parseMethodDescriptor yX11_needClap.desc).map (fun d => d.parameters.length) = some 5 := by decide +kernel
def V_X11_needClap (G : Gx) (p0 : Nat) (p1 : Int32) (p2 : Int32) (p3 : Int32) (p4 : Int32) (p5 : Int32) (u : Mm) (Q : Nat → Mm → Prop) (X : String → Mm → Prop) : Prop :=
  kd G p0 = 11 ∧ V_X11_needLand G p0 p1 u (fun (v_2 : Nat) (u_2 : Mm) => V_X11_needPlace G p2 p3 u_2 (fun (u_9 : Mm) => V_X11_needYear G p4 u_9 (fun (u_14 : Mm) => V_X11_needTone G p5 u_14 (fun (u_19 : Mm) => Q v_2 u_19) X) X) X) X
set_option maxHeartbeats 4000000 in
set_option maxRecDepth 100000 in
theorem c_X11_needClap {l : Launch} (hst : l.stackTraces = false) {G : Gx} {p0 : Nat} {p1 : Int32} {p2 : Int32} {p3 : Int32} {p4 : Int32} {p5 : Int32} {u : Mm} {Q : Nat → Mm → Prop} {X : String → Mm → Prop} (h : V_X11_needClap G p0 p1 p2 p3 p4 p5 u Q X) : vx_Met l yX11_needClap [.code yX11_needClap cX11_needClap 7 (some (.object "ClapValley$Land"))] rm_X11_needClap (va_Pc [.ref p0, .int p1, .int p2, .int p3, .int p4, .int p5] (Wd G u)) (Er G Q) (Xe G X) 4 24 (ag G) := by
  refine q_metX (by decide) (Nat.le_of_ble_eq_true rfl) ?_
  intro p e s m below meth c ls C hr hlk hnm hxt hl hP
  have hl : lv_has ls 7 [(0, .ref p0), (1, .int p1), (2, .int p2), (3, .int p3), (4, .int p4), (5, .int p5)] := hl
  generalize ([.ref p0, .int p1, .int p2, .int p3, .int p4, .int p5] : List Value).toArray = args
  have hx := C.1
  have hb := C.2.1
  unfold V_X11_needClap at h
  refine lv_aload_n hx hb dX11_needClap_0 rfl (lv_at hl 0 rfl) ?_
  refine lv_iload_n hx hb dX11_needClap_1 rfl (lv_at hl 1 rfl) ?_
  obtain ⟨g1, h⟩ := h
  refine q_calrX hxt hlk (q_runVX C hP (c_X11_needLand hst h) (cd_X11_needLand C.hA) (ini_X11 C.hA) (ml_X11_84 C.hA) (im_X11_needLand C.hA) (sl_X11_needLand C.hA) g1 (by decide) rfl hd_X11_needLand ⟨rfl, rfl⟩ ⟨Nat.le_of_ble_eq_true rfl, Nat.le_of_ble_eq_true rfl⟩ ⟨Nat.le_of_ble_eq_true rfl, Nat.le_of_ble_eq_true rfl⟩ hl.1 rfl (Nat.le_of_ble_eq_true rfl) dX11_needClap_2) hP (Nat.le_of_ble_eq_true rfl) (Nat.le_of_ble_eq_true rfl) (fun v_2 u_2 H locs h hP => ?_)
  refine lv_astore (lv' := [(6, .ref v_2), (0, .ref p0), (1, .int p1), (2, .int p2), (3, .int p3), (4, .int p4), (5, .int p5)]) hx hb dX11_needClap_5 hl (by decide) rfl (fun ls hl => ?_)
  refine lv_iload_n hx hb dX11_needClap_7 rfl (lv_at hl 3 rfl) ?_
  refine lv_iload_n hx hb dX11_needClap_8 rfl (lv_at hl 4 rfl) ?_
  refine q_calvX hxt hlk (q_runSX C hP (c_X11_needPlace hst h) (cd_X11_needPlace C.hA) (ini_X11 C.hA) (ml_X11_318 C.hA) (st_X11_needPlace C.hA) hd_X11_needPlace ⟨rfl, rfl⟩ ⟨Nat.le_of_ble_eq_true rfl, Nat.le_of_ble_eq_true rfl⟩ ⟨Nat.le_of_ble_eq_true rfl, Nat.le_of_ble_eq_true rfl⟩ hl.1 rfl (Nat.le_of_ble_eq_true rfl) dX11_needClap_9) hP (Nat.le_of_ble_eq_true rfl) (Nat.le_of_ble_eq_true rfl) (fun u_9 H locs h hP => ?_)
  refine lv_iload hx hb dX11_needClap_12 (lv_at hl 5 rfl) ?_
  refine q_calvX hxt hlk (q_runSX C hP (c_X11_needYear hst h) (cd_X11_needYear C.hA) (ini_X11 C.hA) (ml_X11_253 C.hA) (st_X11_needYear C.hA) hd_X11_needYear ⟨rfl, rfl⟩ ⟨Nat.le_of_ble_eq_true rfl, Nat.le_of_ble_eq_true rfl⟩ ⟨Nat.le_of_ble_eq_true rfl, Nat.le_of_ble_eq_true rfl⟩ hl.1 rfl (Nat.le_of_ble_eq_true rfl) dX11_needClap_14) hP (Nat.le_of_ble_eq_true rfl) (Nat.le_of_ble_eq_true rfl) (fun u_14 H locs h hP => ?_)
  refine lv_iload hx hb dX11_needClap_17 (lv_at hl 6 rfl) ?_
  refine q_calvX hxt hlk (q_runSX C hP (c_X11_needTone hst h) (cd_X11_needTone C.hA) (ini_X11 C.hA) (ml_X11_294 C.hA) (st_X11_needTone C.hA) hd_X11_needTone ⟨rfl, rfl⟩ ⟨Nat.le_of_ble_eq_true rfl, Nat.le_of_ble_eq_true rfl⟩ ⟨Nat.le_of_ble_eq_true rfl, Nat.le_of_ble_eq_true rfl⟩ hl.1 rfl (Nat.le_of_ble_eq_true rfl) dX11_needClap_19) hP (Nat.le_of_ble_eq_true rfl) (Nat.le_of_ble_eq_true rfl) (fun u_19 H locs h hP => ?_)
  refine lv_aload hx hb dX11_needClap_22 (lv_at hl 0 rfl) ?_
  exact vx_ret (q_aret C hr hlk hP h (by decide) (by decide) dX11_needClap_24)
-- X11_clap
abbrev rm_X11_clap : Room := { frames := 8, cells := 5, slots := 30, locals := 129 }
theorem hd_X11_clap : yX11_clap.cls ≠ "java/lang/invoke/MethodHandle" ∧ yX11_clap.cls ≠ "java/lang/invoke/VarHandle" ∧ (parseMethodDescriptor yX11_clap.desc).map (fun d => d.parameters.length) = some 6 := by decide +kernel
def V_X11_clap_77 (G : Gx) (Q : Int32 → Mm → Prop) (X : String → Mm → Prop) (u : Mm) : Prop :=
  X "java/util/NoSuchElementException" u
def V_X11_clap (G : Gx) (p0 : Nat) (p1 : Int32) (p2 : Int32) (p3 : Int32) (p4 : Int32) (p5 : Int32) (p6 : Int32) (u : Mm) (Q : Int32 → Mm → Prop) (X : String → Mm → Prop) : Prop :=
  kd G p0 = 11 ∧ V_X11_needClap G p0 p1 p2 p3 p4 p5 u (fun (v_8 : Nat) (u_8 : Mm) => (gR u_8 p0 5) ≠ 0 ∧ kd G (gR u_8 p0 5) = 6 ∧ V_X6_look G (gR u_8 p0 5) v_8 p2 p3 p4 p5 u_8 (fun (u_25 : Mm) => (gR u_25 p0 7) ≠ 0 ∧ (gR u_25 p0 5) ≠ 0 ∧ kd G (gR u_25 p0 7) = 3 ∧ V_X3_gather G (gR u_25 p0 7) (gR u_25 p0 5) v_8 (0 : Int32) u_25 (fun (u_39 : Mm) => (gR u_39 p0 7) ≠ 0 ∧ kd G v_8 = 4 ∧ kd G (gR u_39 p0 7) = 3 ∧ V_X3_orderHeard G (gR u_39 p0 7) (gI u_39 v_8 6) u_39 (fun (v_51 : Int32) (u_51 : Mm) => ((p6 = (-1 : Int32) → Q v_51 u_51) ∧ (¬ p6 = (-1 : Int32) → ((p6 < 0 → V_X11_clap_77 G Q X  u_51) ∧ (¬ p6 < 0 → ((p6 < v_51 → (gR u_51 p0 7) ≠ 0 ∧ kd G (gR u_51 p0 7) = 3 ∧ (gR u_51 (gR u_51 p0 7) 6) ≠ 0 ∧ kd G (gR u_51 (gR u_51 p0 7) 6) = 13 ∧ vp_in p6 (ln G (gR u_51 (gR u_51 p0 7) 6)) ∧ V_X11_byAir G (gI u_51 (gR u_51 (gR u_51 p0 7) 6) p6.toNatClampNeg) (gI u_51 v_8 7) u_51 (fun (v_102 : Int32) (u_102 : Mm) => Q v_102 u_102)) ∧ (¬ p6 < v_51 → V_X11_clap_77 G Q X  u_51)))))))))) X
set_option maxHeartbeats 4000000 in
set_option maxRecDepth 100000 in
theorem b_X11_clap_77 {G : Gx} {Q : Int32 → Mm → Prop} {X : String → Mm → Prop} {p : Program} {l : Launch} {e : Env} {s : State} {m : MethodId} {args : Array Value} {below : List Frame} {meth : Method} {c : Code} (hst : l.stackTraces = false) (C : Cx G p s m c cX11_clap RX11 9) (hr : meth.sig.returnType = (some .int)) (hlk : meth.locks = false) (hxt : ∀ x ∈ c.exceptionTable.toList, False) {u : Mm} {H : Heap} {locs : List Loc} {ls : Array Slot} (h : V_X11_clap_77 G Q X  u) (hl : lv_has ls 9 []) (hP : Hp G u s H locs) : W p l e rm_X11_clap s m args below meth c H locs 4 24 (vx_MQ below (Ei G Q) (Xe G X) args s 5 30 (ag G)) (F0 m 77 ls []) := by
  have hx := C.1
  have hb := C.2.1
  unfold V_X11_clap_77 at h
  exact q_thrN C hst hxt hlk hP 15 (by decide) rfl rfl (by decide) (cl_X11_115 C.hA) (ini_java_util_NoSuchElementException C.hA) (thN C.hA) thN_g hl.1 h dX11_clap_77 dX11_clap_80 dX11_clap_81 dX11_clap_83 dX11_clap_86 ⟨Nat.le_of_ble_eq_true rfl, Nat.le_of_ble_eq_true rfl, Nat.le_of_ble_eq_true rfl, Nat.le_of_ble_eq_true rfl⟩ (Nat.le_of_ble_eq_true rfl) (Nat.le_of_ble_eq_true rfl)
set_option maxHeartbeats 4000000 in
set_option maxRecDepth 100000 in
theorem c_X11_clap {l : Launch} (hst : l.stackTraces = false) {G : Gx} {p0 : Nat} {p1 : Int32} {p2 : Int32} {p3 : Int32} {p4 : Int32} {p5 : Int32} {p6 : Int32} {u : Mm} {Q : Int32 → Mm → Prop} {X : String → Mm → Prop} (h : V_X11_clap G p0 p1 p2 p3 p4 p5 p6 u Q X) : vx_Met l yX11_clap [.code yX11_clap cX11_clap 9 (some .int)] rm_X11_clap (va_Pc [.ref p0, .int p1, .int p2, .int p3, .int p4, .int p5, .int p6] (Wd G u)) (Ei G Q) (Xe G X) 5 30 (ag G) := by
  refine q_metX (by decide) (Nat.le_of_ble_eq_true rfl) ?_
  intro p e s m below meth c ls C hr hlk hnm hxt hl hP
  have hl : lv_has ls 9 [(0, .ref p0), (1, .int p1), (2, .int p2), (3, .int p3), (4, .int p4), (5, .int p5), (6, .int p6)] := hl
  generalize ([.ref p0, .int p1, .int p2, .int p3, .int p4, .int p5, .int p6] : List Value).toArray = args
  have hx := C.1
  have hb := C.2.1
  unfold V_X11_clap at h
  refine lv_aload_n hx hb dX11_clap_0 rfl (lv_at hl 0 rfl) ?_
  refine lv_iload_n hx hb dX11_clap_1 rfl (lv_at hl 1 rfl) ?_
  refine lv_iload_n hx hb dX11_clap_2 rfl (lv_at hl 2 rfl) ?_
  refine lv_iload_n hx hb dX11_clap_3 rfl (lv_at hl 3 rfl) ?_
  refine lv_iload hx hb dX11_clap_4 (lv_at hl 4 rfl) ?_
  refine lv_iload hx hb dX11_clap_6 (lv_at hl 5 rfl) ?_
  obtain ⟨g1, h⟩ := h
  refine q_calrX hxt hlk (q_runVX C hP (c_X11_needClap hst h) (cd_X11_needClap C.hA) (ini_X11 C.hA) (ml_X11_137 C.hA) (im_X11_needClap C.hA) (sl_X11_needClap C.hA) g1 (by decide) rfl hd_X11_needClap ⟨rfl, rfl⟩ ⟨Nat.le_of_ble_eq_true rfl, Nat.le_of_ble_eq_true rfl⟩ ⟨Nat.le_of_ble_eq_true rfl, Nat.le_of_ble_eq_true rfl⟩ hl.1 rfl (Nat.le_of_ble_eq_true rfl) dX11_clap_8) hP (Nat.le_of_ble_eq_true rfl) (Nat.le_of_ble_eq_true rfl) (fun v_8 u_8 H locs h hP => ?_)
  refine lv_astore (lv' := [(7, .ref v_8), (0, .ref p0), (1, .int p1), (2, .int p2), (3, .int p3), (4, .int p4), (5, .int p5), (6, .int p6)]) hx hb dX11_clap_11 hl (by decide) rfl (fun ls hl => ?_)
  refine lv_aload_n hx hb dX11_clap_13 rfl (lv_at hl 1 rfl) ?_
  obtain ⟨g2, h⟩ := h
  refine q_getR C hP (k := 5) (lay_X11 C.hA) rfl (by decide) g1 g2 (fl_X11_40 C.hA) dX11_clap_14 ?_
  refine lv_aload hx hb dX11_clap_17 (lv_at hl 0 rfl) ?_
  refine lv_iload_n hx hb dX11_clap_19 rfl (lv_at hl 3 rfl) ?_
  refine lv_iload_n hx hb dX11_clap_20 rfl (lv_at hl 4 rfl) ?_
  refine lv_iload hx hb dX11_clap_21 (lv_at hl 5 rfl) ?_
  refine lv_iload hx hb dX11_clap_23 (lv_at hl 6 rfl) ?_
  obtain ⟨g3, h⟩ := h
  refine q_calv (q_runVN C hP (c_X6_look h) (cd_X6_look C.hA) (ini_X6 C.hA) (mn_X11_141 C.hA) (im_X6_look C.hA) (sl_X6_look C.hA) g3 (by decide) rfl hd_X6_look ⟨rfl, rfl⟩ ⟨Nat.le_of_ble_eq_true rfl, Nat.le_of_ble_eq_true rfl⟩ ⟨Nat.le_of_ble_eq_true rfl, Nat.le_of_ble_eq_true rfl⟩ hl.1 rfl (Nat.le_of_ble_eq_true rfl) dX11_clap_25) hP (fun u_25 H locs h hP => ?_)
  refine lv_aload_n hx hb dX11_clap_28 rfl (lv_at hl 1 rfl) ?_
  obtain ⟨g4, h⟩ := h
  refine q_getR C hP (k := 7) (lay_X11 C.hA) rfl (by decide) g1 g4 (fl_X11_51 C.hA) dX11_clap_29 ?_
  refine lv_aload_n hx hb dX11_clap_32 rfl (lv_at hl 1 rfl) ?_
  obtain ⟨g5, h⟩ := h
  refine q_getR C hP (k := 5) (lay_X11 C.hA) rfl (by decide) g1 g5 (fl_X11_40 C.hA) dX11_clap_33 ?_
  refine lv_aload hx hb dX11_clap_36 (lv_at hl 0 rfl) ?_
  refine lv_iconst (v := (0 : Int32)) hx hb dX11_clap_38 (by decide) ?_
  obtain ⟨g6, h⟩ := h
  refine q_calv (q_runVN C hP (c_X3_gather h) (cd_X3_gather C.hA) (ini_X3 C.hA) (mn_X11_145 C.hA) (im_X3_gather C.hA) (sl_X3_gather C.hA) g6 (by decide) rfl hd_X3_gather ⟨rfl, rfl⟩ ⟨Nat.le_of_ble_eq_true rfl, Nat.le_of_ble_eq_true rfl⟩ ⟨Nat.le_of_ble_eq_true rfl, Nat.le_of_ble_eq_true rfl⟩ hl.1 rfl (Nat.le_of_ble_eq_true rfl) dX11_clap_39) hP (fun u_39 H locs h hP => ?_)
  refine lv_aload_n hx hb dX11_clap_42 rfl (lv_at hl 1 rfl) ?_
  obtain ⟨g7, h⟩ := h
  refine q_getR C hP (k := 7) (lay_X11 C.hA) rfl (by decide) g1 g7 (fl_X11_51 C.hA) dX11_clap_43 ?_
  refine lv_aload hx hb dX11_clap_46 (lv_at hl 0 rfl) ?_
  obtain ⟨g8, h⟩ := h
  refine q_getIN C hP (k := 6) (lay_X4 C.hA) rfl (by decide) g8 (fn_X11_129 C.hA) dX11_clap_48 ?_
  obtain ⟨g9, h⟩ := h
  refine q_cali (q_runVN C hP (c_X3_orderHeard h) (cd_X3_orderHeard C.hA) (ini_X3 C.hA) (mn_X11_149 C.hA) (im_X3_orderHeard C.hA) (sl_X3_orderHeard C.hA) g9 (by decide) rfl hd_X3_orderHeard ⟨rfl, rfl⟩ ⟨Nat.le_of_ble_eq_true rfl, Nat.le_of_ble_eq_true rfl⟩ ⟨Nat.le_of_ble_eq_true rfl, Nat.le_of_ble_eq_true rfl⟩ hl.1 rfl (Nat.le_of_ble_eq_true rfl) dX11_clap_51) hP (fun v_51 u_51 H locs h hP => ?_)
  refine lv_istore (lv' := [(8, .int v_51), (7, .ref v_8), (0, .ref p0), (1, .int p1), (2, .int p2), (3, .int p3), (4, .int p4), (5, .int p5), (6, .int p6)]) hx hb dX11_clap_54 hl (by decide) rfl (fun ls hl => ?_)
  refine lv_iload hx hb dX11_clap_56 (lv_at hl 8 rfl) ?_
  refine lv_iconst (v := (-1 : Int32)) hx hb dX11_clap_58 (by decide) ?_
  refine lv_icmp_ne (tgt := 65) hx hb dX11_clap_59 (by decide) (fun c59 => ?_) (fun c59 => ?_)
  · have h := h.2 c59
    refine lv_iload hx hb dX11_clap_65 (lv_at hl 8 rfl) ?_
    refine lv_if_lt (tgt := 77) hx hb dX11_clap_67 (by decide) (fun c67 => ?_) (fun c67 => ?_)
    · have h := h.1 c67
      exact b_X11_clap_77 hst C hr hlk hxt h (lv_sub hl [] rfl) hP
    · have h := h.2 c67
      refine lv_iload hx hb dX11_clap_70 (lv_at hl 8 rfl) ?_
      refine lv_iload hx hb dX11_clap_72 (lv_at hl 0 rfl) ?_
      refine lv_icmp_lt (tgt := 87) hx hb dX11_clap_74 (by decide) (fun c74 => ?_) (fun c74 => ?_)
      · have h := h.1 c74
        refine lv_aload_n hx hb dX11_clap_87 rfl (lv_at hl 2 rfl) ?_
        obtain ⟨g10, h⟩ := h
        refine q_getR C hP (k := 7) (lay_X11 C.hA) rfl (by decide) g1 g10 (fl_X11_51 C.hA) dX11_clap_88 ?_
        obtain ⟨g11, h⟩ := h
        obtain ⟨g12, h⟩ := h
        refine q_getRN C hP (k := 6) (lay_X3 C.hA) rfl (by decide) g11 g12 (fn_X11_154 C.hA) dX11_clap_91 ?_
        refine lv_iload hx hb dX11_clap_94 (lv_at hl 8 rfl) ?_
        obtain ⟨g13, h⟩ := h
        obtain ⟨g14, h⟩ := h
        refine q_iald C hP g13 g14 dX11_clap_96 ?_
        refine lv_aload hx hb dX11_clap_97 (lv_at hl 1 rfl) ?_
        refine q_getIN C hP (k := 7) (lay_X4 C.hA) rfl (by decide) g8 (fn_X11_132 C.hA) dX11_clap_99 ?_
        refine q_cali (q_runS C hP (c_X11_byAir h) (cd_X11_byAir C.hA) (ini_X11 C.hA) (ml_X11_157 C.hA) (st_X11_byAir C.hA) hd_X11_byAir ⟨rfl, rfl⟩ ⟨Nat.le_of_ble_eq_true rfl, Nat.le_of_ble_eq_true rfl⟩ ⟨Nat.le_of_ble_eq_true rfl, Nat.le_of_ble_eq_true rfl⟩ hl.1 rfl (Nat.le_of_ble_eq_true rfl) dX11_clap_102) hP (fun v_102 u_102 H locs h hP => ?_)
        exact vx_ret (q_iret C hr hlk hP h (by decide) (by decide) dX11_clap_105)
      · have h := h.2 c74
        exact b_X11_clap_77 hst C hr hlk hxt h (lv_sub hl [] rfl) hP
  · have h := h.1 c59
    refine lv_iload hx hb dX11_clap_62 (lv_at hl 0 rfl) ?_
    exact vx_ret (q_iret C hr hlk hP h (by decide) (by decide) dX11_clap_64)
-- X11_strength
abbrev rm_X11_strength : Room := { frames := 8, cells := 5, slots := 30, locals := 129 }
theorem hd_X11_strength : yX11_strength.cls ≠ "java/lang/invoke/MethodHandle" ∧ yX11_strength.cls ≠ "java/lang/invoke/VarHandle" ∧ (parseMethodDescriptor yX11_strength.desc).map (fun d => d.parameters.length) = some 6 := by decide +kernel
def V_X11_strength_25 (G : Gx) (Q : Int32 → Mm → Prop) (X : String → Mm → Prop) (u : Mm) : Prop :=
  X "java/util/NoSuchElementException" u
def V_X11_strength (G : Gx) (p0 : Nat) (p1 : Int32) (p2 : Int32) (p3 : Int32) (p4 : Int32) (p5 : Int32) (p6 : Int32) (u : Mm) (Q : Int32 → Mm → Prop) (X : String → Mm → Prop) : Prop :=
  kd G p0 = 11 ∧ V_X11_needClap G p0 p1 p2 p3 p4 p5 u (fun (v_8 : Nat) (u_8 : Mm) => ((p6 < 0 → V_X11_strength_25 G Q X  u_8) ∧ (¬ p6 < 0 → ((p6 < (80 : Int32) → (gR u_8 p0 5) ≠ 0 ∧ kd G (gR u_8 p0 5) = 6 ∧ V_X6_look G (gR u_8 p0 5) v_8 p2 p3 p4 p5 u_8 (fun (u_47 : Mm) => (gR u_47 p0 7) ≠ 0 ∧ (gR u_47 p0 5) ≠ 0 ∧ kd G (gR u_47 p0 7) = 3 ∧ V_X3_gather G (gR u_47 p0 7) (gR u_47 p0 5) v_8 (0 : Int32) u_47 (fun (u_61 : Mm) => (gR u_61 p0 7) ≠ 0 ∧ kd G (gR u_61 p0 7) = 3 ∧ V_X3_strengthOf G (gR u_61 p0 7) p6 u_61 (fun (v_70 : Int32) (u_70 : Mm) => Q v_70 u_70)))) ∧ (¬ p6 < (80 : Int32) → V_X11_strength_25 G Q X  u_8))))) X
set_option maxHeartbeats 4000000 in
set_option maxRecDepth 100000 in
theorem b_X11_strength_25 {G : Gx} {Q : Int32 → Mm → Prop} {X : String → Mm → Prop} {p : Program} {l : Launch} {e : Env} {s : State} {m : MethodId} {args : Array Value} {below : List Frame} {meth : Method} {c : Code} (hst : l.stackTraces = false) (C : Cx G p s m c cX11_strength RX11 8) (hr : meth.sig.returnType = (some .int)) (hlk : meth.locks = false) (hxt : ∀ x ∈ c.exceptionTable.toList, False) {u : Mm} {H : Heap} {locs : List Loc} {ls : Array Slot} (h : V_X11_strength_25 G Q X  u) (hl : lv_has ls 8 []) (hP : Hp G u s H locs) : W p l e rm_X11_strength s m args below meth c H locs 4 24 (vx_MQ below (Ei G Q) (Xe G X) args s 5 30 (ag G)) (F0 m 25 ls []) := by
  have hx := C.1
  have hb := C.2.1
  unfold V_X11_strength_25 at h
  exact q_thrN C hst hxt hlk hP 16 (by decide) rfl rfl (by decide) (cl_X11_115 C.hA) (ini_java_util_NoSuchElementException C.hA) (thN C.hA) thN_g hl.1 h dX11_strength_25 dX11_strength_28 dX11_strength_29 dX11_strength_31 dX11_strength_34 ⟨Nat.le_of_ble_eq_true rfl, Nat.le_of_ble_eq_true rfl, Nat.le_of_ble_eq_true rfl, Nat.le_of_ble_eq_true rfl⟩ (Nat.le_of_ble_eq_true rfl) (Nat.le_of_ble_eq_true rfl)
set_option maxHeartbeats 4000000 in
set_option maxRecDepth 100000 in
theorem c_X11_strength {l : Launch} (hst : l.stackTraces = false) {G : Gx} {p0 : Nat} {p1 : Int32} {p2 : Int32} {p3 : Int32} {p4 : Int32} {p5 : Int32} {p6 : Int32} {u : Mm} {Q : Int32 → Mm → Prop} {X : String → Mm → Prop} (h : V_X11_strength G p0 p1 p2 p3 p4 p5 p6 u Q X) : vx_Met l yX11_strength [.code yX11_strength cX11_strength 8 (some .int)] rm_X11_strength (va_Pc [.ref p0, .int p1, .int p2, .int p3, .int p4, .int p5, .int p6] (Wd G u)) (Ei G Q) (Xe G X) 5 30 (ag G) := by
  refine q_metX (by decide) (Nat.le_of_ble_eq_true rfl) ?_
  intro p e s m below meth c ls C hr hlk hnm hxt hl hP
  have hl : lv_has ls 8 [(0, .ref p0), (1, .int p1), (2, .int p2), (3, .int p3), (4, .int p4), (5, .int p5), (6, .int p6)] := hl
  generalize ([.ref p0, .int p1, .int p2, .int p3, .int p4, .int p5, .int p6] : List Value).toArray = args
  have hx := C.1
  have hb := C.2.1
  unfold V_X11_strength at h
  refine lv_aload_n hx hb dX11_strength_0 rfl (lv_at hl 0 rfl) ?_
  refine lv_iload_n hx hb dX11_strength_1 rfl (lv_at hl 1 rfl) ?_
  refine lv_iload_n hx hb dX11_strength_2 rfl (lv_at hl 2 rfl) ?_
  refine lv_iload_n hx hb dX11_strength_3 rfl (lv_at hl 3 rfl) ?_
  refine lv_iload hx hb dX11_strength_4 (lv_at hl 4 rfl) ?_
  refine lv_iload hx hb dX11_strength_6 (lv_at hl 5 rfl) ?_
  obtain ⟨g1, h⟩ := h
  refine q_calrX hxt hlk (q_runVX C hP (c_X11_needClap hst h) (cd_X11_needClap C.hA) (ini_X11 C.hA) (ml_X11_137 C.hA) (im_X11_needClap C.hA) (sl_X11_needClap C.hA) g1 (by decide) rfl hd_X11_needClap ⟨rfl, rfl⟩ ⟨Nat.le_of_ble_eq_true rfl, Nat.le_of_ble_eq_true rfl⟩ ⟨Nat.le_of_ble_eq_true rfl, Nat.le_of_ble_eq_true rfl⟩ hl.1 rfl (Nat.le_of_ble_eq_true rfl) dX11_strength_8) hP (Nat.le_of_ble_eq_true rfl) (Nat.le_of_ble_eq_true rfl) (fun v_8 u_8 H locs h hP => ?_)
  refine lv_astore (lv' := [(7, .ref v_8), (0, .ref p0), (1, .int p1), (2, .int p2), (3, .int p3), (4, .int p4), (5, .int p5), (6, .int p6)]) hx hb dX11_strength_11 hl (by decide) rfl (fun ls hl => ?_)
  refine lv_iload hx hb dX11_strength_13 (lv_at hl 7 rfl) ?_
  refine lv_if_lt (tgt := 25) hx hb dX11_strength_15 (by decide) (fun c15 => ?_) (fun c15 => ?_)
  · have h := h.1 c15
    exact b_X11_strength_25 hst C hr hlk hxt h (lv_sub hl [] rfl) hP
  · have h := h.2 c15
    refine lv_iload hx hb dX11_strength_18 (lv_at hl 7 rfl) ?_
    refine lv_bipush (v := (80 : Int32)) hx hb dX11_strength_20 (by decide) ?_
    refine lv_icmp_lt (tgt := 35) hx hb dX11_strength_22 (by decide) (fun c22 => ?_) (fun c22 => ?_)
    · have h := h.1 c22
      refine lv_aload_n hx hb dX11_strength_35 rfl (lv_at hl 1 rfl) ?_
      obtain ⟨g2, h⟩ := h
      refine q_getR C hP (k := 5) (lay_X11 C.hA) rfl (by decide) g1 g2 (fl_X11_40 C.hA) dX11_strength_36 ?_
      refine lv_aload hx hb dX11_strength_39 (lv_at hl 0 rfl) ?_
      refine lv_iload_n hx hb dX11_strength_41 rfl (lv_at hl 3 rfl) ?_
      refine lv_iload_n hx hb dX11_strength_42 rfl (lv_at hl 4 rfl) ?_
      refine lv_iload hx hb dX11_strength_43 (lv_at hl 5 rfl) ?_
      refine lv_iload hx hb dX11_strength_45 (lv_at hl 6 rfl) ?_
      obtain ⟨g3, h⟩ := h
      refine q_calv (q_runVN C hP (c_X6_look h) (cd_X6_look C.hA) (ini_X6 C.hA) (mn_X11_141 C.hA) (im_X6_look C.hA) (sl_X6_look C.hA) g3 (by decide) rfl hd_X6_look ⟨rfl, rfl⟩ ⟨Nat.le_of_ble_eq_true rfl, Nat.le_of_ble_eq_true rfl⟩ ⟨Nat.le_of_ble_eq_true rfl, Nat.le_of_ble_eq_true rfl⟩ hl.1 rfl (Nat.le_of_ble_eq_true rfl) dX11_strength_47) hP (fun u_47 H locs h hP => ?_)
      refine lv_aload_n hx hb dX11_strength_50 rfl (lv_at hl 1 rfl) ?_
      obtain ⟨g4, h⟩ := h
      refine q_getR C hP (k := 7) (lay_X11 C.hA) rfl (by decide) g1 g4 (fl_X11_51 C.hA) dX11_strength_51 ?_
      refine lv_aload_n hx hb dX11_strength_54 rfl (lv_at hl 1 rfl) ?_
      obtain ⟨g5, h⟩ := h
      refine q_getR C hP (k := 5) (lay_X11 C.hA) rfl (by decide) g1 g5 (fl_X11_40 C.hA) dX11_strength_55 ?_
      refine lv_aload hx hb dX11_strength_58 (lv_at hl 0 rfl) ?_
      refine lv_iconst (v := (0 : Int32)) hx hb dX11_strength_60 (by decide) ?_
      obtain ⟨g6, h⟩ := h
      refine q_calv (q_runVN C hP (c_X3_gather h) (cd_X3_gather C.hA) (ini_X3 C.hA) (mn_X11_145 C.hA) (im_X3_gather C.hA) (sl_X3_gather C.hA) g6 (by decide) rfl hd_X3_gather ⟨rfl, rfl⟩ ⟨Nat.le_of_ble_eq_true rfl, Nat.le_of_ble_eq_true rfl⟩ ⟨Nat.le_of_ble_eq_true rfl, Nat.le_of_ble_eq_true rfl⟩ hl.1 rfl (Nat.le_of_ble_eq_true rfl) dX11_strength_61) hP (fun u_61 H locs h hP => ?_)
      refine lv_aload_n hx hb dX11_strength_64 rfl (lv_at hl 1 rfl) ?_
      obtain ⟨g7, h⟩ := h
      refine q_getR C hP (k := 7) (lay_X11 C.hA) rfl (by decide) g1 g7 (fl_X11_51 C.hA) dX11_strength_65 ?_
      refine lv_iload hx hb dX11_strength_68 (lv_at hl 7 rfl) ?_
      obtain ⟨g8, h⟩ := h
      refine q_cali (q_runVN C hP (c_X3_strengthOf h) (cd_X3_strengthOf C.hA) (ini_X3 C.hA) (mn_X11_163 C.hA) (im_X3_strengthOf C.hA) (sl_X3_strengthOf C.hA) g8 (by decide) rfl hd_X3_strengthOf ⟨rfl, rfl⟩ ⟨Nat.le_of_ble_eq_true rfl, Nat.le_of_ble_eq_true rfl⟩ ⟨Nat.le_of_ble_eq_true rfl, Nat.le_of_ble_eq_true rfl⟩ hl.1 rfl (Nat.le_of_ble_eq_true rfl) dX11_strength_70) hP (fun v_70 u_70 H locs h hP => ?_)
      exact vx_ret (q_iret C hr hlk hP h (by decide) (by decide) dX11_strength_73)
    · have h := h.2 c22
      exact b_X11_strength_25 hst C hr hlk hxt h (lv_sub hl [] rfl) hP
-- X11_station
abbrev rm_X11_station : Room := { frames := 1, cells := 0, slots := 0, locals := 24 }
theorem hd_X11_station : yX11_station.cls ≠ "java/lang/invoke/MethodHandle" ∧ yX11_station.cls ≠ "java/lang/invoke/VarHandle" ∧ (parseMethodDescriptor yX11_station.desc).map (fun d => d.parameters.length) = some 4 := by decide +kernel
def V_X11_station_57 (G : Gx) (Q : Int32 → Mm → Prop) (x0 : Nat) (u : Mm) : Prop :=
  kd G x0 = 11 ∧ (gR u x0 2) ≠ 0 ∧ kd G (gR u x0 2) = 1 ∧ (gR u (gR u x0 2) 5) ≠ 0 ∧ kd G (gR u (gR u x0 2) 5) = 13 ∧ vp_in (1 : Int32) (ln G (gR u (gR u x0 2) 5)) ∧ ∀ u_69 : Mm, u_69 = sI u (gR u (gR u x0 2) 5) (1 : Int32).toNatClampNeg ((gI u (gR u (gR u x0 2) 5) (1 : Int32).toNatClampNeg) + (1 : Int32)) → Q (-1 : Int32) u_69
def V_X11_station_23 (G : Gx) (Q : Int32 → Mm → Prop) (x0 : Nat) (x1 : Int32) (x2 : Int32) (x3 : Int32) (x4 : Int32) (t0 : Int32) (u : Mm) : Prop :=
  ((t0 = 0 → V_X11_station_57 G Q x0 u) ∧ (¬ t0 = 0 → V_X11_isYear G x3 u (fun (v_31 : Int32) (u_31 : Mm) => ((v_31 = 0 → V_X11_station_57 G Q x0 u_31) ∧ (¬ v_31 = 0 → V_X11_isTone G x4 u_31 (fun (v_39 : Int32) (u_39 : Mm) => ((v_39 = 0 → V_X11_station_57 G Q x0 u_39) ∧ (¬ v_39 = 0 → kd G x0 = 11 ∧ (gR u_39 x0 2) ≠ 0 ∧ kd G (gR u_39 x0 2) = 1 ∧ (((gI u_39 (gR u_39 x0 2) 1) < (20 : Int32) → ∀ x6_79 : Int32, x6_79 = (gI u_39 (gR u_39 x0 2) 1) → (gR u_39 (gR u_39 x0 2) 0) ≠ 0 ∧ kd G (gR u_39 (gR u_39 x0 2) 0) = 21 ∧ vp_in x6_79 (ln G (gR u_39 (gR u_39 x0 2) 0)) ∧ (gR u_39 (gR u_39 (gR u_39 x0 2) 0) x6_79.toNatClampNeg) ≠ 0 ∧ kd G (gR u_39 (gR u_39 (gR u_39 x0 2) 0) x6_79.toNatClampNeg) = 7 ∧ V_X7_begin G (gR u_39 (gR u_39 (gR u_39 x0 2) 0) x6_79.toNatClampNeg) x1 x2 x3 x4 u_39 (fun (u_96 : Mm) => (gR u_96 x0 2) ≠ 0 ∧ kd G (gR u_96 x0 2) = 1 ∧ ∀ u_109 : Mm, u_109 = sI u_96 (gR u_96 x0 2) 1 ((gI u_96 (gR u_96 x0 2) 1) + (1 : Int32)) → Q x6_79 u_109)) ∧ (¬ (gI u_39 (gR u_39 x0 2) 1) < (20 : Int32) → V_X11_station_57 G Q x0 u_39))))))))))
def V_X11_station_22 (G : Gx) (Q : Int32 → Mm → Prop) (x0 : Nat) (x1 : Int32) (x2 : Int32) (x3 : Int32) (x4 : Int32) (u : Mm) : Prop :=
  V_X11_station_23 G Q x0 x1 x2 x3 x4 (0 : Int32) u
def V_X11_station_18 (G : Gx) (Q : Int32 → Mm → Prop) (x0 : Nat) (x1 : Int32) (x2 : Int32) (x3 : Int32) (x4 : Int32) (u : Mm) : Prop :=
  V_X11_station_23 G Q x0 x1 x2 x3 x4 (1 : Int32) u
def V_X11_station (G : Gx) (p0 : Nat) (p1 : Int32) (p2 : Int32) (p3 : Int32) (p4 : Int32) (u : Mm) (Q : Int32 → Mm → Prop) : Prop :=
  V_X11_isPlace G p1 p2 u (fun (v_2 : Int32) (u_2 : Mm) => ((v_2 = 0 → ((p1 = (-1 : Int32) → ((p2 = (-1 : Int32) → V_X11_station_18 G Q p0 p1 p2 p3 p4 u_2) ∧ (¬ p2 = (-1 : Int32) → V_X11_station_22 G Q p0 p1 p2 p3 p4 u_2))) ∧ (¬ p1 = (-1 : Int32) → V_X11_station_22 G Q p0 p1 p2 p3 p4 u_2))) ∧ (¬ v_2 = 0 → V_X11_station_18 G Q p0 p1 p2 p3 p4 u_2)))
set_option maxHeartbeats 4000000 in
set_option maxRecDepth 100000 in
theorem b_X11_station_57 {G : Gx} {Q : Int32 → Mm → Prop} {p : Program} {l : Launch} {e : Env} {s : State} {m : MethodId} {args : Array Value} {below : List Frame} {meth : Method} {c : Code} (C : Cx G p s m c cX11_station RX11 7) (hr : meth.sig.returnType = (some .int)) (hlk : meth.locks = false) {x0 : Nat} {u : Mm} {H : Heap} {locs : List Loc} {ls : Array Slot} (h : V_X11_station_57 G Q x0 u) (hl : lv_has ls 7 [(0, .ref x0)]) (hP : Hp G u s H locs) : W p l e rm_X11_station s m args below meth c H locs 0 0 (MQ below (Ei G Q) args s 0 0 (ag G)) (F0 m 57 ls []) := by
  have hx := C.1
  have hb := C.2.1
  unfold V_X11_station_57 at h
  refine lv_aload_n hx hb dX11_station_57 rfl (lv_at hl 0 rfl) ?_
  obtain ⟨g1, h⟩ := h
  obtain ⟨g2, h⟩ := h
  refine q_getR C hP (k := 2) (lay_X11 C.hA) rfl (by decide) g1 g2 (fl_X11_26 C.hA) dX11_station_58 ?_
  obtain ⟨g3, h⟩ := h
  obtain ⟨g4, h⟩ := h
  refine q_getRN C hP (k := 5) (lay_X1 C.hA) rfl (by decide) g3 g4 (fn_X11_99 C.hA) dX11_station_61 ?_
  refine lv_iconst (v := (1 : Int32)) hx hb dX11_station_64 (by decide) ?_
  refine lv_dup2_11 hx hb dX11_station_65 rfl rfl ?_
  obtain ⟨g5, h⟩ := h
  obtain ⟨g6, h⟩ := h
  refine q_iald C hP g5 g6 dX11_station_66 ?_
  refine lv_iconst (v := (1 : Int32)) hx hb dX11_station_67 (by decide) ?_
  refine lv_iadd hx hb dX11_station_68 ?_
  refine q_iast C hP g5 g6 dX11_station_69 (fun H locs hP => ?_)
  obtain ⟨u_69, eu_69, hP⟩ := Hp.nm hP
  have h := h u_69 eu_69
  refine lv_iconst (v := (-1 : Int32)) hx hb dX11_station_70 (by decide) ?_
  exact q_iret C hr hlk hP h (by decide) (by decide) dX11_station_71
set_option maxHeartbeats 4000000 in
set_option maxRecDepth 100000 in
theorem b_X11_station_23 {G : Gx} {Q : Int32 → Mm → Prop} {p : Program} {l : Launch} {e : Env} {s : State} {m : MethodId} {args : Array Value} {below : List Frame} {meth : Method} {c : Code} (C : Cx G p s m c cX11_station RX11 7) (hr : meth.sig.returnType = (some .int)) (hlk : meth.locks = false) {x0 : Nat} {x1 : Int32} {x2 : Int32} {x3 : Int32} {x4 : Int32} {t0 : Int32} {u : Mm} {H : Heap} {locs : List Loc} {ls : Array Slot} (h : V_X11_station_23 G Q x0 x1 x2 x3 x4 t0 u) (hl : lv_has ls 7 [(0, .ref x0), (1, .int x1), (2, .int x2), (3, .int x3), (4, .int x4)]) (hP : Hp G u s H locs) : W p l e rm_X11_station s m args below meth c H locs 0 0 (MQ below (Ei G Q) args s 0 0 (ag G)) (F0 m 23 ls [.int t0]) := by
  have hx := C.1
  have hb := C.2.1
  unfold V_X11_station_23 at h
  refine lv_istore (lv' := [(5, .int t0), (0, .ref x0), (1, .int x1), (2, .int x2), (3, .int x3), (4, .int x4)]) hx hb dX11_station_23 hl (by decide) rfl (fun ls hl => ?_)
  refine lv_iload hx hb dX11_station_25 (lv_at hl 0 rfl) ?_
  refine lv_if_eq (tgt := 57) hx hb dX11_station_27 (by decide) (fun c27 => ?_) (fun c27 => ?_)
  · have h := h.1 c27
    exact b_X11_station_57 C hr hlk h (lv_sub hl [1] rfl) hP
  · have h := h.2 c27
    refine lv_iload_n hx hb dX11_station_30 rfl (lv_at hl 4 rfl) ?_
    refine q_cali (q_runS C hP (c_X11_isYear h) (cd_X11_isYear C.hA) (ini_X11 C.hA) (ml_X11_170 C.hA) (st_X11_isYear C.hA) hd_X11_isYear ⟨rfl, rfl⟩ ⟨Nat.le_of_ble_eq_true rfl, Nat.le_of_ble_eq_true rfl⟩ ⟨Nat.le_of_ble_eq_true rfl, Nat.le_of_ble_eq_true rfl⟩ hl.1 rfl (Nat.le_of_ble_eq_true rfl) dX11_station_31) hP (fun v_31 u_31 H locs h hP => ?_)
    refine lv_if_eq (tgt := 57) hx hb dX11_station_34 (by decide) (fun c34 => ?_) (fun c34 => ?_)
    · have h := h.1 c34
      exact b_X11_station_57 C hr hlk h (lv_sub hl [1] rfl) hP
    · have h := h.2 c34
      refine lv_iload hx hb dX11_station_37 (lv_at hl 5 rfl) ?_
      refine q_cali (q_runS C hP (c_X11_isTone h) (cd_X11_isTone C.hA) (ini_X11 C.hA) (ml_X11_174 C.hA) (st_X11_isTone C.hA) hd_X11_isTone ⟨rfl, rfl⟩ ⟨Nat.le_of_ble_eq_true rfl, Nat.le_of_ble_eq_true rfl⟩ ⟨Nat.le_of_ble_eq_true rfl, Nat.le_of_ble_eq_true rfl⟩ hl.1 rfl (Nat.le_of_ble_eq_true rfl) dX11_station_39) hP (fun v_39 u_39 H locs h hP => ?_)
      refine lv_if_eq (tgt := 57) hx hb dX11_station_42 (by decide) (fun c42 => ?_) (fun c42 => ?_)
      · have h := h.1 c42
        exact b_X11_station_57 C hr hlk h (lv_sub hl [1] rfl) hP
      · have h := h.2 c42
        refine lv_aload_n hx hb dX11_station_45 rfl (lv_at hl 1 rfl) ?_
        obtain ⟨g1, h⟩ := h
        obtain ⟨g2, h⟩ := h
        refine q_getR C hP (k := 2) (lay_X11 C.hA) rfl (by decide) g1 g2 (fl_X11_26 C.hA) dX11_station_46 ?_
        obtain ⟨g3, h⟩ := h
        refine q_getIN C hP (k := 1) (lay_X1 C.hA) rfl (by decide) g3 (fn_X11_109 C.hA) dX11_station_49 ?_
        refine lv_bipush (v := (20 : Int32)) hx hb dX11_station_52 (by decide) ?_
        refine lv_icmp_lt (tgt := 72) hx hb dX11_station_54 (by decide) (fun c54 => ?_) (fun c54 => ?_)
        · have h := h.1 c54
          refine lv_aload_n hx hb dX11_station_72 rfl (lv_at hl 1 rfl) ?_
          refine q_getR C hP (k := 2) (lay_X11 C.hA) rfl (by decide) g1 g2 (fl_X11_26 C.hA) dX11_station_73 ?_
          refine q_getIN C hP (k := 1) (lay_X1 C.hA) rfl (by decide) g3 (fn_X11_109 C.hA) dX11_station_76 ?_
          refine lv_topi (fun x6_79 ex6_79 => ?_)
          have h := h x6_79 ex6_79
          refine lv_istore (lv' := [(6, .int x6_79), (5, .int t0), (0, .ref x0), (1, .int x1), (2, .int x2), (3, .int x3), (4, .int x4)]) hx hb dX11_station_79 hl (by decide) rfl (fun ls hl => ?_)
          refine lv_aload_n hx hb dX11_station_81 rfl (lv_at hl 2 rfl) ?_
          refine q_getR C hP (k := 2) (lay_X11 C.hA) rfl (by decide) g1 g2 (fl_X11_26 C.hA) dX11_station_82 ?_
          obtain ⟨g4, h⟩ := h
          refine q_getRN C hP (k := 0) (lay_X1 C.hA) rfl (by decide) g3 g4 (fn_X11_177 C.hA) dX11_station_85 ?_
          refine lv_iload hx hb dX11_station_88 (lv_at hl 0 rfl) ?_
          obtain ⟨g5, h⟩ := h
          obtain ⟨g6, h⟩ := h
          obtain ⟨g7, h⟩ := h
          refine q_aald C hP g5 (by decide) rfl g6 g7 dX11_station_90 ?_
          refine lv_iload_n hx hb dX11_station_91 rfl (lv_at hl 3 rfl) ?_
          refine lv_iload_n hx hb dX11_station_92 rfl (lv_at hl 4 rfl) ?_
          refine lv_iload_n hx hb dX11_station_93 rfl (lv_at hl 5 rfl) ?_
          refine lv_iload hx hb dX11_station_94 (lv_at hl 6 rfl) ?_
          obtain ⟨g8, h⟩ := h
          refine q_calv (q_runVN C hP (c_X7_begin h) (cd_X7_begin C.hA) (ini_X7 C.hA) (mn_X11_181 C.hA) (im_X7_begin C.hA) (sl_X7_begin C.hA) g8 (by decide) rfl hd_X7_begin ⟨rfl, rfl⟩ ⟨Nat.le_of_ble_eq_true rfl, Nat.le_of_ble_eq_true rfl⟩ ⟨Nat.le_of_ble_eq_true rfl, Nat.le_of_ble_eq_true rfl⟩ hl.1 rfl (Nat.le_of_ble_eq_true rfl) dX11_station_96) hP (fun u_96 H locs h hP => ?_)
          refine lv_aload_n hx hb dX11_station_99 rfl (lv_at hl 2 rfl) ?_
          obtain ⟨g9, h⟩ := h
          refine q_getR C hP (k := 2) (lay_X11 C.hA) rfl (by decide) g1 g9 (fl_X11_26 C.hA) dX11_station_100 ?_
          refine lv_dup hx hb dX11_station_103 rfl ?_
          obtain ⟨g10, h⟩ := h
          refine q_getIN C hP (k := 1) (lay_X1 C.hA) rfl (by decide) g10 (fn_X11_109 C.hA) dX11_station_104 ?_
          refine lv_iconst (v := (1 : Int32)) hx hb dX11_station_107 (by decide) ?_
          refine lv_iadd hx hb dX11_station_108 ?_
          refine q_putIN C hP (k := 1) tyX1_ok nmX1 (lay_X1 C.hA) rfl (by decide) rfl rfl rfl rfl g10 (fn_X11_109 C.hA) dX11_station_109 (fun H locs hP => ?_)
          obtain ⟨u_109, eu_109, hP⟩ := Hp.nm hP
          have h := h u_109 eu_109
          refine lv_iload hx hb dX11_station_112 (lv_at hl 0 rfl) ?_
          exact q_iret C hr hlk hP h (by decide) (by decide) dX11_station_114
        · have h := h.2 c54
          exact b_X11_station_57 C hr hlk h (lv_sub hl [1] rfl) hP
set_option maxHeartbeats 4000000 in
set_option maxRecDepth 100000 in
theorem b_X11_station_22 {G : Gx} {Q : Int32 → Mm → Prop} {p : Program} {l : Launch} {e : Env} {s : State} {m : MethodId} {args : Array Value} {below : List Frame} {meth : Method} {c : Code} (C : Cx G p s m c cX11_station RX11 7) (hr : meth.sig.returnType = (some .int)) (hlk : meth.locks = false) {x0 : Nat} {x1 : Int32} {x2 : Int32} {x3 : Int32} {x4 : Int32} {u : Mm} {H : Heap} {locs : List Loc} {ls : Array Slot} (h : V_X11_station_22 G Q x0 x1 x2 x3 x4 u) (hl : lv_has ls 7 [(0, .ref x0), (1, .int x1), (2, .int x2), (3, .int x3), (4, .int x4)]) (hP : Hp G u s H locs) : W p l e rm_X11_station s m args below meth c H locs 0 0 (MQ below (Ei G Q) args s 0 0 (ag G)) (F0 m 22 ls []) := by
  have hx := C.1
  have hb := C.2.1
  unfold V_X11_station_22 at h
  refine lv_iconst (v := (0 : Int32)) hx hb dX11_station_22 (by decide) ?_
  exact b_X11_station_23 C hr hlk h (lv_sub hl [0, 1, 2, 3, 4] rfl) hP
set_option maxHeartbeats 4000000 in
set_option maxRecDepth 100000 in
theorem b_X11_station_18 {G : Gx} {Q : Int32 → Mm → Prop} {p : Program} {l : Launch} {e : Env} {s : State} {m : MethodId} {args : Array Value} {below : List Frame} {meth : Method} {c : Code} (C : Cx G p s m c cX11_station RX11 7) (hr : meth.sig.returnType = (some .int)) (hlk : meth.locks = false) {x0 : Nat} {x1 : Int32} {x2 : Int32} {x3 : Int32} {x4 : Int32} {u : Mm} {H : Heap} {locs : List Loc} {ls : Array Slot} (h : V_X11_station_18 G Q x0 x1 x2 x3 x4 u) (hl : lv_has ls 7 [(0, .ref x0), (1, .int x1), (2, .int x2), (3, .int x3), (4, .int x4)]) (hP : Hp G u s H locs) : W p l e rm_X11_station s m args below meth c H locs 0 0 (MQ below (Ei G Q) args s 0 0 (ag G)) (F0 m 18 ls []) := by
  have hx := C.1
  have hb := C.2.1
  unfold V_X11_station_18 at h
  refine lv_iconst (v := (1 : Int32)) hx hb dX11_station_18 (by decide) ?_
  refine lv_goto (tgt := 23) hx hb dX11_station_19 (by decide) ?_
  exact b_X11_station_23 C hr hlk h (lv_sub hl [0, 1, 2, 3, 4] rfl) hP
set_option maxHeartbeats 4000000 in
set_option maxRecDepth 100000 in
theorem c_X11_station {l : Launch} {G : Gx} {p0 : Nat} {p1 : Int32} {p2 : Int32} {p3 : Int32} {p4 : Int32} {u : Mm} {Q : Int32 → Mm → Prop} (h : V_X11_station G p0 p1 p2 p3 p4 u Q) : Met l yX11_station [.code yX11_station cX11_station 7 (some .int)] rm_X11_station (va_Pc [.ref p0, .int p1, .int p2, .int p3, .int p4] (Wd G u)) (Ei G Q) 0 0 (ag G) := by
  refine q_met (by decide) (Nat.le_of_ble_eq_true rfl) ?_
  intro p e s m below meth c ls C hr hlk hnm hl hP
  have hl : lv_has ls 7 [(0, .ref p0), (1, .int p1), (2, .int p2), (3, .int p3), (4, .int p4)] := hl
  generalize ([.ref p0, .int p1, .int p2, .int p3, .int p4] : List Value).toArray = args
  have hx := C.1
  have hb := C.2.1
  unfold V_X11_station at h
  refine lv_iload_n hx hb dX11_station_0 rfl (lv_at hl 1 rfl) ?_
  refine lv_iload_n hx hb dX11_station_1 rfl (lv_at hl 2 rfl) ?_
  refine q_cali (q_runS C hP (c_X11_isPlace h) (cd_X11_isPlace C.hA) (ini_X11 C.hA) (ml_X11_166 C.hA) (st_X11_isPlace C.hA) hd_X11_isPlace ⟨rfl, rfl⟩ ⟨Nat.le_of_ble_eq_true rfl, Nat.le_of_ble_eq_true rfl⟩ ⟨Nat.le_of_ble_eq_true rfl, Nat.le_of_ble_eq_true rfl⟩ hl.1 rfl (Nat.le_of_ble_eq_true rfl) dX11_station_2) hP (fun v_2 u_2 H locs h hP => ?_)
  refine lv_if_ne (tgt := 18) hx hb dX11_station_5 (by decide) (fun c5 => ?_) (fun c5 => ?_)
  · have h := h.2 c5
    exact b_X11_station_18 C hr hlk h (lv_sub hl [0, 1, 2, 3, 4] rfl) hP
  · have h := h.1 c5
    refine lv_iload_n hx hb dX11_station_8 rfl (lv_at hl 1 rfl) ?_
    refine lv_iconst (v := (-1 : Int32)) hx hb dX11_station_9 (by decide) ?_
    refine lv_icmp_ne (tgt := 22) hx hb dX11_station_10 (by decide) (fun c10 => ?_) (fun c10 => ?_)
    · have h := h.2 c10
      exact b_X11_station_22 C hr hlk h (lv_sub hl [0, 1, 2, 3, 4] rfl) hP
    · have h := h.1 c10
      refine lv_iload_n hx hb dX11_station_13 rfl (lv_at hl 2 rfl) ?_
      refine lv_iconst (v := (-1 : Int32)) hx hb dX11_station_14 (by decide) ?_
      refine lv_icmp_ne (tgt := 22) hx hb dX11_station_15 (by decide) (fun c15 => ?_) (fun c15 => ?_)
      · have h := h.2 c15
        exact b_X11_station_22 C hr hlk h (lv_sub hl [0, 1, 2, 3, 4] rfl) hP
      · have h := h.1 c15
        exact b_X11_station_18 C hr hlk h (lv_sub hl [0, 1, 2, 3, 4] rfl) hP
-- X11_needStation
abbrev rm_X11_needStation : Room := { frames := 6, cells := 1, slots := 6, locals := 82 }
theorem hd_X11_needStation : yX11_needStation.cls ≠ "java/lang/invoke/MethodHandle" ∧ yX11_needStation.cls ≠ "java/lang/invoke/VarHandle" ∧ (parseMethodDescriptor yX11_needStation.desc).map (fun d => d.parameters.length) = some 1 := by decide +kernel
def V_X11_needStation_15 (G : Gx) (Q : Nat → Mm → Prop) (X : String → Mm → Prop) (u : Mm) : Prop :=
  X "java/util/NoSuchElementException" u
def V_X11_needStation (G : Gx) (p0 : Nat) (p1 : Int32) (u : Mm) (Q : Nat → Mm → Prop) (X : String → Mm → Prop) : Prop :=
  ((p1 < 0 → V_X11_needStation_15 G Q X  u) ∧ (¬ p1 < 0 → kd G p0 = 11 ∧ (gR u p0 2) ≠ 0 ∧ kd G (gR u p0 2) = 1 ∧ ((p1 < (gI u (gR u p0 2) 1) → (gR u (gR u p0 2) 0) ≠ 0 ∧ kd G (gR u (gR u p0 2) 0) = 21 ∧ vp_in p1 (ln G (gR u (gR u p0 2) 0)) ∧ (gR u (gR u (gR u p0 2) 0) p1.toNatClampNeg) ≠ 0 ∧ Q (gR u (gR u (gR u p0 2) 0) p1.toNatClampNeg) u) ∧ (¬ p1 < (gI u (gR u p0 2) 1) → V_X11_needStation_15 G Q X  u))))
set_option maxHeartbeats 4000000 in
set_option maxRecDepth 100000 in
theorem b_X11_needStation_15 {G : Gx} {Q : Nat → Mm → Prop} {X : String → Mm → Prop} {p : Program} {l : Launch} {e : Env} {s : State} {m : MethodId} {args : Array Value} {below : List Frame} {meth : Method} {c : Code} (hst : l.stackTraces = false) (C : Cx G p s m c cX11_needStation RX11 2) (hr : meth.sig.returnType = (some (.object "ClapValley$Station"))) (hlk : meth.locks = false) (hxt : ∀ x ∈ c.exceptionTable.toList, False) {u : Mm} {H : Heap} {locs : List Loc} {ls : Array Slot} (h : V_X11_needStation_15 G Q X  u) (hl : lv_has ls 2 []) (hP : Hp G u s H locs) : W p l e rm_X11_needStation s m args below meth c H locs 0 0 (vx_MQ below (Er G Q) (Xe G X) args s 1 6 (ag G)) (F0 m 15 ls []) := by
  have hx := C.1
  have hb := C.2.1
  unfold V_X11_needStation_15 at h
  exact q_thrNW C hst hxt hlk hP 17 (by decide) rfl rfl (by decide) (cl_X11_115 C.hA) (ini_java_util_NoSuchElementException C.hA) (thN C.hA) thN_g hl.1 h dX11_needStation_15 dX11_needStation_18 dX11_needStation_19 dX11_needStation_22 dX11_needStation_25 ⟨Nat.le_of_ble_eq_true rfl, Nat.le_of_ble_eq_true rfl, Nat.le_of_ble_eq_true rfl, Nat.le_of_ble_eq_true rfl⟩ (Nat.le_of_ble_eq_true rfl) (Nat.le_of_ble_eq_true rfl)
set_option maxHeartbeats 4000000 in
set_option maxRecDepth 100000 in
theorem c_X11_needStation {l : Launch} (hst : l.stackTraces = false) {G : Gx} {p0 : Nat} {p1 : Int32} {u : Mm} {Q : Nat → Mm → Prop} {X : String → Mm → Prop} (h : V_X11_needStation G p0 p1 u Q X) : vx_Met l yX11_needStation [.code yX11_needStation cX11_needStation 2 (some (.object "ClapValley$Station"))] rm_X11_needStation (va_Pc [.ref p0, .int p1] (Wd G u)) (Er G Q) (Xe G X) 1 6 (ag G) := by
  refine q_metX (by decide) (Nat.le_of_ble_eq_true rfl) ?_
  intro p e s m below meth c ls C hr hlk hnm hxt hl hP
  have hl : lv_has ls 2 [(0, .ref p0), (1, .int p1)] := hl
  generalize ([.ref p0, .int p1] : List Value).toArray = args
  have hx := C.1
  have hb := C.2.1
  unfold V_X11_needStation at h
  refine lv_iload_n hx hb dX11_needStation_0 rfl (lv_at hl 1 rfl) ?_
  refine lv_if_lt (tgt := 15) hx hb dX11_needStation_1 (by decide) (fun c1 => ?_) (fun c1 => ?_)
  · have h := h.1 c1
    exact b_X11_needStation_15 hst C hr hlk hxt h (lv_sub hl [] rfl) hP
  · have h := h.2 c1
    refine lv_iload_n hx hb dX11_needStation_4 rfl (lv_at hl 1 rfl) ?_
    refine lv_aload_n hx hb dX11_needStation_5 rfl (lv_at hl 0 rfl) ?_
    obtain ⟨g1, h⟩ := h
    obtain ⟨g2, h⟩ := h
    refine q_getR C hP (k := 2) (lay_X11 C.hA) rfl (by decide) g1 g2 (fl_X11_26 C.hA) dX11_needStation_6 ?_
    obtain ⟨g3, h⟩ := h
    refine q_getIN C hP (k := 1) (lay_X1 C.hA) rfl (by decide) g3 (fn_X11_109 C.hA) dX11_needStation_9 ?_
    refine lv_icmp_lt (tgt := 26) hx hb dX11_needStation_12 (by decide) (fun c12 => ?_) (fun c12 => ?_)
    · have h := h.1 c12
      refine lv_aload_n hx hb dX11_needStation_26 rfl (lv_at hl 0 rfl) ?_
      refine q_getR C hP (k := 2) (lay_X11 C.hA) rfl (by decide) g1 g2 (fl_X11_26 C.hA) dX11_needStation_27 ?_
      obtain ⟨g4, h⟩ := h
      refine q_getRN C hP (k := 0) (lay_X1 C.hA) rfl (by decide) g3 g4 (fn_X11_177 C.hA) dX11_needStation_30 ?_
      refine lv_iload_n hx hb dX11_needStation_33 rfl (lv_at hl 1 rfl) ?_
      obtain ⟨g5, h⟩ := h
      obtain ⟨g6, h⟩ := h
      obtain ⟨g7, h⟩ := h
      refine q_aald C hP g5 (by decide) rfl g6 g7 dX11_needStation_34 ?_
      exact vx_ret (q_aret C hr hlk hP h (by decide) (by decide) dX11_needStation_35)
    · have h := h.2 c12
      exact b_X11_needStation_15 hst C hr hlk hxt h (lv_sub hl [] rfl) hP
-- X11_tick
abbrev rm_X11_tick : Room := { frames := 7, cells := 1, slots := 6, locals := 103 }
theorem hd_X11_tick : yX11_tick.cls ≠ "java/lang/invoke/MethodHandle" ∧ yX11_tick.cls ≠ "java/lang/invoke/VarHandle" ∧ (parseMethodDescriptor yX11_tick.desc).map (fun d => d.parameters.length) = some 2 := by decide +kernel
def V_X11_tick_26 (G : Gx) (Q : Int32 → Mm → Prop) (X : String → Mm → Prop) (x0 : Nat) (u : Mm) : Prop :=
  kd G x0 = 11 ∧ (gR u x0 2) ≠ 0 ∧ kd G (gR u x0 2) = 1 ∧ (gR u (gR u x0 2) 5) ≠ 0 ∧ kd G (gR u (gR u x0 2) 5) = 13 ∧ vp_in (2 : Int32) (ln G (gR u (gR u x0 2) 5)) ∧ ∀ u_38 : Mm, u_38 = sI u (gR u (gR u x0 2) 5) (2 : Int32).toNatClampNeg ((gI u (gR u (gR u x0 2) 5) (2 : Int32).toNatClampNeg) + (1 : Int32)) → Q (-1 : Int32) u_38
def V_X11_tick (G : Gx) (p0 : Nat) (p1 : Int32) (p2 : Int32) (u : Mm) (Q : Int32 → Mm → Prop) (X : String → Mm → Prop) : Prop :=
  kd G p0 = 11 ∧ V_X11_needStation G p0 p1 u (fun (v_2 : Nat) (u_2 : Mm) => ((p2 < 0 → V_X11_tick_26 G Q X p0 u_2) ∧ (¬ p2 < 0 → (((9999 : Int32) < p2 → V_X11_tick_26 G Q X p0 u_2) ∧ (¬ (9999 : Int32) < p2 → kd G v_2 = 7 ∧ (((gI u_2 v_2 4) < (12 : Int32) → V_X7_write G v_2 p2 u_2 (fun (u_43 : Mm) => Q (gI u_43 v_2 4) u_43)) ∧ (¬ (gI u_2 v_2 4) < (12 : Int32) → V_X11_tick_26 G Q X p0 u_2))))))) X
set_option maxHeartbeats 4000000 in
set_option maxRecDepth 100000 in
theorem b_X11_tick_26 {G : Gx} {Q : Int32 → Mm → Prop} {X : String → Mm → Prop} {p : Program} {l : Launch} {e : Env} {s : State} {m : MethodId} {args : Array Value} {below : List Frame} {meth : Method} {c : Code} (hst : l.stackTraces = false) (C : Cx G p s m c cX11_tick RX11 4) (hr : meth.sig.returnType = (some .int)) (hlk : meth.locks = false) (hxt : ∀ x ∈ c.exceptionTable.toList, False) {x0 : Nat} {u : Mm} {H : Heap} {locs : List Loc} {ls : Array Slot} (h : V_X11_tick_26 G Q X x0 u) (hl : lv_has ls 4 [(0, .ref x0)]) (hP : Hp G u s H locs) : W p l e rm_X11_tick s m args below meth c H locs 1 6 (vx_MQ below (Ei G Q) (Xe G X) args s 1 6 (ag G)) (F0 m 26 ls []) := by
  have hx := C.1
  have hb := C.2.1
  unfold V_X11_tick_26 at h
  refine lv_aload_n hx hb dX11_tick_26 rfl (lv_at hl 0 rfl) ?_
  obtain ⟨g1, h⟩ := h
  obtain ⟨g2, h⟩ := h
  refine q_getR C hP (k := 2) (lay_X11 C.hA) rfl (by decide) g1 g2 (fl_X11_26 C.hA) dX11_tick_27 ?_
  obtain ⟨g3, h⟩ := h
  obtain ⟨g4, h⟩ := h
  refine q_getRN C hP (k := 5) (lay_X1 C.hA) rfl (by decide) g3 g4 (fn_X11_99 C.hA) dX11_tick_30 ?_
  refine lv_iconst (v := (2 : Int32)) hx hb dX11_tick_33 (by decide) ?_
  refine lv_dup2_11 hx hb dX11_tick_34 rfl rfl ?_
  obtain ⟨g5, h⟩ := h
  obtain ⟨g6, h⟩ := h
  refine q_iald C hP g5 g6 dX11_tick_35 ?_
  refine lv_iconst (v := (1 : Int32)) hx hb dX11_tick_36 (by decide) ?_
  refine lv_iadd hx hb dX11_tick_37 ?_
  refine q_iast C hP g5 g6 dX11_tick_38 (fun H locs hP => ?_)
  obtain ⟨u_38, eu_38, hP⟩ := Hp.nm hP
  have h := h u_38 eu_38
  refine lv_iconst (v := (-1 : Int32)) hx hb dX11_tick_39 (by decide) ?_
  exact vx_ret (q_iret C hr hlk hP h (by decide) (by decide) dX11_tick_40)
set_option maxHeartbeats 4000000 in
set_option maxRecDepth 100000 in
theorem c_X11_tick {l : Launch} (hst : l.stackTraces = false) {G : Gx} {p0 : Nat} {p1 : Int32} {p2 : Int32} {u : Mm} {Q : Int32 → Mm → Prop} {X : String → Mm → Prop} (h : V_X11_tick G p0 p1 p2 u Q X) : vx_Met l yX11_tick [.code yX11_tick cX11_tick 4 (some .int)] rm_X11_tick (va_Pc [.ref p0, .int p1, .int p2] (Wd G u)) (Ei G Q) (Xe G X) 1 6 (ag G) := by
  refine q_metX (by decide) (Nat.le_of_ble_eq_true rfl) ?_
  intro p e s m below meth c ls C hr hlk hnm hxt hl hP
  have hl : lv_has ls 4 [(0, .ref p0), (1, .int p1), (2, .int p2)] := hl
  generalize ([.ref p0, .int p1, .int p2] : List Value).toArray = args
  have hx := C.1
  have hb := C.2.1
  unfold V_X11_tick at h
  refine lv_aload_n hx hb dX11_tick_0 rfl (lv_at hl 0 rfl) ?_
  refine lv_iload_n hx hb dX11_tick_1 rfl (lv_at hl 1 rfl) ?_
  obtain ⟨g1, h⟩ := h
  refine q_calrX hxt hlk (q_runVX C hP (c_X11_needStation hst h) (cd_X11_needStation C.hA) (ini_X11 C.hA) (ml_X11_187 C.hA) (im_X11_needStation C.hA) (sl_X11_needStation C.hA) g1 (by decide) rfl hd_X11_needStation ⟨rfl, rfl⟩ ⟨Nat.le_of_ble_eq_true rfl, Nat.le_of_ble_eq_true rfl⟩ ⟨Nat.le_of_ble_eq_true rfl, Nat.le_of_ble_eq_true rfl⟩ hl.1 rfl (Nat.le_of_ble_eq_true rfl) dX11_tick_2) hP (Nat.le_of_ble_eq_true rfl) (Nat.le_of_ble_eq_true rfl) (fun v_2 u_2 H locs h hP => ?_)
  refine lv_astore_n (lv' := [(3, .ref v_2), (0, .ref p0), (1, .int p1), (2, .int p2)]) hx hb dX11_tick_5 rfl hl (by decide) rfl (fun ls hl => ?_)
  refine lv_iload_n hx hb dX11_tick_6 rfl (lv_at hl 3 rfl) ?_
  refine lv_if_lt (tgt := 26) hx hb dX11_tick_7 (by decide) (fun c7 => ?_) (fun c7 => ?_)
  · have h := h.1 c7
    exact b_X11_tick_26 hst C hr hlk hxt h (lv_sub hl [1] rfl) hP
  · have h := h.2 c7
    refine lv_iload_n hx hb dX11_tick_10 rfl (lv_at hl 3 rfl) ?_
    refine lv_sipush (v := (9999 : Int32)) hx hb dX11_tick_11 (by decide) ?_
    refine lv_icmp_gt (tgt := 26) hx hb dX11_tick_14 (by decide) (fun c14 => ?_) (fun c14 => ?_)
    · have h := h.1 c14
      exact b_X11_tick_26 hst C hr hlk hxt h (lv_sub hl [1] rfl) hP
    · have h := h.2 c14
      refine lv_aload_n hx hb dX11_tick_17 rfl (lv_at hl 0 rfl) ?_
      obtain ⟨g2, h⟩ := h
      refine q_getIN C hP (k := 4) (lay_X7 C.hA) rfl (by decide) g2 (fn_X11_191 C.hA) dX11_tick_18 ?_
      refine lv_bipush (v := (12 : Int32)) hx hb dX11_tick_21 (by decide) ?_
      refine lv_icmp_lt (tgt := 41) hx hb dX11_tick_23 (by decide) (fun c23 => ?_) (fun c23 => ?_)
      · have h := h.1 c23
        refine lv_aload_n hx hb dX11_tick_41 rfl (lv_at hl 0 rfl) ?_
        refine lv_iload_n hx hb dX11_tick_42 rfl (lv_at hl 3 rfl) ?_
        refine q_calv (q_runVN C hP (c_X7_write h) (cd_X7_write C.hA) (ini_X7 C.hA) (mn_X11_194 C.hA) (im_X7_write C.hA) (sl_X7_write C.hA) g2 (by decide) rfl hd_X7_write ⟨rfl, rfl⟩ ⟨Nat.le_of_ble_eq_true rfl, Nat.le_of_ble_eq_true rfl⟩ ⟨Nat.le_of_ble_eq_true rfl, Nat.le_of_ble_eq_true rfl⟩ hl.1 rfl (Nat.le_of_ble_eq_true rfl) dX11_tick_43) hP (fun u_43 H locs h hP => ?_)
        refine lv_aload_n hx hb dX11_tick_46 rfl (lv_at hl 0 rfl) ?_
        refine q_getIN C hP (k := 4) (lay_X7 C.hA) rfl (by decide) g2 (fn_X11_191 C.hA) dX11_tick_47 ?_
        exact vx_ret (q_iret C hr hlk hP h (by decide) (by decide) dX11_tick_50)
      · have h := h.2 c23
        exact b_X11_tick_26 hst C hr hlk hxt h (lv_sub hl [1] rfl) hP
-- X11_writtenTick
abbrev rm_X11_writtenTick : Room := { frames := 6, cells := 1, slots := 6, locals := 82 }
theorem hd_X11_writtenTick : yX11_writtenTick.cls ≠ "java/lang/invoke/MethodHandle" ∧ yX11_writtenTick.cls ≠ "java/lang/invoke/VarHandle" ∧ (parseMethodDescriptor yX11_writtenTick.desc).map (fun d => d.parameters.length) = some 2 := by decide +kernel
def V_X11_writtenTick_12 (G : Gx) (Q : Int32 → Mm → Prop) (X : String → Mm → Prop) (u : Mm) : Prop :=
  X "java/util/NoSuchElementException" u
def V_X11_writtenTick (G : Gx) (p0 : Nat) (p1 : Int32) (u : Mm) (Q : Int32 → Mm → Prop) (X : String → Mm → Prop) : Prop :=
  ((p1 < 0 → V_X11_writtenTick_12 G Q X  u) ∧ (¬ p1 < 0 → kd G p0 = 7 ∧ ((p1 < (gI u p0 4) → (gR u p0 5) ≠ 0 ∧ kd G (gR u p0 5) = 13 ∧ vp_in p1 (ln G (gR u p0 5)) ∧ Q (gI u (gR u p0 5) p1.toNatClampNeg) u) ∧ (¬ p1 < (gI u p0 4) → V_X11_writtenTick_12 G Q X  u))))
set_option maxHeartbeats 4000000 in
set_option maxRecDepth 100000 in
theorem b_X11_writtenTick_12 {G : Gx} {Q : Int32 → Mm → Prop} {X : String → Mm → Prop} {p : Program} {l : Launch} {e : Env} {s : State} {m : MethodId} {args : Array Value} {below : List Frame} {meth : Method} {c : Code} (hst : l.stackTraces = false) (C : Cx G p s m c cX11_writtenTick RX11 2) (hr : meth.sig.returnType = (some .int)) (hlk : meth.locks = false) (hxt : ∀ x ∈ c.exceptionTable.toList, False) {u : Mm} {H : Heap} {locs : List Loc} {ls : Array Slot} (h : V_X11_writtenTick_12 G Q X  u) (hl : lv_has ls 2 []) (hP : Hp G u s H locs) : W p l e rm_X11_writtenTick s m args below meth c H locs 0 0 (vx_MQ below (Ei G Q) (Xe G X) args s 1 6 (ag G)) (F0 m 12 ls []) := by
  have hx := C.1
  have hb := C.2.1
  unfold V_X11_writtenTick_12 at h
  exact q_thrN C hst hxt hlk hP 18 (by decide) rfl rfl (by decide) (cl_X11_115 C.hA) (ini_java_util_NoSuchElementException C.hA) (thN C.hA) thN_g hl.1 h dX11_writtenTick_12 dX11_writtenTick_15 dX11_writtenTick_16 dX11_writtenTick_18 dX11_writtenTick_21 ⟨Nat.le_of_ble_eq_true rfl, Nat.le_of_ble_eq_true rfl, Nat.le_of_ble_eq_true rfl, Nat.le_of_ble_eq_true rfl⟩ (Nat.le_of_ble_eq_true rfl) (Nat.le_of_ble_eq_true rfl)
set_option maxHeartbeats 4000000 in
set_option maxRecDepth 100000 in
theorem c_X11_writtenTick {l : Launch} (hst : l.stackTraces = false) {G : Gx} {p0 : Nat} {p1 : Int32} {u : Mm} {Q : Int32 → Mm → Prop} {X : String → Mm → Prop} (h : V_X11_writtenTick G p0 p1 u Q X) : vx_Met l yX11_writtenTick [.code yX11_writtenTick cX11_writtenTick 2 (some .int)] rm_X11_writtenTick (va_Pc [.ref p0, .int p1] (Wd G u)) (Ei G Q) (Xe G X) 1 6 (ag G) := by
  refine q_metX (by decide) (Nat.le_of_ble_eq_true rfl) ?_
  intro p e s m below meth c ls C hr hlk hnm hxt hl hP
  have hl : lv_has ls 2 [(0, .ref p0), (1, .int p1)] := hl
  generalize ([.ref p0, .int p1] : List Value).toArray = args
  have hx := C.1
  have hb := C.2.1
  unfold V_X11_writtenTick at h
  refine lv_iload_n hx hb dX11_writtenTick_0 rfl (lv_at hl 1 rfl) ?_
  refine lv_if_lt (tgt := 12) hx hb dX11_writtenTick_1 (by decide) (fun c1 => ?_) (fun c1 => ?_)
  · have h := h.1 c1
    exact b_X11_writtenTick_12 hst C hr hlk hxt h (lv_sub hl [] rfl) hP
  · have h := h.2 c1
    refine lv_iload_n hx hb dX11_writtenTick_4 rfl (lv_at hl 1 rfl) ?_
    refine lv_aload_n hx hb dX11_writtenTick_5 rfl (lv_at hl 0 rfl) ?_
    obtain ⟨g1, h⟩ := h
    refine q_getIN C hP (k := 4) (lay_X7 C.hA) rfl (by decide) g1 (fn_X11_191 C.hA) dX11_writtenTick_6 ?_
    refine lv_icmp_lt (tgt := 22) hx hb dX11_writtenTick_9 (by decide) (fun c9 => ?_) (fun c9 => ?_)
    · have h := h.1 c9
      refine lv_aload_n hx hb dX11_writtenTick_22 rfl (lv_at hl 0 rfl) ?_
      obtain ⟨g2, h⟩ := h
      refine q_getRN C hP (k := 5) (lay_X7 C.hA) rfl (by decide) g1 g2 (fn_X11_250 C.hA) dX11_writtenTick_23 ?_
      refine lv_iload_n hx hb dX11_writtenTick_26 rfl (lv_at hl 1 rfl) ?_
      obtain ⟨g3, h⟩ := h
      obtain ⟨g4, h⟩ := h
      refine q_iald C hP g3 g4 dX11_writtenTick_27 ?_
      exact vx_ret (q_iret C hr hlk hP h (by decide) (by decide) dX11_writtenTick_28)
    · have h := h.2 c9
      exact b_X11_writtenTick_12 hst C hr hlk hxt h (lv_sub hl [] rfl) hP
-- X11_told
abbrev rm_X11_told : Room := { frames := 7, cells := 2, slots := 12, locals := 103 }
theorem hd_X11_told : yX11_told.cls ≠ "java/lang/invoke/MethodHandle" ∧ yX11_told.cls ≠ "java/lang/invoke/VarHandle" ∧ (parseMethodDescriptor yX11_told.desc).map (fun d => d.parameters.length) = some 2 := by decide +kernel
def V_X11_told_80 (G : Gx) (Q : Int32 → Mm → Prop) (X : String → Mm → Prop) (t0 : Nat) (t1 : Int32) (u : Mm) : Prop :=
  V_X11_writtenTick G t0 t1 u (fun (v_80 : Int32) (u_80 : Mm) => Q v_80 u_80) X
def V_X11_told (G : Gx) (p0 : Nat) (p1 : Int32) (p2 : Int32) (u : Mm) (Q : Int32 → Mm → Prop) (X : String → Mm → Prop) : Prop :=
  kd G p0 = 11 ∧ V_X11_needStation G p0 p1 u (fun (v_2 : Nat) (u_2 : Mm) => ((p2 = (0 : Int32) → kd G v_2 = 7 ∧ Q (gI u_2 v_2 0) u_2) ∧ (p2 = (1 : Int32) → kd G v_2 = 7 ∧ Q (gI u_2 v_2 1) u_2) ∧ (p2 = (2 : Int32) → kd G v_2 = 7 ∧ Q (gI u_2 v_2 2) u_2) ∧ (p2 = (3 : Int32) → kd G v_2 = 7 ∧ Q (gI u_2 v_2 3) u_2) ∧ (p2 = (4 : Int32) → kd G v_2 = 7 ∧ Q (gI u_2 v_2 4) u_2) ∧ (¬ p2 = (0 : Int32) ∧ ¬ p2 = (1 : Int32) ∧ ¬ p2 = (2 : Int32) ∧ ¬ p2 = (3 : Int32) ∧ ¬ p2 = (4 : Int32) → (((10 : Int32) ≤ p2 → V_X11_told_80 G Q X v_2 (p2 - (10 : Int32)) u_2) ∧ (¬ (10 : Int32) ≤ p2 → V_X11_told_80 G Q X v_2 (-1 : Int32) u_2))))) X
set_option maxHeartbeats 4000000 in
set_option maxRecDepth 100000 in
theorem b_X11_told_80 {G : Gx} {Q : Int32 → Mm → Prop} {X : String → Mm → Prop} {p : Program} {l : Launch} {e : Env} {s : State} {m : MethodId} {args : Array Value} {below : List Frame} {meth : Method} {c : Code} (hst : l.stackTraces = false) (C : Cx G p s m c cX11_told RX11 4) (hr : meth.sig.returnType = (some .int)) (hlk : meth.locks = false) (hxt : ∀ x ∈ c.exceptionTable.toList, False) {t0 : Nat} {t1 : Int32} {u : Mm} {H : Heap} {locs : List Loc} {ls : Array Slot} (h : V_X11_told_80 G Q X t0 t1 u) (hl : lv_has ls 4 []) (hP : Hp G u s H locs) : W p l e rm_X11_told s m args below meth c H locs 1 6 (vx_MQ below (Ei G Q) (Xe G X) args s 2 12 (ag G)) (F0 m 80 ls [.int t1, .ref t0]) := by
  have hx := C.1
  have hb := C.2.1
  unfold V_X11_told_80 at h
  refine q_caliX hxt hlk (q_runSX C hP (c_X11_writtenTick hst h) (cd_X11_writtenTick C.hA) (ini_X11 C.hA) (ml_X11_209 C.hA) (st_X11_writtenTick C.hA) hd_X11_writtenTick ⟨rfl, rfl⟩ ⟨Nat.le_of_ble_eq_true rfl, Nat.le_of_ble_eq_true rfl⟩ ⟨Nat.le_of_ble_eq_true rfl, Nat.le_of_ble_eq_true rfl⟩ hl.1 rfl (Nat.le_of_ble_eq_true rfl) dX11_told_80) hP (Nat.le_of_ble_eq_true rfl) (Nat.le_of_ble_eq_true rfl) (fun v_80 u_80 H locs h hP => ?_)
  exact vx_ret (q_iret C hr hlk hP h (by decide) (by decide) dX11_told_83)
set_option maxHeartbeats 4000000 in
set_option maxRecDepth 100000 in
theorem c_X11_told {l : Launch} (hst : l.stackTraces = false) {G : Gx} {p0 : Nat} {p1 : Int32} {p2 : Int32} {u : Mm} {Q : Int32 → Mm → Prop} {X : String → Mm → Prop} (h : V_X11_told G p0 p1 p2 u Q X) : vx_Met l yX11_told [.code yX11_told cX11_told 4 (some .int)] rm_X11_told (va_Pc [.ref p0, .int p1, .int p2] (Wd G u)) (Ei G Q) (Xe G X) 2 12 (ag G) := by
  refine q_metX (by decide) (Nat.le_of_ble_eq_true rfl) ?_
  intro p e s m below meth c ls C hr hlk hnm hxt hl hP
  have hl : lv_has ls 4 [(0, .ref p0), (1, .int p1), (2, .int p2)] := hl
  generalize ([.ref p0, .int p1, .int p2] : List Value).toArray = args
  have hx := C.1
  have hb := C.2.1
  unfold V_X11_told at h
  refine lv_aload_n hx hb dX11_told_0 rfl (lv_at hl 0 rfl) ?_
  refine lv_iload_n hx hb dX11_told_1 rfl (lv_at hl 1 rfl) ?_
  obtain ⟨g1, h⟩ := h
  refine q_calrX hxt hlk (q_runVX C hP (c_X11_needStation hst h) (cd_X11_needStation C.hA) (ini_X11 C.hA) (ml_X11_187 C.hA) (im_X11_needStation C.hA) (sl_X11_needStation C.hA) g1 (by decide) rfl hd_X11_needStation ⟨rfl, rfl⟩ ⟨Nat.le_of_ble_eq_true rfl, Nat.le_of_ble_eq_true rfl⟩ ⟨Nat.le_of_ble_eq_true rfl, Nat.le_of_ble_eq_true rfl⟩ hl.1 rfl (Nat.le_of_ble_eq_true rfl) dX11_told_2) hP (Nat.le_of_ble_eq_true rfl) (Nat.le_of_ble_eq_true rfl) (fun v_2 u_2 H locs h hP => ?_)
  refine lv_astore_n (lv' := [(3, .ref v_2), (0, .ref p0), (1, .int p1), (2, .int p2)]) hx hb dX11_told_5 rfl hl (by decide) rfl (fun ls hl => ?_)
  refine lv_iload_n hx hb dX11_told_6 rfl (lv_at hl 3 rfl) ?_
  by_cases c7_0 : p2 = (0 : Int32)
  · have h := h.1 c7_0
    refine lv_tableIn (tgt := 40) (off := 33) hx hb dX11_told_7 (by rw [c7_0]; decide) (by rw [c7_0]; decide) (by rw [c7_0]; rfl) (by decide) ?_
    refine lv_aload_n hx hb dX11_told_40 rfl (lv_at hl 0 rfl) ?_
    obtain ⟨g2, h⟩ := h
    refine q_getIN C hP (k := 0) (lay_X7 C.hA) rfl (by decide) g2 (fn_X11_197 C.hA) dX11_told_41 ?_
    exact vx_ret (q_iret C hr hlk hP h (by decide) (by decide) dX11_told_44)
  have h := h.2
  by_cases c7_1 : p2 = (1 : Int32)
  · have h := h.1 c7_1
    refine lv_tableIn (tgt := 45) (off := 38) hx hb dX11_told_7 (by rw [c7_1]; decide) (by rw [c7_1]; decide) (by rw [c7_1]; rfl) (by decide) ?_
    refine lv_aload_n hx hb dX11_told_45 rfl (lv_at hl 0 rfl) ?_
    obtain ⟨g3, h⟩ := h
    refine q_getIN C hP (k := 1) (lay_X7 C.hA) rfl (by decide) g3 (fn_X11_200 C.hA) dX11_told_46 ?_
    exact vx_ret (q_iret C hr hlk hP h (by decide) (by decide) dX11_told_49)
  have h := h.2
  by_cases c7_2 : p2 = (2 : Int32)
  · have h := h.1 c7_2
    refine lv_tableIn (tgt := 50) (off := 43) hx hb dX11_told_7 (by rw [c7_2]; decide) (by rw [c7_2]; decide) (by rw [c7_2]; rfl) (by decide) ?_
    refine lv_aload_n hx hb dX11_told_50 rfl (lv_at hl 0 rfl) ?_
    obtain ⟨g4, h⟩ := h
    refine q_getIN C hP (k := 2) (lay_X7 C.hA) rfl (by decide) g4 (fn_X11_203 C.hA) dX11_told_51 ?_
    exact vx_ret (q_iret C hr hlk hP h (by decide) (by decide) dX11_told_54)
  have h := h.2
  by_cases c7_3 : p2 = (3 : Int32)
  · have h := h.1 c7_3
    refine lv_tableIn (tgt := 55) (off := 48) hx hb dX11_told_7 (by rw [c7_3]; decide) (by rw [c7_3]; decide) (by rw [c7_3]; rfl) (by decide) ?_
    refine lv_aload_n hx hb dX11_told_55 rfl (lv_at hl 0 rfl) ?_
    obtain ⟨g5, h⟩ := h
    refine q_getIN C hP (k := 3) (lay_X7 C.hA) rfl (by decide) g5 (fn_X11_206 C.hA) dX11_told_56 ?_
    exact vx_ret (q_iret C hr hlk hP h (by decide) (by decide) dX11_told_59)
  have h := h.2
  by_cases c7_4 : p2 = (4 : Int32)
  · have h := h.1 c7_4
    refine lv_tableIn (tgt := 60) (off := 53) hx hb dX11_told_7 (by rw [c7_4]; decide) (by rw [c7_4]; decide) (by rw [c7_4]; rfl) (by decide) ?_
    refine lv_aload_n hx hb dX11_told_60 rfl (lv_at hl 0 rfl) ?_
    obtain ⟨g6, h⟩ := h
    refine q_getIN C hP (k := 4) (lay_X7 C.hA) rfl (by decide) g6 (fn_X11_191 C.hA) dX11_told_61 ?_
    exact vx_ret (q_iret C hr hlk hP h (by decide) (by decide) dX11_told_64)
  have h := h.2
  have h := h ⟨c7_0, c7_1, c7_2, c7_3, c7_4⟩
  refine lv_tableOut (tgt := 65) hx hb dX11_told_7 (by have := lv_neT c7_0 (a := 0) (by decide); have := lv_neT c7_1 (a := 1) (by decide); have := lv_neT c7_2 (a := 2) (by decide); have := lv_neT c7_3 (a := 3) (by decide); have := lv_neT c7_4 (a := 4) (by decide); omega) (by decide) ?_
  refine lv_aload_n hx hb dX11_told_65 rfl (lv_at hl 0 rfl) ?_
  refine lv_iload_n hx hb dX11_told_66 rfl (lv_at hl 3 rfl) ?_
  refine lv_bipush (v := (10 : Int32)) hx hb dX11_told_67 (by decide) ?_
  refine lv_icmp_ge (tgt := 76) hx hb dX11_told_69 (by decide) (fun c69 => ?_) (fun c69 => ?_)
  · have h := h.1 c69
    refine lv_iload_n hx hb dX11_told_76 rfl (lv_at hl 3 rfl) ?_
    refine lv_bipush (v := (10 : Int32)) hx hb dX11_told_77 (by decide) ?_
    refine lv_isub hx hb dX11_told_79 ?_
    exact b_X11_told_80 hst C hr hlk hxt h (lv_sub hl [] rfl) hP
  · have h := h.2 c69
    refine lv_iconst (v := (-1 : Int32)) hx hb dX11_told_72 (by decide) ?_
    refine lv_goto (tgt := 80) hx hb dX11_told_73 (by decide) ?_
    exact b_X11_told_80 hst C hr hlk hxt h (lv_sub hl [] rfl) hP
-- X11_fitsAt
abbrev rm_X11_fitsAt : Room := { frames := 5, cells := 0, slots := 0, locals := 124 }
theorem hd_X11_fitsAt : yX11_fitsAt.cls ≠ "java/lang/invoke/MethodHandle" ∧ yX11_fitsAt.cls ≠ "java/lang/invoke/VarHandle" ∧ (parseMethodDescriptor yX11_fitsAt.desc).map (fun d => d.parameters.length) = some 4 := by decide +kernel
def V_X11_fitsAt (G : Gx) (p0 : Nat) (p1 : Nat) (p2 : Nat) (p3 : Int32) (p4 : Int32) (u : Mm) (Q : Int32 → Mm → Prop) : Prop :=
  kd G p0 = 11 ∧ (gR u p0 5) ≠ 0 ∧ kd G p2 = 7 ∧ kd G (gR u p0 5) = 6 ∧ V_X6_look G (gR u p0 5) p1 p3 p4 (gI u p2 2) (gI u p2 3) u (fun (u_16 : Mm) => (gR u_16 p0 7) ≠ 0 ∧ (gR u_16 p0 5) ≠ 0 ∧ kd G (gR u_16 p0 7) = 3 ∧ V_X3_gather G (gR u_16 p0 7) (gR u_16 p0 5) p1 (0 : Int32) u_16 (fun (u_29 : Mm) => (gR u_29 p0 7) ≠ 0 ∧ kd G (gR u_29 p0 7) = 3 ∧ V_X3_fit G (gR u_29 p0 7) p2 p1 u_29 (fun (v_38 : Int32) (u_38 : Mm) => (v_38 = 0 ∨ v_38 = 1) ∧ Q v_38 u_38)))
set_option maxHeartbeats 4000000 in
set_option maxRecDepth 100000 in
theorem c_X11_fitsAt {l : Launch} {G : Gx} {p0 : Nat} {p1 : Nat} {p2 : Nat} {p3 : Int32} {p4 : Int32} {u : Mm} {Q : Int32 → Mm → Prop} (h : V_X11_fitsAt G p0 p1 p2 p3 p4 u Q) : Met l yX11_fitsAt [.code yX11_fitsAt cX11_fitsAt 5 (some .boolean)] rm_X11_fitsAt (va_Pc [.ref p0, .ref p1, .ref p2, .int p3, .int p4] (Wd G u)) (Ei G Q) 0 0 (ag G) := by
  refine q_met (by decide) (Nat.le_of_ble_eq_true rfl) ?_
  intro p e s m below meth c ls C hr hlk hnm hl hP
  have hl : lv_has ls 5 [(0, .ref p0), (1, .ref p1), (2, .ref p2), (3, .int p3), (4, .int p4)] := hl
  generalize ([.ref p0, .ref p1, .ref p2, .int p3, .int p4] : List Value).toArray = args
  have hx := C.1
  have hb := C.2.1
  unfold V_X11_fitsAt at h
  refine lv_aload_n hx hb dX11_fitsAt_0 rfl (lv_at hl 0 rfl) ?_
  obtain ⟨g1, h⟩ := h
  obtain ⟨g2, h⟩ := h
  refine q_getR C hP (k := 5) (lay_X11 C.hA) rfl (by decide) g1 g2 (fl_X11_40 C.hA) dX11_fitsAt_1 ?_
  refine lv_aload_n hx hb dX11_fitsAt_4 rfl (lv_at hl 1 rfl) ?_
  refine lv_iload_n hx hb dX11_fitsAt_5 rfl (lv_at hl 3 rfl) ?_
  refine lv_iload hx hb dX11_fitsAt_6 (lv_at hl 4 rfl) ?_
  refine lv_aload_n hx hb dX11_fitsAt_8 rfl (lv_at hl 2 rfl) ?_
  obtain ⟨g3, h⟩ := h
  refine q_getIN C hP (k := 2) (lay_X7 C.hA) rfl (by decide) g3 (fn_X11_203 C.hA) dX11_fitsAt_9 ?_
  refine lv_aload_n hx hb dX11_fitsAt_12 rfl (lv_at hl 2 rfl) ?_
  refine q_getIN C hP (k := 3) (lay_X7 C.hA) rfl (by decide) g3 (fn_X11_206 C.hA) dX11_fitsAt_13 ?_
  obtain ⟨g4, h⟩ := h
  refine q_calv (q_runVN C hP (c_X6_look h) (cd_X6_look C.hA) (ini_X6 C.hA) (mn_X11_141 C.hA) (im_X6_look C.hA) (sl_X6_look C.hA) g4 (by decide) rfl hd_X6_look ⟨rfl, rfl⟩ ⟨Nat.le_of_ble_eq_true rfl, Nat.le_of_ble_eq_true rfl⟩ ⟨Nat.le_of_ble_eq_true rfl, Nat.le_of_ble_eq_true rfl⟩ hl.1 rfl (Nat.le_of_ble_eq_true rfl) dX11_fitsAt_16) hP (fun u_16 H locs h hP => ?_)
  refine lv_aload_n hx hb dX11_fitsAt_19 rfl (lv_at hl 0 rfl) ?_
  obtain ⟨g5, h⟩ := h
  refine q_getR C hP (k := 7) (lay_X11 C.hA) rfl (by decide) g1 g5 (fl_X11_51 C.hA) dX11_fitsAt_20 ?_
  refine lv_aload_n hx hb dX11_fitsAt_23 rfl (lv_at hl 0 rfl) ?_
  obtain ⟨g6, h⟩ := h
  refine q_getR C hP (k := 5) (lay_X11 C.hA) rfl (by decide) g1 g6 (fl_X11_40 C.hA) dX11_fitsAt_24 ?_
  refine lv_aload_n hx hb dX11_fitsAt_27 rfl (lv_at hl 1 rfl) ?_
  refine lv_iconst (v := (0 : Int32)) hx hb dX11_fitsAt_28 (by decide) ?_
  obtain ⟨g7, h⟩ := h
  refine q_calv (q_runVN C hP (c_X3_gather h) (cd_X3_gather C.hA) (ini_X3 C.hA) (mn_X11_145 C.hA) (im_X3_gather C.hA) (sl_X3_gather C.hA) g7 (by decide) rfl hd_X3_gather ⟨rfl, rfl⟩ ⟨Nat.le_of_ble_eq_true rfl, Nat.le_of_ble_eq_true rfl⟩ ⟨Nat.le_of_ble_eq_true rfl, Nat.le_of_ble_eq_true rfl⟩ hl.1 rfl (Nat.le_of_ble_eq_true rfl) dX11_fitsAt_29) hP (fun u_29 H locs h hP => ?_)
  refine lv_aload_n hx hb dX11_fitsAt_32 rfl (lv_at hl 0 rfl) ?_
  obtain ⟨g8, h⟩ := h
  refine q_getR C hP (k := 7) (lay_X11 C.hA) rfl (by decide) g1 g8 (fl_X11_51 C.hA) dX11_fitsAt_33 ?_
  refine lv_aload_n hx hb dX11_fitsAt_36 rfl (lv_at hl 2 rfl) ?_
  refine lv_aload_n hx hb dX11_fitsAt_37 rfl (lv_at hl 1 rfl) ?_
  obtain ⟨g9, h⟩ := h
  refine q_cali (q_runVN C hP (c_X3_fit h) (cd_X3_fit C.hA) (ini_X3 C.hA) (mn_X11_244 C.hA) (im_X3_fit C.hA) (sl_X3_fit C.hA) g9 (by decide) rfl hd_X3_fit ⟨rfl, rfl⟩ ⟨Nat.le_of_ble_eq_true rfl, Nat.le_of_ble_eq_true rfl⟩ ⟨Nat.le_of_ble_eq_true rfl, Nat.le_of_ble_eq_true rfl⟩ hl.1 rfl (Nat.le_of_ble_eq_true rfl) dX11_fitsAt_38) hP (fun v_38 u_38 H locs h hP => ?_)
  obtain ⟨g10, h⟩ := h
  exact q_zret C hr hlk hP g10 h (by decide) (by decide) dX11_fitsAt_41
-- X11_fits
abbrev rm_X11_fits : Room := { frames := 7, cells := 2, slots := 12, locals := 148 }
theorem hd_X11_fits : yX11_fits.cls ≠ "java/lang/invoke/MethodHandle" ∧ yX11_fits.cls ≠ "java/lang/invoke/VarHandle" ∧ (parseMethodDescriptor yX11_fits.desc).map (fun d => d.parameters.length) = some 2 := by decide +kernel
def V_X11_fits (G : Gx) (p0 : Nat) (p1 : Int32) (p2 : Int32) (u : Mm) (Q : Int32 → Mm → Prop) (X : String → Mm → Prop) : Prop :=
  kd G p0 = 11 ∧ V_X11_needLand G p0 p1 u (fun (v_2 : Nat) (u_2 : Mm) => V_X11_needStation G p0 p2 u_2 (fun (v_8 : Nat) (u_8 : Mm) => kd G v_8 = 7 ∧ V_X7_isNamed G v_8 u_8 (fun (v_15 : Int32) (u_15 : Mm) => ((v_15 = 0 → Q (0 : Int32) u_15) ∧ (¬ v_15 = 0 → V_X11_fitsAt G p0 v_2 v_8 (gI u_15 v_8 0) (gI u_15 v_8 1) u_15 (fun (v_35 : Int32) (u_35 : Mm) => ((v_35 = 0 → Q (0 : Int32) u_35) ∧ (¬ v_35 = 0 → Q (1 : Int32) u_35))))))) X) X
set_option maxHeartbeats 4000000 in
set_option maxRecDepth 100000 in
theorem c_X11_fits {l : Launch} (hst : l.stackTraces = false) {G : Gx} {p0 : Nat} {p1 : Int32} {p2 : Int32} {u : Mm} {Q : Int32 → Mm → Prop} {X : String → Mm → Prop} (h : V_X11_fits G p0 p1 p2 u Q X) : vx_Met l yX11_fits [.code yX11_fits cX11_fits 5 (some .boolean)] rm_X11_fits (va_Pc [.ref p0, .int p1, .int p2] (Wd G u)) (Ei G Q) (Xe G X) 2 12 (ag G) := by
  refine q_metX (by decide) (Nat.le_of_ble_eq_true rfl) ?_
  intro p e s m below meth c ls C hr hlk hnm hxt hl hP
  have hl : lv_has ls 5 [(0, .ref p0), (1, .int p1), (2, .int p2)] := hl
  generalize ([.ref p0, .int p1, .int p2] : List Value).toArray = args
  have hx := C.1
  have hb := C.2.1
  unfold V_X11_fits at h
  refine lv_aload_n hx hb dX11_fits_0 rfl (lv_at hl 0 rfl) ?_
  refine lv_iload_n hx hb dX11_fits_1 rfl (lv_at hl 1 rfl) ?_
  obtain ⟨g1, h⟩ := h
  refine q_calrX hxt hlk (q_runVX C hP (c_X11_needLand hst h) (cd_X11_needLand C.hA) (ini_X11 C.hA) (ml_X11_84 C.hA) (im_X11_needLand C.hA) (sl_X11_needLand C.hA) g1 (by decide) rfl hd_X11_needLand ⟨rfl, rfl⟩ ⟨Nat.le_of_ble_eq_true rfl, Nat.le_of_ble_eq_true rfl⟩ ⟨Nat.le_of_ble_eq_true rfl, Nat.le_of_ble_eq_true rfl⟩ hl.1 rfl (Nat.le_of_ble_eq_true rfl) dX11_fits_2) hP (Nat.le_of_ble_eq_true rfl) (Nat.le_of_ble_eq_true rfl) (fun v_2 u_2 H locs h hP => ?_)
  refine lv_astore_n (lv' := [(3, .ref v_2), (0, .ref p0), (1, .int p1), (2, .int p2)]) hx hb dX11_fits_5 rfl hl (by decide) rfl (fun ls hl => ?_)
  refine lv_aload_n hx hb dX11_fits_6 rfl (lv_at hl 1 rfl) ?_
  refine lv_iload_n hx hb dX11_fits_7 rfl (lv_at hl 3 rfl) ?_
  refine q_calrX hxt hlk (q_runVX C hP (c_X11_needStation hst h) (cd_X11_needStation C.hA) (ini_X11 C.hA) (ml_X11_187 C.hA) (im_X11_needStation C.hA) (sl_X11_needStation C.hA) g1 (by decide) rfl hd_X11_needStation ⟨rfl, rfl⟩ ⟨Nat.le_of_ble_eq_true rfl, Nat.le_of_ble_eq_true rfl⟩ ⟨Nat.le_of_ble_eq_true rfl, Nat.le_of_ble_eq_true rfl⟩ hl.1 rfl (Nat.le_of_ble_eq_true rfl) dX11_fits_8) hP (Nat.le_of_ble_eq_true rfl) (Nat.le_of_ble_eq_true rfl) (fun v_8 u_8 H locs h hP => ?_)
  refine lv_astore (lv' := [(4, .ref v_8), (3, .ref v_2), (0, .ref p0), (1, .int p1), (2, .int p2)]) hx hb dX11_fits_11 hl (by decide) rfl (fun ls hl => ?_)
  refine lv_aload hx hb dX11_fits_13 (lv_at hl 0 rfl) ?_
  obtain ⟨g2, h⟩ := h
  refine q_cali (q_runVN C hP (c_X7_isNamed h) (cd_X7_isNamed C.hA) (ini_X7 C.hA) (mn_X11_213 C.hA) (im_X7_isNamed C.hA) (sl_X7_isNamed C.hA) g2 (by decide) rfl hd_X7_isNamed ⟨rfl, rfl⟩ ⟨Nat.le_of_ble_eq_true rfl, Nat.le_of_ble_eq_true rfl⟩ ⟨Nat.le_of_ble_eq_true rfl, Nat.le_of_ble_eq_true rfl⟩ hl.1 rfl (Nat.le_of_ble_eq_true rfl) dX11_fits_15) hP (fun v_15 u_15 H locs h hP => ?_)
  refine lv_if_eq (tgt := 45) hx hb dX11_fits_18 (by decide) (fun c18 => ?_) (fun c18 => ?_)
  · have h := h.1 c18
    refine lv_iconst (v := (0 : Int32)) hx hb dX11_fits_45 (by decide) ?_
    exact vx_ret (q_zret C hr hlk hP (by decide) h (by decide) (by decide) dX11_fits_46)
  · have h := h.2 c18
    refine lv_aload_n hx hb dX11_fits_21 rfl (lv_at hl 2 rfl) ?_
    refine lv_aload_n hx hb dX11_fits_22 rfl (lv_at hl 1 rfl) ?_
    refine lv_aload hx hb dX11_fits_23 (lv_at hl 0 rfl) ?_
    refine lv_aload hx hb dX11_fits_25 (lv_at hl 0 rfl) ?_
    refine q_getIN C hP (k := 0) (lay_X7 C.hA) rfl (by decide) g2 (fn_X11_197 C.hA) dX11_fits_27 ?_
    refine lv_aload hx hb dX11_fits_30 (lv_at hl 0 rfl) ?_
    refine q_getIN C hP (k := 1) (lay_X7 C.hA) rfl (by decide) g2 (fn_X11_200 C.hA) dX11_fits_32 ?_
    refine q_cali (q_runV C hP (c_X11_fitsAt h) (cd_X11_fitsAt C.hA) (ini_X11 C.hA) (ml_X11_217 C.hA) (im_X11_fitsAt C.hA) (sl_X11_fitsAt C.hA) g1 (by decide) rfl hd_X11_fitsAt ⟨rfl, rfl⟩ ⟨Nat.le_of_ble_eq_true rfl, Nat.le_of_ble_eq_true rfl⟩ ⟨Nat.le_of_ble_eq_true rfl, Nat.le_of_ble_eq_true rfl⟩ hl.1 rfl (Nat.le_of_ble_eq_true rfl) dX11_fits_35) hP (fun v_35 u_35 H locs h hP => ?_)
    refine lv_if_eq (tgt := 45) hx hb dX11_fits_38 (by decide) (fun c38 => ?_) (fun c38 => ?_)
    · have h := h.1 c38
      refine lv_iconst (v := (0 : Int32)) hx hb dX11_fits_45 (by decide) ?_
      exact vx_ret (q_zret C hr hlk hP (by decide) h (by decide) (by decide) dX11_fits_46)
    · have h := h.2 c38
      refine lv_iconst (v := (1 : Int32)) hx hb dX11_fits_41 (by decide) ?_
      refine lv_goto (tgt := 46) hx hb dX11_fits_42 (by decide) ?_
      exact vx_ret (q_zret C hr hlk hP (by decide) h (by decide) (by decide) dX11_fits_46)
-- X11_where
abbrev rm_X11_where : Room := { frames := 7, cells := 3, slots := 18, locals := 148 }
theorem hd_X11_where : yX11_where.cls ≠ "java/lang/invoke/MethodHandle" ∧ yX11_where.cls ≠ "java/lang/invoke/VarHandle" ∧ (parseMethodDescriptor yX11_where.desc).map (fun d => d.parameters.length) = some 3 := by decide +kernel
def V_X11_where_61 (G : Gx) (Q : Int32 → Mm → Prop) (X : String → Mm → Prop) (k_20 : Nat → Int32 → Nat → Nat → Int32 → Int32 → Mm → Prop) (x0 : Nat) (x3 : Int32) (x4 : Nat) (x5 : Nat) (x6 : Int32) (x7 : Int32) (u : Mm) : Prop :=
  ∀ x7_61 : Int32, x7_61 = x7 + (1 : Int32) → k_20 x0 x3 x4 x5 x6 x7_61 u
def V_X11_where_20_B (G : Gx) (Q : Int32 → Mm → Prop) (X : String → Mm → Prop) (k_20 : Nat → Int32 → Nat → Nat → Int32 → Int32 → Mm → Prop) (x0 : Nat) (x3 : Int32) (x4 : Nat) (x5 : Nat) (x6 : Int32) (x7 : Int32) (u : Mm) : Prop :=
  (((1681 : Int32) ≤ x7 → ((x3 = (-1 : Int32) → Q x6 u) ∧ (¬ x3 = (-1 : Int32) → X "java/util/NoSuchElementException" u))) ∧ (¬ (1681 : Int32) ≤ x7 → kd G x0 = 11 ∧ V_X11_fitsAt G x0 x4 x5 (irm x7 (41 : Int32)) (x7 / (41 : Int32)) u (fun (v_43 : Int32) (u_43 : Mm) => ((v_43 = 0 → V_X11_where_61 G Q X k_20 x0 x3 x4 x5 x6 x7 u_43) ∧ (¬ v_43 = 0 → ((x6 = x3 → Q x7 u_43) ∧ (¬ x6 = x3 → ∀ x6_58 : Int32, x6_58 = x6 + (1 : Int32) → V_X11_where_61 G Q X k_20 x0 x3 x4 x5 x6_58 x7 u_43)))))))
def V_X11_where_20 (G : Gx) (Q : Int32 → Mm → Prop) (X : String → Mm → Prop) : Nat → (Nat → Int32 → Nat → Nat → Int32 → Int32 → Mm → Prop)
  | 0 => fun _ _ _ _ _ _ _ => False
  | n + 1 => fun x0 x3 x4 x5 x6 x7 u => V_X11_where_20_B G Q X (V_X11_where_20 G Q X n) x0 x3 x4 x5 x6 x7 u
def V_X11_where (G : Gx) (p0 : Nat) (p1 : Int32) (p2 : Int32) (p3 : Int32) (u : Mm) (Q : Int32 → Mm → Prop) (X : String → Mm → Prop) : Prop :=
  kd G p0 = 11 ∧ V_X11_needLand G p0 p1 u (fun (v_2 : Nat) (u_2 : Mm) => V_X11_needStation G p0 p2 u_2 (fun (v_9 : Nat) (u_9 : Mm) => ∃ n : Nat, V_X11_where_20 G Q X n p0 p3 v_2 v_9 (0 : Int32) (0 : Int32) u_9) X) X
set_option maxHeartbeats 4000000 in
set_option maxRecDepth 100000 in
theorem b_X11_where_61 {G : Gx} {Q : Int32 → Mm → Prop} {X : String → Mm → Prop} {p : Program} {l : Launch} {e : Env} {s : State} {m : MethodId} {args : Array Value} {below : List Frame} {meth : Method} {c : Code} (hst : l.stackTraces = false) (C : Cx G p s m c cX11_where RX11 8) (hr : meth.sig.returnType = (some .int)) (hlk : meth.locks = false) (hxt : ∀ x ∈ c.exceptionTable.toList, False) {k_20 : Nat → Int32 → Nat → Nat → Int32 → Int32 → Mm → Prop} (hk_20 : ∀ (x0 : Nat) (x3 : Int32) (x4 : Nat) (x5 : Nat) (x6 : Int32) (x7 : Int32) (u : Mm) (H : Heap) (locs : List Loc) (ls : Array Slot), k_20 x0 x3 x4 x5 x6 x7 u → lv_has ls 8 [(0, .ref x0), (3, .int x3), (4, .ref x4), (5, .ref x5), (6, .int x6), (7, .int x7)] → Hp G u s H locs → W p l e rm_X11_where s m args below meth c H locs 2 12 (vx_MQ below (Ei G Q) (Xe G X) args s 3 18 (ag G)) (F0 m 20 ls [])) {x0 : Nat} {x3 : Int32} {x4 : Nat} {x5 : Nat} {x6 : Int32} {x7 : Int32} {u : Mm} {H : Heap} {locs : List Loc} {ls : Array Slot} (h : V_X11_where_61 G Q X k_20 x0 x3 x4 x5 x6 x7 u) (hl : lv_has ls 8 [(0, .ref x0), (3, .int x3), (4, .ref x4), (5, .ref x5), (6, .int x6), (7, .int x7)]) (hP : Hp G u s H locs) : W p l e rm_X11_where s m args below meth c H locs 2 12 (vx_MQ below (Ei G Q) (Xe G X) args s 3 18 (ag G)) (F0 m 61 ls []) := by
  have hx := C.1
  have hb := C.2.1
  unfold V_X11_where_61 at h
  obtain ⟨x7_61, ex7_61⟩ : ∃ y : Int32, y = x7 + (1 : Int32) := ⟨_, rfl⟩
  have h := h x7_61 ex7_61
  refine lv_iinc (v := x7_61) (lv' := [(7, .int x7_61), (0, .ref x0), (3, .int x3), (4, .ref x4), (5, .ref x5), (6, .int x6)]) hx hb dX11_where_61 hl (k := 5) rfl (by rw [ex7_61]; rfl) (by decide) rfl (fun ls hl => ?_)
  refine lv_goto (tgt := 20) hx hb dX11_where_64 (by decide) ?_
  exact hk_20 x0 x3 x4 x5 x6 x7_61 u _ _ _ h (lv_sub hl [1, 2, 3, 4, 5, 0] rfl) hP
set_option maxHeartbeats 4000000 in
set_option maxRecDepth 100000 in
theorem b_X11_where_20 {G : Gx} {Q : Int32 → Mm → Prop} {X : String → Mm → Prop} {p : Program} {l : Launch} {e : Env} {s : State} {m : MethodId} {args : Array Value} {below : List Frame} {meth : Method} {c : Code} (hst : l.stackTraces = false) (C : Cx G p s m c cX11_where RX11 8) (hr : meth.sig.returnType = (some .int)) (hlk : meth.locks = false) (hxt : ∀ x ∈ c.exceptionTable.toList, False) {k_20 : Nat → Int32 → Nat → Nat → Int32 → Int32 → Mm → Prop} (hk_20 : ∀ (x0 : Nat) (x3 : Int32) (x4 : Nat) (x5 : Nat) (x6 : Int32) (x7 : Int32) (u : Mm) (H : Heap) (locs : List Loc) (ls : Array Slot), k_20 x0 x3 x4 x5 x6 x7 u → lv_has ls 8 [(0, .ref x0), (3, .int x3), (4, .ref x4), (5, .ref x5), (6, .int x6), (7, .int x7)] → Hp G u s H locs → W p l e rm_X11_where s m args below meth c H locs 2 12 (vx_MQ below (Ei G Q) (Xe G X) args s 3 18 (ag G)) (F0 m 20 ls [])) {x0 : Nat} {x3 : Int32} {x4 : Nat} {x5 : Nat} {x6 : Int32} {x7 : Int32} {u : Mm} {H : Heap} {locs : List Loc} {ls : Array Slot} (h : V_X11_where_20_B G Q X k_20 x0 x3 x4 x5 x6 x7 u) (hl : lv_has ls 8 [(0, .ref x0), (3, .int x3), (4, .ref x4), (5, .ref x5), (6, .int x6), (7, .int x7)]) (hP : Hp G u s H locs) : W p l e rm_X11_where s m args below meth c H locs 2 12 (vx_MQ below (Ei G Q) (Xe G X) args s 3 18 (ag G)) (F0 m 20 ls []) := by
  have hx := C.1
  have hb := C.2.1
  unfold V_X11_where_20_B at h
  refine lv_iload hx hb dX11_where_20 (lv_at hl 5 rfl) ?_
  refine lv_sipush (v := (1681 : Int32)) hx hb dX11_where_22 (by decide) ?_
  refine lv_icmp_ge (tgt := 67) hx hb dX11_where_25 (by decide) (fun c25 => ?_) (fun c25 => ?_)
  · have h := h.1 c25
    refine lv_iload_n hx hb dX11_where_67 rfl (lv_at hl 1 rfl) ?_
    refine lv_iconst (v := (-1 : Int32)) hx hb dX11_where_68 (by decide) ?_
    refine lv_icmp_eq (tgt := 82) hx hb dX11_where_69 (by decide) (fun c69 => ?_) (fun c69 => ?_)
    · have h := h.1 c69
      refine lv_iload hx hb dX11_where_82 (lv_at hl 4 rfl) ?_
      exact vx_ret (q_iret C hr hlk hP h (by decide) (by decide) dX11_where_84)
    · have h := h.2 c69
      exact q_thrN C hst hxt hlk hP 19 (by decide) rfl rfl (by decide) (cl_X11_115 C.hA) (ini_java_util_NoSuchElementException C.hA) (thN C.hA) thN_g hl.1 h dX11_where_72 dX11_where_75 dX11_where_76 dX11_where_78 dX11_where_81 ⟨Nat.le_of_ble_eq_true rfl, Nat.le_of_ble_eq_true rfl, Nat.le_of_ble_eq_true rfl, Nat.le_of_ble_eq_true rfl⟩ (Nat.le_of_ble_eq_true rfl) (Nat.le_of_ble_eq_true rfl)
  · have h := h.2 c25
    refine lv_aload_n hx hb dX11_where_28 rfl (lv_at hl 0 rfl) ?_
    refine lv_aload hx hb dX11_where_29 (lv_at hl 2 rfl) ?_
    refine lv_aload hx hb dX11_where_31 (lv_at hl 3 rfl) ?_
    refine lv_iload hx hb dX11_where_33 (lv_at hl 5 rfl) ?_
    refine lv_bipush (v := (41 : Int32)) hx hb dX11_where_35 (by decide) ?_
    refine lv_irem hx hb dX11_where_37 (by decide) ?_
    refine lv_iload hx hb dX11_where_38 (lv_at hl 5 rfl) ?_
    refine lv_bipush (v := (41 : Int32)) hx hb dX11_where_40 (by decide) ?_
    refine lv_idiv hx hb dX11_where_42 (by decide) ?_
    obtain ⟨g1, h⟩ := h
    refine q_cali (q_runV C hP (c_X11_fitsAt h) (cd_X11_fitsAt C.hA) (ini_X11 C.hA) (ml_X11_217 C.hA) (im_X11_fitsAt C.hA) (sl_X11_fitsAt C.hA) g1 (by decide) rfl hd_X11_fitsAt ⟨rfl, rfl⟩ ⟨Nat.le_of_ble_eq_true rfl, Nat.le_of_ble_eq_true rfl⟩ ⟨Nat.le_of_ble_eq_true rfl, Nat.le_of_ble_eq_true rfl⟩ hl.1 rfl (Nat.le_of_ble_eq_true rfl) dX11_where_43) hP (fun v_43 u_43 H locs h hP => ?_)
    refine lv_if_eq (tgt := 61) hx hb dX11_where_46 (by decide) (fun c46 => ?_) (fun c46 => ?_)
    · have h := h.1 c46
      exact b_X11_where_61 hst C hr hlk hxt hk_20 h (lv_sub hl [0, 1, 2, 3, 4, 5] rfl) hP
    · have h := h.2 c46
      refine lv_iload hx hb dX11_where_49 (lv_at hl 4 rfl) ?_
      refine lv_iload_n hx hb dX11_where_51 rfl (lv_at hl 1 rfl) ?_
      refine lv_icmp_ne (tgt := 58) hx hb dX11_where_52 (by decide) (fun c52 => ?_) (fun c52 => ?_)
      · have h := h.2 c52
        obtain ⟨x6_58, ex6_58⟩ : ∃ y : Int32, y = x6 + (1 : Int32) := ⟨_, rfl⟩
        have h := h x6_58 ex6_58
        refine lv_iinc (v := x6_58) (lv' := [(6, .int x6_58), (0, .ref x0), (3, .int x3), (4, .ref x4), (5, .ref x5), (7, .int x7)]) hx hb dX11_where_58 hl (k := 4) rfl (by rw [ex6_58]; rfl) (by decide) rfl (fun ls hl => ?_)
        exact b_X11_where_61 hst C hr hlk hxt hk_20 h (lv_sub hl [1, 2, 3, 4, 0, 5] rfl) hP
      · have h := h.1 c52
        refine lv_iload hx hb dX11_where_55 (lv_at hl 5 rfl) ?_
        exact vx_ret (q_iret C hr hlk hP h (by decide) (by decide) dX11_where_57)
theorem l_X11_where_20 {G : Gx} {Q : Int32 → Mm → Prop} {X : String → Mm → Prop} {p : Program} {l : Launch} {e : Env} {s : State} {m : MethodId} {args : Array Value} {below : List Frame} {meth : Method} {c : Code} (hst : l.stackTraces = false) (C : Cx G p s m c cX11_where RX11 8) (hr : meth.sig.returnType = (some .int)) (hlk : meth.locks = false) (hxt : ∀ x ∈ c.exceptionTable.toList, False) : ∀ (n : Nat) (x0 : Nat) (x3 : Int32) (x4 : Nat) (x5 : Nat) (x6 : Int32) (x7 : Int32) (u : Mm) (H : Heap) (locs : List Loc) (ls : Array Slot), V_X11_where_20 G Q X n x0 x3 x4 x5 x6 x7 u → lv_has ls 8 [(0, .ref x0), (3, .int x3), (4, .ref x4), (5, .ref x5), (6, .int x6), (7, .int x7)] → Hp G u s H locs → W p l e rm_X11_where s m args below meth c H locs 2 12 (vx_MQ below (Ei G Q) (Xe G X) args s 3 18 (ag G)) (F0 m 20 ls []) := by
  intro n
  induction n with
  | zero => intro x0 x3 x4 x5 x6 x7 u H locs ls h; exact h.elim
  | succ n ih => intro x0 x3 x4 x5 x6 x7 u H locs ls h hl hP; exact b_X11_where_20 hst C hr hlk hxt ih h hl hP
set_option maxHeartbeats 4000000 in
set_option maxRecDepth 100000 in
theorem c_X11_where {l : Launch} (hst : l.stackTraces = false) {G : Gx} {p0 : Nat} {p1 : Int32} {p2 : Int32} {p3 : Int32} {u : Mm} {Q : Int32 → Mm → Prop} {X : String → Mm → Prop} (h : V_X11_where G p0 p1 p2 p3 u Q X) : vx_Met l yX11_where [.code yX11_where cX11_where 8 (some .int)] rm_X11_where (va_Pc [.ref p0, .int p1, .int p2, .int p3] (Wd G u)) (Ei G Q) (Xe G X) 3 18 (ag G) := by
  refine q_metX (by decide) (Nat.le_of_ble_eq_true rfl) ?_
  intro p e s m below meth c ls C hr hlk hnm hxt hl hP
  have hl : lv_has ls 8 [(0, .ref p0), (1, .int p1), (2, .int p2), (3, .int p3)] := hl
  generalize ([.ref p0, .int p1, .int p2, .int p3] : List Value).toArray = args
  have hx := C.1
  have hb := C.2.1
  unfold V_X11_where at h
  refine lv_aload_n hx hb dX11_where_0 rfl (lv_at hl 0 rfl) ?_
  refine lv_iload_n hx hb dX11_where_1 rfl (lv_at hl 1 rfl) ?_
  obtain ⟨g1, h⟩ := h
  refine q_calrX hxt hlk (q_runVX C hP (c_X11_needLand hst h) (cd_X11_needLand C.hA) (ini_X11 C.hA) (ml_X11_84 C.hA) (im_X11_needLand C.hA) (sl_X11_needLand C.hA) g1 (by decide) rfl hd_X11_needLand ⟨rfl, rfl⟩ ⟨Nat.le_of_ble_eq_true rfl, Nat.le_of_ble_eq_true rfl⟩ ⟨Nat.le_of_ble_eq_true rfl, Nat.le_of_ble_eq_true rfl⟩ hl.1 rfl (Nat.le_of_ble_eq_true rfl) dX11_where_2) hP (Nat.le_of_ble_eq_true rfl) (Nat.le_of_ble_eq_true rfl) (fun v_2 u_2 H locs h hP => ?_)
  refine lv_astore (lv' := [(4, .ref v_2), (0, .ref p0), (1, .int p1), (2, .int p2), (3, .int p3)]) hx hb dX11_where_5 hl (by decide) rfl (fun ls hl => ?_)
  refine lv_aload_n hx hb dX11_where_7 rfl (lv_at hl 1 rfl) ?_
  refine lv_iload_n hx hb dX11_where_8 rfl (lv_at hl 3 rfl) ?_
  refine q_calrX hxt hlk (q_runVX C hP (c_X11_needStation hst h) (cd_X11_needStation C.hA) (ini_X11 C.hA) (ml_X11_187 C.hA) (im_X11_needStation C.hA) (sl_X11_needStation C.hA) g1 (by decide) rfl hd_X11_needStation ⟨rfl, rfl⟩ ⟨Nat.le_of_ble_eq_true rfl, Nat.le_of_ble_eq_true rfl⟩ ⟨Nat.le_of_ble_eq_true rfl, Nat.le_of_ble_eq_true rfl⟩ hl.1 rfl (Nat.le_of_ble_eq_true rfl) dX11_where_9) hP (Nat.le_of_ble_eq_true rfl) (Nat.le_of_ble_eq_true rfl) (fun v_9 u_9 H locs h hP => ?_)
  refine lv_astore (lv' := [(5, .ref v_9), (4, .ref v_2), (0, .ref p0), (1, .int p1), (2, .int p2), (3, .int p3)]) hx hb dX11_where_12 hl (by decide) rfl (fun ls hl => ?_)
  refine lv_iconst (v := (0 : Int32)) hx hb dX11_where_14 (by decide) ?_
  refine lv_istore (lv' := [(6, .int (0 : Int32)), (5, .ref v_9), (4, .ref v_2), (0, .ref p0), (1, .int p1), (2, .int p2), (3, .int p3)]) hx hb dX11_where_15 hl (by decide) rfl (fun ls hl => ?_)
  refine lv_iconst (v := (0 : Int32)) hx hb dX11_where_17 (by decide) ?_
  refine lv_istore (lv' := [(7, .int (0 : Int32)), (6, .int (0 : Int32)), (5, .ref v_9), (4, .ref v_2), (0, .ref p0), (1, .int p1), (2, .int p2), (3, .int p3)]) hx hb dX11_where_18 hl (by decide) rfl (fun ls hl => ?_)
  obtain ⟨n, h⟩ := h
  exact l_X11_where_20 hst C hr hlk hxt n p0 p3 v_2 v_9 (0 : Int32) (0 : Int32) u_9 _ _ _ h (lv_sub hl [4, 7, 3, 2, 1, 0] rfl) hP
-- X11_needNamed
abbrev rm_X11_needNamed : Room := { frames := 7, cells := 2, slots := 12, locals := 103 }
theorem hd_X11_needNamed : yX11_needNamed.cls ≠ "java/lang/invoke/MethodHandle" ∧ yX11_needNamed.cls ≠ "java/lang/invoke/VarHandle" ∧ (parseMethodDescriptor yX11_needNamed.desc).map (fun d => d.parameters.length) = some 1 := by decide +kernel
def V_X11_needNamed (G : Gx) (p0 : Nat) (p1 : Int32) (u : Mm) (Q : Nat → Mm → Prop) (X : String → Mm → Prop) : Prop :=
  kd G p0 = 11 ∧ V_X11_needStation G p0 p1 u (fun (v_2 : Nat) (u_2 : Mm) => kd G v_2 = 7 ∧ V_X7_isNamed G v_2 u_2 (fun (v_7 : Int32) (u_7 : Mm) => ((v_7 = 0 → X "java/util/NoSuchElementException" u_7) ∧ (¬ v_7 = 0 → Q v_2 u_7)))) X
set_option maxHeartbeats 4000000 in
set_option maxRecDepth 100000 in
theorem c_X11_needNamed {l : Launch} (hst : l.stackTraces = false) {G : Gx} {p0 : Nat} {p1 : Int32} {u : Mm} {Q : Nat → Mm → Prop} {X : String → Mm → Prop} (h : V_X11_needNamed G p0 p1 u Q X) : vx_Met l yX11_needNamed [.code yX11_needNamed cX11_needNamed 3 (some (.object "ClapValley$Station"))] rm_X11_needNamed (va_Pc [.ref p0, .int p1] (Wd G u)) (Er G Q) (Xe G X) 2 12 (ag G) := by
  refine q_metX (by decide) (Nat.le_of_ble_eq_true rfl) ?_
  intro p e s m below meth c ls C hr hlk hnm hxt hl hP
  have hl : lv_has ls 3 [(0, .ref p0), (1, .int p1)] := hl
  generalize ([.ref p0, .int p1] : List Value).toArray = args
  have hx := C.1
  have hb := C.2.1
  unfold V_X11_needNamed at h
  refine lv_aload_n hx hb dX11_needNamed_0 rfl (lv_at hl 0 rfl) ?_
  refine lv_iload_n hx hb dX11_needNamed_1 rfl (lv_at hl 1 rfl) ?_
  obtain ⟨g1, h⟩ := h
  refine q_calrX hxt hlk (q_runVX C hP (c_X11_needStation hst h) (cd_X11_needStation C.hA) (ini_X11 C.hA) (ml_X11_187 C.hA) (im_X11_needStation C.hA) (sl_X11_needStation C.hA) g1 (by decide) rfl hd_X11_needStation ⟨rfl, rfl⟩ ⟨Nat.le_of_ble_eq_true rfl, Nat.le_of_ble_eq_true rfl⟩ ⟨Nat.le_of_ble_eq_true rfl, Nat.le_of_ble_eq_true rfl⟩ hl.1 rfl (Nat.le_of_ble_eq_true rfl) dX11_needNamed_2) hP (Nat.le_of_ble_eq_true rfl) (Nat.le_of_ble_eq_true rfl) (fun v_2 u_2 H locs h hP => ?_)
  refine lv_astore_n (lv' := [(2, .ref v_2), (0, .ref p0), (1, .int p1)]) hx hb dX11_needNamed_5 rfl hl (by decide) rfl (fun ls hl => ?_)
  refine lv_aload_n hx hb dX11_needNamed_6 rfl (lv_at hl 0 rfl) ?_
  obtain ⟨g2, h⟩ := h
  refine q_cali (q_runVN C hP (c_X7_isNamed h) (cd_X7_isNamed C.hA) (ini_X7 C.hA) (mn_X11_213 C.hA) (im_X7_isNamed C.hA) (sl_X7_isNamed C.hA) g2 (by decide) rfl hd_X7_isNamed ⟨rfl, rfl⟩ ⟨Nat.le_of_ble_eq_true rfl, Nat.le_of_ble_eq_true rfl⟩ ⟨Nat.le_of_ble_eq_true rfl, Nat.le_of_ble_eq_true rfl⟩ hl.1 rfl (Nat.le_of_ble_eq_true rfl) dX11_needNamed_7) hP (fun v_7 u_7 H locs h hP => ?_)
  refine lv_if_ne (tgt := 24) hx hb dX11_needNamed_10 (by decide) (fun c10 => ?_) (fun c10 => ?_)
  · have h := h.2 c10
    refine lv_aload_n hx hb dX11_needNamed_24 rfl (lv_at hl 0 rfl) ?_
    exact vx_ret (q_aret C hr hlk hP h (by decide) (by decide) dX11_needNamed_25)
  · have h := h.1 c10
    exact q_thrNW C hst hxt hlk hP 20 (by decide) rfl rfl (by decide) (cl_X11_115 C.hA) (ini_java_util_NoSuchElementException C.hA) (thN C.hA) thN_g hl.1 h dX11_needNamed_13 dX11_needNamed_16 dX11_needNamed_17 dX11_needNamed_20 dX11_needNamed_23 ⟨Nat.le_of_ble_eq_true rfl, Nat.le_of_ble_eq_true rfl, Nat.le_of_ble_eq_true rfl, Nat.le_of_ble_eq_true rfl⟩ (Nat.le_of_ble_eq_true rfl) (Nat.le_of_ble_eq_true rfl)
-- X11_airs
abbrev rm_X11_airs : Room := { frames := 8, cells := 4, slots := 24, locals := 125 }
theorem hd_X11_airs : yX11_airs.cls ≠ "java/lang/invoke/MethodHandle" ∧ yX11_airs.cls ≠ "java/lang/invoke/VarHandle" ∧ (parseMethodDescriptor yX11_airs.desc).map (fun d => d.parameters.length) = some 3 := by decide +kernel
def V_X11_airs_166 (G : Gx) (Q : Int32 → Mm → Prop) (X : String → Mm → Prop) (x3 : Int32) (x7 : Int32) (x8 : Int32) (x9 : Int32) (u : Mm) : Prop :=
  ((x3 = 0 → Q x7 u) ∧ (¬ x3 = 0 → ((x3 = (1 : Int32) → Q x8 u) ∧ (¬ x3 = (1 : Int32) → Q x9 u))))
def V_X11_airs_160 (G : Gx) (Q : Int32 → Mm → Prop) (X : String → Mm → Prop) (k_103 : Nat → Int32 → Nat → Int32 → Int32 → Int32 → Int32 → Int32 → Mm → Prop) (x0 : Nat) (x3 : Int32) (x5 : Nat) (x6 : Int32) (x7 : Int32) (x8 : Int32) (x9 : Int32) (x10 : Int32) (u : Mm) : Prop :=
  ∀ x10_160 : Int32, x10_160 = x10 + (1 : Int32) → k_103 x0 x3 x5 x6 x7 x8 x9 x10_160 u
def V_X11_airs_154 (G : Gx) (Q : Int32 → Mm → Prop) (X : String → Mm → Prop) (k_103 : Nat → Int32 → Nat → Int32 → Int32 → Int32 → Int32 → Int32 → Mm → Prop) (x0 : Nat) (x3 : Int32) (x5 : Nat) (x6 : Int32) (x7 : Int32) (x10 : Int32) (t0 : Int32) (u : Mm) : Prop :=
  V_X11_airs_160 G Q X k_103 x0 x3 x5 x6 x7 t0 x10 x10 u
def V_X11_airs_103_B (G : Gx) (Q : Int32 → Mm → Prop) (X : String → Mm → Prop) (k_103 : Nat → Int32 → Nat → Int32 → Int32 → Int32 → Int32 → Int32 → Mm → Prop) (x0 : Nat) (x3 : Int32) (x5 : Nat) (x6 : Int32) (x7 : Int32) (x8 : Int32) (x9 : Int32) (x10 : Int32) (u : Mm) : Prop :=
  (((150 : Int32) < x10 → V_X11_airs_166 G Q X x3 x7 x8 x9 u) ∧ (¬ (150 : Int32) < x10 → kd G x5 = 7 ∧ ((x6 = (gI u x5 4) → kd G x0 = 11 ∧ (gR u x0 7) ≠ 0 ∧ (gR u x5 6) ≠ 0 ∧ kd G (gR u x0 7) = 3 ∧ V_X3_rowIs G (gR u x0 7) (gR u x5 6) x10 u (fun (v_132 : Int32) (u_132 : Mm) => ((v_132 = 0 → V_X11_airs_160 G Q X k_103 x0 x3 x5 x6 x7 x8 x9 x10 u_132) ∧ (¬ v_132 = 0 → ∀ x7_138 : Int32, x7_138 = x7 + (1 : Int32) → ((x8 = (-1 : Int32) → V_X11_airs_154 G Q X k_103 x0 x3 x5 x6 x7_138 x10 x10 u_132) ∧ (¬ x8 = (-1 : Int32) → V_X11_airs_154 G Q X k_103 x0 x3 x5 x6 x7_138 x10 x8 u_132)))))) ∧ (¬ x6 = (gI u x5 4) → V_X11_airs_166 G Q X x3 x7 x8 x9 u))))
def V_X11_airs_103 (G : Gx) (Q : Int32 → Mm → Prop) (X : String → Mm → Prop) : Nat → (Nat → Int32 → Nat → Int32 → Int32 → Int32 → Int32 → Int32 → Mm → Prop)
  | 0 => fun _ _ _ _ _ _ _ _ _ => False
  | n + 1 => fun x0 x3 x5 x6 x7 x8 x9 x10 u => V_X11_airs_103_B G Q X (V_X11_airs_103 G Q X n) x0 x3 x5 x6 x7 x8 x9 x10 u
def V_X11_airs_23 (G : Gx) (Q : Int32 → Mm → Prop) (X : String → Mm → Prop) (u : Mm) : Prop :=
  X "java/util/NoSuchElementException" u
def V_X11_airs (G : Gx) (p0 : Nat) (p1 : Int32) (p2 : Int32) (p3 : Int32) (u : Mm) (Q : Int32 → Mm → Prop) (X : String → Mm → Prop) : Prop :=
  kd G p0 = 11 ∧ V_X11_needLand G p0 p1 u (fun (v_2 : Nat) (u_2 : Mm) => V_X11_needNamed G p0 p2 u_2 (fun (v_9 : Nat) (u_9 : Mm) => ((p3 < 0 → V_X11_airs_23 G Q X  u_9) ∧ (¬ p3 < 0 → ((p3 ≤ (2 : Int32) → (gR u_9 p0 5) ≠ 0 ∧ kd G v_9 = 7 ∧ kd G (gR u_9 p0 5) = 6 ∧ V_X6_look G (gR u_9 p0 5) v_2 (gI u_9 v_9 0) (gI u_9 v_9 1) (gI u_9 v_9 2) (gI u_9 v_9 3) u_9 (fun (u_59 : Mm) => (gR u_59 p0 7) ≠ 0 ∧ (gR u_59 p0 5) ≠ 0 ∧ kd G (gR u_59 p0 7) = 3 ∧ V_X3_gather G (gR u_59 p0 7) (gR u_59 p0 5) v_2 (0 : Int32) u_59 (fun (u_73 : Mm) => (gR u_73 p0 7) ≠ 0 ∧ kd G v_2 = 4 ∧ kd G (gR u_73 p0 7) = 3 ∧ V_X3_orderHeard G (gR u_73 p0 7) (gI u_73 v_2 6) u_73 (fun (v_85 : Int32) (u_85 : Mm) => ∃ n : Nat, V_X11_airs_103 G Q X n p0 p3 v_9 v_85 (0 : Int32) (-1 : Int32) (-1 : Int32) (50 : Int32) u_85)))) ∧ (¬ p3 ≤ (2 : Int32) → V_X11_airs_23 G Q X  u_9))))) X) X
set_option maxHeartbeats 4000000 in
set_option maxRecDepth 100000 in
theorem b_X11_airs_166 {G : Gx} {Q : Int32 → Mm → Prop} {X : String → Mm → Prop} {p : Program} {l : Launch} {e : Env} {s : State} {m : MethodId} {args : Array Value} {below : List Frame} {meth : Method} {c : Code} (hst : l.stackTraces = false) (C : Cx G p s m c cX11_airs RX11 11) (hr : meth.sig.returnType = (some .int)) (hlk : meth.locks = false) (hxt : ∀ x ∈ c.exceptionTable.toList, False) {x3 : Int32} {x7 : Int32} {x8 : Int32} {x9 : Int32} {u : Mm} {H : Heap} {locs : List Loc} {ls : Array Slot} (h : V_X11_airs_166 G Q X x3 x7 x8 x9 u) (hl : lv_has ls 11 [(3, .int x3), (7, .int x7), (8, .int x8), (9, .int x9)]) (hP : Hp G u s H locs) : W p l e rm_X11_airs s m args below meth c H locs 3 18 (vx_MQ below (Ei G Q) (Xe G X) args s 4 24 (ag G)) (F0 m 166 ls []) := by
  have hx := C.1
  have hb := C.2.1
  unfold V_X11_airs_166 at h
  refine lv_iload_n hx hb dX11_airs_166 rfl (lv_at hl 0 rfl) ?_
  refine lv_if_ne (tgt := 175) hx hb dX11_airs_167 (by decide) (fun c167 => ?_) (fun c167 => ?_)
  · have h := h.2 c167
    refine lv_iload_n hx hb dX11_airs_175 rfl (lv_at hl 0 rfl) ?_
    refine lv_iconst (v := (1 : Int32)) hx hb dX11_airs_176 (by decide) ?_
    refine lv_icmp_ne (tgt := 185) hx hb dX11_airs_177 (by decide) (fun c177 => ?_) (fun c177 => ?_)
    · have h := h.2 c177
      refine lv_iload hx hb dX11_airs_185 (lv_at hl 3 rfl) ?_
      exact vx_ret (q_iret C hr hlk hP h (by decide) (by decide) dX11_airs_187)
    · have h := h.1 c177
      refine lv_iload hx hb dX11_airs_180 (lv_at hl 2 rfl) ?_
      refine lv_goto (tgt := 187) hx hb dX11_airs_182 (by decide) ?_
      exact vx_ret (q_iret C hr hlk hP h (by decide) (by decide) dX11_airs_187)
  · have h := h.1 c167
    refine lv_iload hx hb dX11_airs_170 (lv_at hl 1 rfl) ?_
    refine lv_goto (tgt := 187) hx hb dX11_airs_172 (by decide) ?_
    exact vx_ret (q_iret C hr hlk hP h (by decide) (by decide) dX11_airs_187)
set_option maxHeartbeats 4000000 in
set_option maxRecDepth 100000 in
theorem b_X11_airs_160 {G : Gx} {Q : Int32 → Mm → Prop} {X : String → Mm → Prop} {p : Program} {l : Launch} {e : Env} {s : State} {m : MethodId} {args : Array Value} {below : List Frame} {meth : Method} {c : Code} (hst : l.stackTraces = false) (C : Cx G p s m c cX11_airs RX11 11) (hr : meth.sig.returnType = (some .int)) (hlk : meth.locks = false) (hxt : ∀ x ∈ c.exceptionTable.toList, False) {k_103 : Nat → Int32 → Nat → Int32 → Int32 → Int32 → Int32 → Int32 → Mm → Prop} (hk_103 : ∀ (x0 : Nat) (x3 : Int32) (x5 : Nat) (x6 : Int32) (x7 : Int32) (x8 : Int32) (x9 : Int32) (x10 : Int32) (u : Mm) (H : Heap) (locs : List Loc) (ls : Array Slot), k_103 x0 x3 x5 x6 x7 x8 x9 x10 u → lv_has ls 11 [(0, .ref x0), (3, .int x3), (5, .ref x5), (6, .int x6), (7, .int x7), (8, .int x8), (9, .int x9), (10, .int x10)] → Hp G u s H locs → W p l e rm_X11_airs s m args below meth c H locs 3 18 (vx_MQ below (Ei G Q) (Xe G X) args s 4 24 (ag G)) (F0 m 103 ls [])) {x0 : Nat} {x3 : Int32} {x5 : Nat} {x6 : Int32} {x7 : Int32} {x8 : Int32} {x9 : Int32} {x10 : Int32} {u : Mm} {H : Heap} {locs : List Loc} {ls : Array Slot} (h : V_X11_airs_160 G Q X k_103 x0 x3 x5 x6 x7 x8 x9 x10 u) (hl : lv_has ls 11 [(0, .ref x0), (3, .int x3), (5, .ref x5), (6, .int x6), (7, .int x7), (8, .int x8), (9, .int x9), (10, .int x10)]) (hP : Hp G u s H locs) : W p l e rm_X11_airs s m args below meth c H locs 3 18 (vx_MQ below (Ei G Q) (Xe G X) args s 4 24 (ag G)) (F0 m 160 ls []) := by
  have hx := C.1
  have hb := C.2.1
  unfold V_X11_airs_160 at h
  obtain ⟨x10_160, ex10_160⟩ : ∃ y : Int32, y = x10 + (1 : Int32) := ⟨_, rfl⟩
  have h := h x10_160 ex10_160
  refine lv_iinc (v := x10_160) (lv' := [(10, .int x10_160), (0, .ref x0), (3, .int x3), (5, .ref x5), (6, .int x6), (7, .int x7), (8, .int x8), (9, .int x9)]) hx hb dX11_airs_160 hl (k := 7) rfl (by rw [ex10_160]; rfl) (by decide) rfl (fun ls hl => ?_)
  refine lv_goto (tgt := 103) hx hb dX11_airs_163 (by decide) ?_
  exact hk_103 x0 x3 x5 x6 x7 x8 x9 x10_160 u _ _ _ h (lv_sub hl [1, 2, 3, 4, 5, 6, 7, 0] rfl) hP
set_option maxHeartbeats 4000000 in
set_option maxRecDepth 100000 in
theorem b_X11_airs_154 {G : Gx} {Q : Int32 → Mm → Prop} {X : String → Mm → Prop} {p : Program} {l : Launch} {e : Env} {s : State} {m : MethodId} {args : Array Value} {below : List Frame} {meth : Method} {c : Code} (hst : l.stackTraces = false) (C : Cx G p s m c cX11_airs RX11 11) (hr : meth.sig.returnType = (some .int)) (hlk : meth.locks = false) (hxt : ∀ x ∈ c.exceptionTable.toList, False) {k_103 : Nat → Int32 → Nat → Int32 → Int32 → Int32 → Int32 → Int32 → Mm → Prop} (hk_103 : ∀ (x0 : Nat) (x3 : Int32) (x5 : Nat) (x6 : Int32) (x7 : Int32) (x8 : Int32) (x9 : Int32) (x10 : Int32) (u : Mm) (H : Heap) (locs : List Loc) (ls : Array Slot), k_103 x0 x3 x5 x6 x7 x8 x9 x10 u → lv_has ls 11 [(0, .ref x0), (3, .int x3), (5, .ref x5), (6, .int x6), (7, .int x7), (8, .int x8), (9, .int x9), (10, .int x10)] → Hp G u s H locs → W p l e rm_X11_airs s m args below meth c H locs 3 18 (vx_MQ below (Ei G Q) (Xe G X) args s 4 24 (ag G)) (F0 m 103 ls [])) {x0 : Nat} {x3 : Int32} {x5 : Nat} {x6 : Int32} {x7 : Int32} {x10 : Int32} {t0 : Int32} {u : Mm} {H : Heap} {locs : List Loc} {ls : Array Slot} (h : V_X11_airs_154 G Q X k_103 x0 x3 x5 x6 x7 x10 t0 u) (hl : lv_has ls 11 [(0, .ref x0), (3, .int x3), (5, .ref x5), (6, .int x6), (7, .int x7), (10, .int x10)]) (hP : Hp G u s H locs) : W p l e rm_X11_airs s m args below meth c H locs 3 18 (vx_MQ below (Ei G Q) (Xe G X) args s 4 24 (ag G)) (F0 m 154 ls [.int t0]) := by
  have hx := C.1
  have hb := C.2.1
  unfold V_X11_airs_154 at h
  refine lv_istore (lv' := [(8, .int t0), (0, .ref x0), (3, .int x3), (5, .ref x5), (6, .int x6), (7, .int x7), (10, .int x10)]) hx hb dX11_airs_154 hl (by decide) rfl (fun ls hl => ?_)
  refine lv_iload hx hb dX11_airs_156 (lv_at hl 6 rfl) ?_
  refine lv_istore (lv' := [(9, .int x10), (8, .int t0), (0, .ref x0), (3, .int x3), (5, .ref x5), (6, .int x6), (7, .int x7), (10, .int x10)]) hx hb dX11_airs_158 hl (by decide) rfl (fun ls hl => ?_)
  exact b_X11_airs_160 hst C hr hlk hxt hk_103 h (lv_sub hl [2, 3, 4, 5, 6, 1, 0, 7] rfl) hP
set_option maxHeartbeats 4000000 in
set_option maxRecDepth 100000 in
theorem b_X11_airs_103 {G : Gx} {Q : Int32 → Mm → Prop} {X : String → Mm → Prop} {p : Program} {l : Launch} {e : Env} {s : State} {m : MethodId} {args : Array Value} {below : List Frame} {meth : Method} {c : Code} (hst : l.stackTraces = false) (C : Cx G p s m c cX11_airs RX11 11) (hr : meth.sig.returnType = (some .int)) (hlk : meth.locks = false) (hxt : ∀ x ∈ c.exceptionTable.toList, False) {k_103 : Nat → Int32 → Nat → Int32 → Int32 → Int32 → Int32 → Int32 → Mm → Prop} (hk_103 : ∀ (x0 : Nat) (x3 : Int32) (x5 : Nat) (x6 : Int32) (x7 : Int32) (x8 : Int32) (x9 : Int32) (x10 : Int32) (u : Mm) (H : Heap) (locs : List Loc) (ls : Array Slot), k_103 x0 x3 x5 x6 x7 x8 x9 x10 u → lv_has ls 11 [(0, .ref x0), (3, .int x3), (5, .ref x5), (6, .int x6), (7, .int x7), (8, .int x8), (9, .int x9), (10, .int x10)] → Hp G u s H locs → W p l e rm_X11_airs s m args below meth c H locs 3 18 (vx_MQ below (Ei G Q) (Xe G X) args s 4 24 (ag G)) (F0 m 103 ls [])) {x0 : Nat} {x3 : Int32} {x5 : Nat} {x6 : Int32} {x7 : Int32} {x8 : Int32} {x9 : Int32} {x10 : Int32} {u : Mm} {H : Heap} {locs : List Loc} {ls : Array Slot} (h : V_X11_airs_103_B G Q X k_103 x0 x3 x5 x6 x7 x8 x9 x10 u) (hl : lv_has ls 11 [(0, .ref x0), (3, .int x3), (5, .ref x5), (6, .int x6), (7, .int x7), (8, .int x8), (9, .int x9), (10, .int x10)]) (hP : Hp G u s H locs) : W p l e rm_X11_airs s m args below meth c H locs 3 18 (vx_MQ below (Ei G Q) (Xe G X) args s 4 24 (ag G)) (F0 m 103 ls []) := by
  have hx := C.1
  have hb := C.2.1
  unfold V_X11_airs_103_B at h
  refine lv_iload hx hb dX11_airs_103 (lv_at hl 7 rfl) ?_
  refine lv_sipush (v := (150 : Int32)) hx hb dX11_airs_105 (by decide) ?_
  refine lv_icmp_gt (tgt := 166) hx hb dX11_airs_108 (by decide) (fun c108 => ?_) (fun c108 => ?_)
  · have h := h.1 c108
    exact b_X11_airs_166 hst C hr hlk hxt h (lv_sub hl [1, 4, 5, 6] rfl) hP
  · have h := h.2 c108
    refine lv_iload hx hb dX11_airs_111 (lv_at hl 3 rfl) ?_
    refine lv_aload hx hb dX11_airs_113 (lv_at hl 2 rfl) ?_
    obtain ⟨g1, h⟩ := h
    refine q_getIN C hP (k := 4) (lay_X7 C.hA) rfl (by decide) g1 (fn_X11_191 C.hA) dX11_airs_115 ?_
    refine lv_icmp_ne (tgt := 166) hx hb dX11_airs_118 (by decide) (fun c118 => ?_) (fun c118 => ?_)
    · have h := h.2 c118
      exact b_X11_airs_166 hst C hr hlk hxt h (lv_sub hl [1, 4, 5, 6] rfl) hP
    · have h := h.1 c118
      refine lv_aload_n hx hb dX11_airs_121 rfl (lv_at hl 0 rfl) ?_
      obtain ⟨g2, h⟩ := h
      obtain ⟨g3, h⟩ := h
      refine q_getR C hP (k := 7) (lay_X11 C.hA) rfl (by decide) g2 g3 (fl_X11_51 C.hA) dX11_airs_122 ?_
      refine lv_aload hx hb dX11_airs_125 (lv_at hl 2 rfl) ?_
      obtain ⟨g4, h⟩ := h
      refine q_getRN C hP (k := 6) (lay_X7 C.hA) rfl (by decide) g1 g4 (fn_X11_228 C.hA) dX11_airs_127 ?_
      refine lv_iload hx hb dX11_airs_130 (lv_at hl 7 rfl) ?_
      obtain ⟨g5, h⟩ := h
      refine q_cali (q_runVN C hP (c_X3_rowIs h) (cd_X3_rowIs C.hA) (ini_X3 C.hA) (mn_X11_231 C.hA) (im_X3_rowIs C.hA) (sl_X3_rowIs C.hA) g5 (by decide) rfl hd_X3_rowIs ⟨rfl, rfl⟩ ⟨Nat.le_of_ble_eq_true rfl, Nat.le_of_ble_eq_true rfl⟩ ⟨Nat.le_of_ble_eq_true rfl, Nat.le_of_ble_eq_true rfl⟩ hl.1 rfl (Nat.le_of_ble_eq_true rfl) dX11_airs_132) hP (fun v_132 u_132 H locs h hP => ?_)
      refine lv_if_eq (tgt := 160) hx hb dX11_airs_135 (by decide) (fun c135 => ?_) (fun c135 => ?_)
      · have h := h.1 c135
        exact b_X11_airs_160 hst C hr hlk hxt hk_103 h (lv_sub hl [0, 1, 2, 3, 4, 5, 6, 7] rfl) hP
      · have h := h.2 c135
        obtain ⟨x7_138, ex7_138⟩ : ∃ y : Int32, y = x7 + (1 : Int32) := ⟨_, rfl⟩
        have h := h x7_138 ex7_138
        refine lv_iinc (v := x7_138) (lv' := [(7, .int x7_138), (0, .ref x0), (3, .int x3), (5, .ref x5), (6, .int x6), (8, .int x8), (9, .int x9), (10, .int x10)]) hx hb dX11_airs_138 hl (k := 4) rfl (by rw [ex7_138]; rfl) (by decide) rfl (fun ls hl => ?_)
        refine lv_iload hx hb dX11_airs_141 (lv_at hl 5 rfl) ?_
        refine lv_iconst (v := (-1 : Int32)) hx hb dX11_airs_143 (by decide) ?_
        refine lv_icmp_ne (tgt := 152) hx hb dX11_airs_144 (by decide) (fun c144 => ?_) (fun c144 => ?_)
        · have h := h.2 c144
          refine lv_iload hx hb dX11_airs_152 (lv_at hl 5 rfl) ?_
          exact b_X11_airs_154 hst C hr hlk hxt hk_103 h (lv_sub hl [1, 2, 3, 4, 0, 7] rfl) hP
        · have h := h.1 c144
          refine lv_iload hx hb dX11_airs_147 (lv_at hl 7 rfl) ?_
          refine lv_goto (tgt := 154) hx hb dX11_airs_149 (by decide) ?_
          exact b_X11_airs_154 hst C hr hlk hxt hk_103 h (lv_sub hl [1, 2, 3, 4, 0, 7] rfl) hP
theorem l_X11_airs_103 {G : Gx} {Q : Int32 → Mm → Prop} {X : String → Mm → Prop} {p : Program} {l : Launch} {e : Env} {s : State} {m : MethodId} {args : Array Value} {below : List Frame} {meth : Method} {c : Code} (hst : l.stackTraces = false) (C : Cx G p s m c cX11_airs RX11 11) (hr : meth.sig.returnType = (some .int)) (hlk : meth.locks = false) (hxt : ∀ x ∈ c.exceptionTable.toList, False) : ∀ (n : Nat) (x0 : Nat) (x3 : Int32) (x5 : Nat) (x6 : Int32) (x7 : Int32) (x8 : Int32) (x9 : Int32) (x10 : Int32) (u : Mm) (H : Heap) (locs : List Loc) (ls : Array Slot), V_X11_airs_103 G Q X n x0 x3 x5 x6 x7 x8 x9 x10 u → lv_has ls 11 [(0, .ref x0), (3, .int x3), (5, .ref x5), (6, .int x6), (7, .int x7), (8, .int x8), (9, .int x9), (10, .int x10)] → Hp G u s H locs → W p l e rm_X11_airs s m args below meth c H locs 3 18 (vx_MQ below (Ei G Q) (Xe G X) args s 4 24 (ag G)) (F0 m 103 ls []) := by
  intro n
  induction n with
  | zero => intro x0 x3 x5 x6 x7 x8 x9 x10 u H locs ls h; exact h.elim
  | succ n ih => intro x0 x3 x5 x6 x7 x8 x9 x10 u H locs ls h hl hP; exact b_X11_airs_103 hst C hr hlk hxt ih h hl hP
set_option maxHeartbeats 4000000 in
set_option maxRecDepth 100000 in
theorem b_X11_airs_23 {G : Gx} {Q : Int32 → Mm → Prop} {X : String → Mm → Prop} {p : Program} {l : Launch} {e : Env} {s : State} {m : MethodId} {args : Array Value} {below : List Frame} {meth : Method} {c : Code} (hst : l.stackTraces = false) (C : Cx G p s m c cX11_airs RX11 11) (hr : meth.sig.returnType = (some .int)) (hlk : meth.locks = false) (hxt : ∀ x ∈ c.exceptionTable.toList, False) {u : Mm} {H : Heap} {locs : List Loc} {ls : Array Slot} (h : V_X11_airs_23 G Q X  u) (hl : lv_has ls 11 []) (hP : Hp G u s H locs) : W p l e rm_X11_airs s m args below meth c H locs 3 18 (vx_MQ below (Ei G Q) (Xe G X) args s 4 24 (ag G)) (F0 m 23 ls []) := by
  have hx := C.1
  have hb := C.2.1
  unfold V_X11_airs_23 at h
  exact q_thrN C hst hxt hlk hP 21 (by decide) rfl rfl (by decide) (cl_X11_115 C.hA) (ini_java_util_NoSuchElementException C.hA) (thN C.hA) thN_g hl.1 h dX11_airs_23 dX11_airs_26 dX11_airs_27 dX11_airs_29 dX11_airs_32 ⟨Nat.le_of_ble_eq_true rfl, Nat.le_of_ble_eq_true rfl, Nat.le_of_ble_eq_true rfl, Nat.le_of_ble_eq_true rfl⟩ (Nat.le_of_ble_eq_true rfl) (Nat.le_of_ble_eq_true rfl)
set_option maxHeartbeats 4000000 in
set_option maxRecDepth 100000 in
theorem c_X11_airs {l : Launch} (hst : l.stackTraces = false) {G : Gx} {p0 : Nat} {p1 : Int32} {p2 : Int32} {p3 : Int32} {u : Mm} {Q : Int32 → Mm → Prop} {X : String → Mm → Prop} (h : V_X11_airs G p0 p1 p2 p3 u Q X) : vx_Met l yX11_airs [.code yX11_airs cX11_airs 11 (some .int)] rm_X11_airs (va_Pc [.ref p0, .int p1, .int p2, .int p3] (Wd G u)) (Ei G Q) (Xe G X) 4 24 (ag G) := by
  refine q_metX (by decide) (Nat.le_of_ble_eq_true rfl) ?_
  intro p e s m below meth c ls C hr hlk hnm hxt hl hP
  have hl : lv_has ls 11 [(0, .ref p0), (1, .int p1), (2, .int p2), (3, .int p3)] := hl
  generalize ([.ref p0, .int p1, .int p2, .int p3] : List Value).toArray = args
  have hx := C.1
  have hb := C.2.1
  unfold V_X11_airs at h
  refine lv_aload_n hx hb dX11_airs_0 rfl (lv_at hl 0 rfl) ?_
  refine lv_iload_n hx hb dX11_airs_1 rfl (lv_at hl 1 rfl) ?_
  obtain ⟨g1, h⟩ := h
  refine q_calrX hxt hlk (q_runVX C hP (c_X11_needLand hst h) (cd_X11_needLand C.hA) (ini_X11 C.hA) (ml_X11_84 C.hA) (im_X11_needLand C.hA) (sl_X11_needLand C.hA) g1 (by decide) rfl hd_X11_needLand ⟨rfl, rfl⟩ ⟨Nat.le_of_ble_eq_true rfl, Nat.le_of_ble_eq_true rfl⟩ ⟨Nat.le_of_ble_eq_true rfl, Nat.le_of_ble_eq_true rfl⟩ hl.1 rfl (Nat.le_of_ble_eq_true rfl) dX11_airs_2) hP (Nat.le_of_ble_eq_true rfl) (Nat.le_of_ble_eq_true rfl) (fun v_2 u_2 H locs h hP => ?_)
  refine lv_astore (lv' := [(4, .ref v_2), (0, .ref p0), (1, .int p1), (2, .int p2), (3, .int p3)]) hx hb dX11_airs_5 hl (by decide) rfl (fun ls hl => ?_)
  refine lv_aload_n hx hb dX11_airs_7 rfl (lv_at hl 1 rfl) ?_
  refine lv_iload_n hx hb dX11_airs_8 rfl (lv_at hl 3 rfl) ?_
  refine q_calrX hxt hlk (q_runVX C hP (c_X11_needNamed hst h) (cd_X11_needNamed C.hA) (ini_X11 C.hA) (ml_X11_223 C.hA) (im_X11_needNamed C.hA) (sl_X11_needNamed C.hA) g1 (by decide) rfl hd_X11_needNamed ⟨rfl, rfl⟩ ⟨Nat.le_of_ble_eq_true rfl, Nat.le_of_ble_eq_true rfl⟩ ⟨Nat.le_of_ble_eq_true rfl, Nat.le_of_ble_eq_true rfl⟩ hl.1 rfl (Nat.le_of_ble_eq_true rfl) dX11_airs_9) hP (Nat.le_of_ble_eq_true rfl) (Nat.le_of_ble_eq_true rfl) (fun v_9 u_9 H locs h hP => ?_)
  refine lv_astore (lv' := [(5, .ref v_9), (4, .ref v_2), (0, .ref p0), (1, .int p1), (2, .int p2), (3, .int p3)]) hx hb dX11_airs_12 hl (by decide) rfl (fun ls hl => ?_)
  refine lv_iload_n hx hb dX11_airs_14 rfl (lv_at hl 5 rfl) ?_
  refine lv_if_lt (tgt := 23) hx hb dX11_airs_15 (by decide) (fun c15 => ?_) (fun c15 => ?_)
  · have h := h.1 c15
    exact b_X11_airs_23 hst C hr hlk hxt h (lv_sub hl [] rfl) hP
  · have h := h.2 c15
    refine lv_iload_n hx hb dX11_airs_18 rfl (lv_at hl 5 rfl) ?_
    refine lv_iconst (v := (2 : Int32)) hx hb dX11_airs_19 (by decide) ?_
    refine lv_icmp_le (tgt := 33) hx hb dX11_airs_20 (by decide) (fun c20 => ?_) (fun c20 => ?_)
    · have h := h.1 c20
      refine lv_aload_n hx hb dX11_airs_33 rfl (lv_at hl 2 rfl) ?_
      obtain ⟨g2, h⟩ := h
      refine q_getR C hP (k := 5) (lay_X11 C.hA) rfl (by decide) g1 g2 (fl_X11_40 C.hA) dX11_airs_34 ?_
      refine lv_aload hx hb dX11_airs_37 (lv_at hl 1 rfl) ?_
      refine lv_aload hx hb dX11_airs_39 (lv_at hl 0 rfl) ?_
      obtain ⟨g3, h⟩ := h
      refine q_getIN C hP (k := 0) (lay_X7 C.hA) rfl (by decide) g3 (fn_X11_197 C.hA) dX11_airs_41 ?_
      refine lv_aload hx hb dX11_airs_44 (lv_at hl 0 rfl) ?_
      refine q_getIN C hP (k := 1) (lay_X7 C.hA) rfl (by decide) g3 (fn_X11_200 C.hA) dX11_airs_46 ?_
      refine lv_aload hx hb dX11_airs_49 (lv_at hl 0 rfl) ?_
      refine q_getIN C hP (k := 2) (lay_X7 C.hA) rfl (by decide) g3 (fn_X11_203 C.hA) dX11_airs_51 ?_
      refine lv_aload hx hb dX11_airs_54 (lv_at hl 0 rfl) ?_
      refine q_getIN C hP (k := 3) (lay_X7 C.hA) rfl (by decide) g3 (fn_X11_206 C.hA) dX11_airs_56 ?_
      obtain ⟨g4, h⟩ := h
      refine q_calv (q_runVN C hP (c_X6_look h) (cd_X6_look C.hA) (ini_X6 C.hA) (mn_X11_141 C.hA) (im_X6_look C.hA) (sl_X6_look C.hA) g4 (by decide) rfl hd_X6_look ⟨rfl, rfl⟩ ⟨Nat.le_of_ble_eq_true rfl, Nat.le_of_ble_eq_true rfl⟩ ⟨Nat.le_of_ble_eq_true rfl, Nat.le_of_ble_eq_true rfl⟩ hl.1 rfl (Nat.le_of_ble_eq_true rfl) dX11_airs_59) hP (fun u_59 H locs h hP => ?_)
      refine lv_aload_n hx hb dX11_airs_62 rfl (lv_at hl 2 rfl) ?_
      obtain ⟨g5, h⟩ := h
      refine q_getR C hP (k := 7) (lay_X11 C.hA) rfl (by decide) g1 g5 (fl_X11_51 C.hA) dX11_airs_63 ?_
      refine lv_aload_n hx hb dX11_airs_66 rfl (lv_at hl 2 rfl) ?_
      obtain ⟨g6, h⟩ := h
      refine q_getR C hP (k := 5) (lay_X11 C.hA) rfl (by decide) g1 g6 (fl_X11_40 C.hA) dX11_airs_67 ?_
      refine lv_aload hx hb dX11_airs_70 (lv_at hl 1 rfl) ?_
      refine lv_iconst (v := (0 : Int32)) hx hb dX11_airs_72 (by decide) ?_
      obtain ⟨g7, h⟩ := h
      refine q_calv (q_runVN C hP (c_X3_gather h) (cd_X3_gather C.hA) (ini_X3 C.hA) (mn_X11_145 C.hA) (im_X3_gather C.hA) (sl_X3_gather C.hA) g7 (by decide) rfl hd_X3_gather ⟨rfl, rfl⟩ ⟨Nat.le_of_ble_eq_true rfl, Nat.le_of_ble_eq_true rfl⟩ ⟨Nat.le_of_ble_eq_true rfl, Nat.le_of_ble_eq_true rfl⟩ hl.1 rfl (Nat.le_of_ble_eq_true rfl) dX11_airs_73) hP (fun u_73 H locs h hP => ?_)
      refine lv_aload_n hx hb dX11_airs_76 rfl (lv_at hl 2 rfl) ?_
      obtain ⟨g8, h⟩ := h
      refine q_getR C hP (k := 7) (lay_X11 C.hA) rfl (by decide) g1 g8 (fl_X11_51 C.hA) dX11_airs_77 ?_
      refine lv_aload hx hb dX11_airs_80 (lv_at hl 1 rfl) ?_
      obtain ⟨g9, h⟩ := h
      refine q_getIN C hP (k := 6) (lay_X4 C.hA) rfl (by decide) g9 (fn_X11_129 C.hA) dX11_airs_82 ?_
      obtain ⟨g10, h⟩ := h
      refine q_cali (q_runVN C hP (c_X3_orderHeard h) (cd_X3_orderHeard C.hA) (ini_X3 C.hA) (mn_X11_149 C.hA) (im_X3_orderHeard C.hA) (sl_X3_orderHeard C.hA) g10 (by decide) rfl hd_X3_orderHeard ⟨rfl, rfl⟩ ⟨Nat.le_of_ble_eq_true rfl, Nat.le_of_ble_eq_true rfl⟩ ⟨Nat.le_of_ble_eq_true rfl, Nat.le_of_ble_eq_true rfl⟩ hl.1 rfl (Nat.le_of_ble_eq_true rfl) dX11_airs_85) hP (fun v_85 u_85 H locs h hP => ?_)
      refine lv_istore (lv' := [(6, .int v_85), (5, .ref v_9), (4, .ref v_2), (0, .ref p0), (1, .int p1), (2, .int p2), (3, .int p3)]) hx hb dX11_airs_88 hl (by decide) rfl (fun ls hl => ?_)
      refine lv_iconst (v := (0 : Int32)) hx hb dX11_airs_90 (by decide) ?_
      refine lv_istore (lv' := [(7, .int (0 : Int32)), (6, .int v_85), (5, .ref v_9), (4, .ref v_2), (0, .ref p0), (1, .int p1), (2, .int p2), (3, .int p3)]) hx hb dX11_airs_91 hl (by decide) rfl (fun ls hl => ?_)
      refine lv_iconst (v := (-1 : Int32)) hx hb dX11_airs_93 (by decide) ?_
      refine lv_istore (lv' := [(8, .int (-1 : Int32)), (7, .int (0 : Int32)), (6, .int v_85), (5, .ref v_9), (4, .ref v_2), (0, .ref p0), (1, .int p1), (2, .int p2), (3, .int p3)]) hx hb dX11_airs_94 hl (by decide) rfl (fun ls hl => ?_)
      refine lv_iconst (v := (-1 : Int32)) hx hb dX11_airs_96 (by decide) ?_
      refine lv_istore (lv' := [(9, .int (-1 : Int32)), (8, .int (-1 : Int32)), (7, .int (0 : Int32)), (6, .int v_85), (5, .ref v_9), (4, .ref v_2), (0, .ref p0), (1, .int p1), (2, .int p2), (3, .int p3)]) hx hb dX11_airs_97 hl (by decide) rfl (fun ls hl => ?_)
      refine lv_bipush (v := (50 : Int32)) hx hb dX11_airs_99 (by decide) ?_
      refine lv_istore (lv' := [(10, .int (50 : Int32)), (9, .int (-1 : Int32)), (8, .int (-1 : Int32)), (7, .int (0 : Int32)), (6, .int v_85), (5, .ref v_9), (4, .ref v_2), (0, .ref p0), (1, .int p1), (2, .int p2), (3, .int p3)]) hx hb dX11_airs_101 hl (by decide) rfl (fun ls hl => ?_)
      obtain ⟨n, h⟩ := h
      exact l_X11_airs_103 hst C hr hlk hxt n p0 p3 v_9 v_85 (0 : Int32) (-1 : Int32) (-1 : Int32) (50 : Int32) u_85 _ _ _ h (lv_sub hl [7, 10, 5, 4, 3, 2, 1, 0] rfl) hP
    · have h := h.2 c20
      exact b_X11_airs_23 hst C hr hlk hxt h (lv_sub hl [] rfl) hP
-- X11_whose
abbrev rm_X11_whose : Room := { frames := 8, cells := 5, slots := 30, locals := 125 }
theorem hd_X11_whose : yX11_whose.cls ≠ "java/lang/invoke/MethodHandle" ∧ yX11_whose.cls ≠ "java/lang/invoke/VarHandle" ∧ (parseMethodDescriptor yX11_whose.desc).map (fun d => d.parameters.length) = some 4 := by decide +kernel
def V_X11_whose_43 (G : Gx) (Q : Int32 → Mm → Prop) (X : String → Mm → Prop) (x0 : Nat) (x4 : Int32) (x5 : Nat) (x6 : Nat) (x7 : Int32) (u : Mm) : Prop :=
  kd G x0 = 11 ∧ (gR u x0 5) ≠ 0 ∧ kd G x6 = 7 ∧ kd G (gR u x0 5) = 6 ∧ V_X6_look G (gR u x0 5) x5 (gI u x6 0) (gI u x6 1) (gI u x6 2) (gI u x6 3) u (fun (u_69 : Mm) => (gR u_69 x0 7) ≠ 0 ∧ (gR u_69 x0 5) ≠ 0 ∧ kd G (gR u_69 x0 7) = 3 ∧ V_X3_gather G (gR u_69 x0 7) (gR u_69 x0 5) x5 (0 : Int32) u_69 (fun (u_83 : Mm) => ((x4 = 0 → (gR u_83 x0 7) ≠ 0 ∧ kd G (gR u_83 x0 7) = 3 ∧ V_X3_howManyAt G (gR u_83 x0 7) x7 x5 u_83 (fun (v_99 : Int32) (u_99 : Mm) => Q v_99 u_99)) ∧ (¬ x4 = 0 → (gR u_83 x0 7) ≠ 0 ∧ kd G (gR u_83 x0 7) = 3 ∧ V_X3_leastAt G (gR u_83 x0 7) x7 x5 u_83 (fun (v_113 : Int32) (u_113 : Mm) => Q v_113 u_113)))))
def V_X11_whose (G : Gx) (p0 : Nat) (p1 : Int32) (p2 : Int32) (p3 : Int32) (p4 : Int32) (u : Mm) (Q : Int32 → Mm → Prop) (X : String → Mm → Prop) : Prop :=
  kd G p0 = 11 ∧ V_X11_needLand G p0 p1 u (fun (v_2 : Nat) (u_2 : Mm) => V_X11_needNamed G p0 p2 u_2 (fun (v_9 : Nat) (u_9 : Mm) => V_X11_writtenTick G v_9 p3 u_9 (fun (v_17 : Int32) (u_17 : Mm) => ((p4 = 0 → V_X11_whose_43 G Q X p0 p4 v_2 v_9 v_17 u_17) ∧ (¬ p4 = 0 → ((p4 = (1 : Int32) → V_X11_whose_43 G Q X p0 p4 v_2 v_9 v_17 u_17) ∧ (¬ p4 = (1 : Int32) → X "java/util/NoSuchElementException" u_17))))) X) X) X
set_option maxHeartbeats 4000000 in
set_option maxRecDepth 100000 in
theorem b_X11_whose_43 {G : Gx} {Q : Int32 → Mm → Prop} {X : String → Mm → Prop} {p : Program} {l : Launch} {e : Env} {s : State} {m : MethodId} {args : Array Value} {below : List Frame} {meth : Method} {c : Code} (hst : l.stackTraces = false) (C : Cx G p s m c cX11_whose RX11 8) (hr : meth.sig.returnType = (some .int)) (hlk : meth.locks = false) (hxt : ∀ x ∈ c.exceptionTable.toList, False) {x0 : Nat} {x4 : Int32} {x5 : Nat} {x6 : Nat} {x7 : Int32} {u : Mm} {H : Heap} {locs : List Loc} {ls : Array Slot} (h : V_X11_whose_43 G Q X x0 x4 x5 x6 x7 u) (hl : lv_has ls 8 [(0, .ref x0), (4, .int x4), (5, .ref x5), (6, .ref x6), (7, .int x7)]) (hP : Hp G u s H locs) : W p l e rm_X11_whose s m args below meth c H locs 4 24 (vx_MQ below (Ei G Q) (Xe G X) args s 5 30 (ag G)) (F0 m 43 ls []) := by
  have hx := C.1
  have hb := C.2.1
  unfold V_X11_whose_43 at h
  refine lv_aload_n hx hb dX11_whose_43 rfl (lv_at hl 0 rfl) ?_
  obtain ⟨g1, h⟩ := h
  obtain ⟨g2, h⟩ := h
  refine q_getR C hP (k := 5) (lay_X11 C.hA) rfl (by decide) g1 g2 (fl_X11_40 C.hA) dX11_whose_44 ?_
  refine lv_aload hx hb dX11_whose_47 (lv_at hl 2 rfl) ?_
  refine lv_aload hx hb dX11_whose_49 (lv_at hl 3 rfl) ?_
  obtain ⟨g3, h⟩ := h
  refine q_getIN C hP (k := 0) (lay_X7 C.hA) rfl (by decide) g3 (fn_X11_197 C.hA) dX11_whose_51 ?_
  refine lv_aload hx hb dX11_whose_54 (lv_at hl 3 rfl) ?_
  refine q_getIN C hP (k := 1) (lay_X7 C.hA) rfl (by decide) g3 (fn_X11_200 C.hA) dX11_whose_56 ?_
  refine lv_aload hx hb dX11_whose_59 (lv_at hl 3 rfl) ?_
  refine q_getIN C hP (k := 2) (lay_X7 C.hA) rfl (by decide) g3 (fn_X11_203 C.hA) dX11_whose_61 ?_
  refine lv_aload hx hb dX11_whose_64 (lv_at hl 3 rfl) ?_
  refine q_getIN C hP (k := 3) (lay_X7 C.hA) rfl (by decide) g3 (fn_X11_206 C.hA) dX11_whose_66 ?_
  obtain ⟨g4, h⟩ := h
  refine q_calv (q_runVN C hP (c_X6_look h) (cd_X6_look C.hA) (ini_X6 C.hA) (mn_X11_141 C.hA) (im_X6_look C.hA) (sl_X6_look C.hA) g4 (by decide) rfl hd_X6_look ⟨rfl, rfl⟩ ⟨Nat.le_of_ble_eq_true rfl, Nat.le_of_ble_eq_true rfl⟩ ⟨Nat.le_of_ble_eq_true rfl, Nat.le_of_ble_eq_true rfl⟩ hl.1 rfl (Nat.le_of_ble_eq_true rfl) dX11_whose_69) hP (fun u_69 H locs h hP => ?_)
  refine lv_aload_n hx hb dX11_whose_72 rfl (lv_at hl 0 rfl) ?_
  obtain ⟨g5, h⟩ := h
  refine q_getR C hP (k := 7) (lay_X11 C.hA) rfl (by decide) g1 g5 (fl_X11_51 C.hA) dX11_whose_73 ?_
  refine lv_aload_n hx hb dX11_whose_76 rfl (lv_at hl 0 rfl) ?_
  obtain ⟨g6, h⟩ := h
  refine q_getR C hP (k := 5) (lay_X11 C.hA) rfl (by decide) g1 g6 (fl_X11_40 C.hA) dX11_whose_77 ?_
  refine lv_aload hx hb dX11_whose_80 (lv_at hl 2 rfl) ?_
  refine lv_iconst (v := (0 : Int32)) hx hb dX11_whose_82 (by decide) ?_
  obtain ⟨g7, h⟩ := h
  refine q_calv (q_runVN C hP (c_X3_gather h) (cd_X3_gather C.hA) (ini_X3 C.hA) (mn_X11_145 C.hA) (im_X3_gather C.hA) (sl_X3_gather C.hA) g7 (by decide) rfl hd_X3_gather ⟨rfl, rfl⟩ ⟨Nat.le_of_ble_eq_true rfl, Nat.le_of_ble_eq_true rfl⟩ ⟨Nat.le_of_ble_eq_true rfl, Nat.le_of_ble_eq_true rfl⟩ hl.1 rfl (Nat.le_of_ble_eq_true rfl) dX11_whose_83) hP (fun u_83 H locs h hP => ?_)
  refine lv_iload hx hb dX11_whose_86 (lv_at hl 1 rfl) ?_
  refine lv_if_ne (tgt := 105) hx hb dX11_whose_88 (by decide) (fun c88 => ?_) (fun c88 => ?_)
  · have h := h.2 c88
    refine lv_aload_n hx hb dX11_whose_105 rfl (lv_at hl 0 rfl) ?_
    obtain ⟨g8, h⟩ := h
    refine q_getR C hP (k := 7) (lay_X11 C.hA) rfl (by decide) g1 g8 (fl_X11_51 C.hA) dX11_whose_106 ?_
    refine lv_iload hx hb dX11_whose_109 (lv_at hl 4 rfl) ?_
    refine lv_aload hx hb dX11_whose_111 (lv_at hl 2 rfl) ?_
    obtain ⟨g9, h⟩ := h
    refine q_cali (q_runVN C hP (c_X3_leastAt h) (cd_X3_leastAt C.hA) (ini_X3 C.hA) (mn_X11_241 C.hA) (im_X3_leastAt C.hA) (sl_X3_leastAt C.hA) g9 (by decide) rfl hd_X3_leastAt ⟨rfl, rfl⟩ ⟨Nat.le_of_ble_eq_true rfl, Nat.le_of_ble_eq_true rfl⟩ ⟨Nat.le_of_ble_eq_true rfl, Nat.le_of_ble_eq_true rfl⟩ hl.1 rfl (Nat.le_of_ble_eq_true rfl) dX11_whose_113) hP (fun v_113 u_113 H locs h hP => ?_)
    exact vx_ret (q_iret C hr hlk hP h (by decide) (by decide) dX11_whose_116)
  · have h := h.1 c88
    refine lv_aload_n hx hb dX11_whose_91 rfl (lv_at hl 0 rfl) ?_
    obtain ⟨g10, h⟩ := h
    refine q_getR C hP (k := 7) (lay_X11 C.hA) rfl (by decide) g1 g10 (fl_X11_51 C.hA) dX11_whose_92 ?_
    refine lv_iload hx hb dX11_whose_95 (lv_at hl 4 rfl) ?_
    refine lv_aload hx hb dX11_whose_97 (lv_at hl 2 rfl) ?_
    obtain ⟨g11, h⟩ := h
    refine q_cali (q_runVN C hP (c_X3_howManyAt h) (cd_X3_howManyAt C.hA) (ini_X3 C.hA) (mn_X11_237 C.hA) (im_X3_howManyAt C.hA) (sl_X3_howManyAt C.hA) g11 (by decide) rfl hd_X3_howManyAt ⟨rfl, rfl⟩ ⟨Nat.le_of_ble_eq_true rfl, Nat.le_of_ble_eq_true rfl⟩ ⟨Nat.le_of_ble_eq_true rfl, Nat.le_of_ble_eq_true rfl⟩ hl.1 rfl (Nat.le_of_ble_eq_true rfl) dX11_whose_99) hP (fun v_99 u_99 H locs h hP => ?_)
    refine lv_goto (tgt := 116) hx hb dX11_whose_102 (by decide) ?_
    exact vx_ret (q_iret C hr hlk hP h (by decide) (by decide) dX11_whose_116)
set_option maxHeartbeats 4000000 in
set_option maxRecDepth 100000 in
theorem c_X11_whose {l : Launch} (hst : l.stackTraces = false) {G : Gx} {p0 : Nat} {p1 : Int32} {p2 : Int32} {p3 : Int32} {p4 : Int32} {u : Mm} {Q : Int32 → Mm → Prop} {X : String → Mm → Prop} (h : V_X11_whose G p0 p1 p2 p3 p4 u Q X) : vx_Met l yX11_whose [.code yX11_whose cX11_whose 8 (some .int)] rm_X11_whose (va_Pc [.ref p0, .int p1, .int p2, .int p3, .int p4] (Wd G u)) (Ei G Q) (Xe G X) 5 30 (ag G) := by
  refine q_metX (by decide) (Nat.le_of_ble_eq_true rfl) ?_
  intro p e s m below meth c ls C hr hlk hnm hxt hl hP
  have hl : lv_has ls 8 [(0, .ref p0), (1, .int p1), (2, .int p2), (3, .int p3), (4, .int p4)] := hl
  generalize ([.ref p0, .int p1, .int p2, .int p3, .int p4] : List Value).toArray = args
  have hx := C.1
  have hb := C.2.1
  unfold V_X11_whose at h
  refine lv_aload_n hx hb dX11_whose_0 rfl (lv_at hl 0 rfl) ?_
  refine lv_iload_n hx hb dX11_whose_1 rfl (lv_at hl 1 rfl) ?_
  obtain ⟨g1, h⟩ := h
  refine q_calrX hxt hlk (q_runVX C hP (c_X11_needLand hst h) (cd_X11_needLand C.hA) (ini_X11 C.hA) (ml_X11_84 C.hA) (im_X11_needLand C.hA) (sl_X11_needLand C.hA) g1 (by decide) rfl hd_X11_needLand ⟨rfl, rfl⟩ ⟨Nat.le_of_ble_eq_true rfl, Nat.le_of_ble_eq_true rfl⟩ ⟨Nat.le_of_ble_eq_true rfl, Nat.le_of_ble_eq_true rfl⟩ hl.1 rfl (Nat.le_of_ble_eq_true rfl) dX11_whose_2) hP (Nat.le_of_ble_eq_true rfl) (Nat.le_of_ble_eq_true rfl) (fun v_2 u_2 H locs h hP => ?_)
  refine lv_astore (lv' := [(5, .ref v_2), (0, .ref p0), (1, .int p1), (2, .int p2), (3, .int p3), (4, .int p4)]) hx hb dX11_whose_5 hl (by decide) rfl (fun ls hl => ?_)
  refine lv_aload_n hx hb dX11_whose_7 rfl (lv_at hl 1 rfl) ?_
  refine lv_iload_n hx hb dX11_whose_8 rfl (lv_at hl 3 rfl) ?_
  refine q_calrX hxt hlk (q_runVX C hP (c_X11_needNamed hst h) (cd_X11_needNamed C.hA) (ini_X11 C.hA) (ml_X11_223 C.hA) (im_X11_needNamed C.hA) (sl_X11_needNamed C.hA) g1 (by decide) rfl hd_X11_needNamed ⟨rfl, rfl⟩ ⟨Nat.le_of_ble_eq_true rfl, Nat.le_of_ble_eq_true rfl⟩ ⟨Nat.le_of_ble_eq_true rfl, Nat.le_of_ble_eq_true rfl⟩ hl.1 rfl (Nat.le_of_ble_eq_true rfl) dX11_whose_9) hP (Nat.le_of_ble_eq_true rfl) (Nat.le_of_ble_eq_true rfl) (fun v_9 u_9 H locs h hP => ?_)
  refine lv_astore (lv' := [(6, .ref v_9), (5, .ref v_2), (0, .ref p0), (1, .int p1), (2, .int p2), (3, .int p3), (4, .int p4)]) hx hb dX11_whose_12 hl (by decide) rfl (fun ls hl => ?_)
  refine lv_aload hx hb dX11_whose_14 (lv_at hl 0 rfl) ?_
  refine lv_iload_n hx hb dX11_whose_16 rfl (lv_at hl 5 rfl) ?_
  refine q_caliX hxt hlk (q_runSX C hP (c_X11_writtenTick hst h) (cd_X11_writtenTick C.hA) (ini_X11 C.hA) (ml_X11_209 C.hA) (st_X11_writtenTick C.hA) hd_X11_writtenTick ⟨rfl, rfl⟩ ⟨Nat.le_of_ble_eq_true rfl, Nat.le_of_ble_eq_true rfl⟩ ⟨Nat.le_of_ble_eq_true rfl, Nat.le_of_ble_eq_true rfl⟩ hl.1 rfl (Nat.le_of_ble_eq_true rfl) dX11_whose_17) hP (Nat.le_of_ble_eq_true rfl) (Nat.le_of_ble_eq_true rfl) (fun v_17 u_17 H locs h hP => ?_)
  refine lv_istore (lv' := [(7, .int v_17), (6, .ref v_9), (5, .ref v_2), (0, .ref p0), (1, .int p1), (2, .int p2), (3, .int p3), (4, .int p4)]) hx hb dX11_whose_20 hl (by decide) rfl (fun ls hl => ?_)
  refine lv_iload hx hb dX11_whose_22 (lv_at hl 7 rfl) ?_
  refine lv_if_eq (tgt := 43) hx hb dX11_whose_24 (by decide) (fun c24 => ?_) (fun c24 => ?_)
  · have h := h.1 c24
    exact b_X11_whose_43 hst C hr hlk hxt h (lv_sub hl [3, 7, 2, 1, 0] rfl) hP
  · have h := h.2 c24
    refine lv_iload hx hb dX11_whose_27 (lv_at hl 7 rfl) ?_
    refine lv_iconst (v := (1 : Int32)) hx hb dX11_whose_29 (by decide) ?_
    refine lv_icmp_eq (tgt := 43) hx hb dX11_whose_30 (by decide) (fun c30 => ?_) (fun c30 => ?_)
    · have h := h.1 c30
      exact b_X11_whose_43 hst C hr hlk hxt h (lv_sub hl [3, 7, 2, 1, 0] rfl) hP
    · have h := h.2 c30
      exact q_thrN C hst hxt hlk hP 22 (by decide) rfl rfl (by decide) (cl_X11_115 C.hA) (ini_java_util_NoSuchElementException C.hA) (thN C.hA) thN_g hl.1 h dX11_whose_33 dX11_whose_36 dX11_whose_37 dX11_whose_39 dX11_whose_42 ⟨Nat.le_of_ble_eq_true rfl, Nat.le_of_ble_eq_true rfl, Nat.le_of_ble_eq_true rfl, Nat.le_of_ble_eq_true rfl⟩ (Nat.le_of_ble_eq_true rfl) (Nat.le_of_ble_eq_true rfl)
-- X11_firstMisfit
abbrev rm_X11_firstMisfit : Room := { frames := 5, cells := 0, slots := 0, locals := 124 }
theorem hd_X11_firstMisfit : yX11_firstMisfit.cls ≠ "java/lang/invoke/MethodHandle" ∧ yX11_firstMisfit.cls ≠ "java/lang/invoke/VarHandle" ∧ (parseMethodDescriptor yX11_firstMisfit.desc).map (fun d => d.parameters.length) = some 4 := by decide +kernel
def V_X11_firstMisfit_33 (G : Gx) (Q : Int32 → Mm → Prop) (k_3 : Nat → Nat → Int32 → Int32 → Int32 → Int32 → Mm → Prop) (x0 : Nat) (x1 : Nat) (x2 : Int32) (x3 : Int32) (x4 : Int32) (x5 : Int32) (t0 : Int32) (u : Mm) : Prop :=
  kd G x0 = 11 ∧ (gR u x0 7) ≠ 0 ∧ (gR u x0 6) ≠ 0 ∧ kd G (gR u x0 6) = 20 ∧ vp_in t0 (ln G (gR u x0 6)) ∧ (gR u (gR u x0 6) t0.toNatClampNeg) ≠ 0 ∧ kd G (gR u x0 7) = 3 ∧ V_X3_gather G (gR u x0 7) (gR u (gR u x0 6) t0.toNatClampNeg) x1 x2 u (fun (u_48 : Mm) => (gR u_48 x0 7) ≠ 0 ∧ (gR u_48 x0 2) ≠ 0 ∧ kd G (gR u_48 x0 2) = 1 ∧ (gR u_48 (gR u_48 x0 2) 6) ≠ 0 ∧ kd G (gR u_48 (gR u_48 x0 2) 6) = 21 ∧ vp_in t0 (ln G (gR u_48 (gR u_48 x0 2) 6)) ∧ (gR u_48 (gR u_48 (gR u_48 x0 2) 6) t0.toNatClampNeg) ≠ 0 ∧ kd G (gR u_48 x0 7) = 3 ∧ V_X3_fit G (gR u_48 x0 7) (gR u_48 (gR u_48 (gR u_48 x0 2) 6) t0.toNatClampNeg) x1 u_48 (fun (v_66 : Int32) (u_66 : Mm) => ((v_66 = 0 → Q t0 u_66) ∧ (¬ v_66 = 0 → ∀ x5_75 : Int32, x5_75 = x5 + (1 : Int32) → k_3 x0 x1 x2 x3 x4 x5_75 u_66))))
def V_X11_firstMisfit_3_B (G : Gx) (Q : Int32 → Mm → Prop) (k_3 : Nat → Nat → Int32 → Int32 → Int32 → Int32 → Mm → Prop) (x0 : Nat) (x1 : Nat) (x2 : Int32) (x3 : Int32) (x4 : Int32) (x5 : Int32) (u : Mm) : Prop :=
  ((x3 ≤ x5 → Q (-1 : Int32) u) ∧ (¬ x3 ≤ x5 → ((x3 ≤ (x4 + x5) → V_X11_firstMisfit_33 G Q k_3 x0 x1 x2 x3 x4 x5 ((x4 + x5) - x3) u) ∧ (¬ x3 ≤ (x4 + x5) → V_X11_firstMisfit_33 G Q k_3 x0 x1 x2 x3 x4 x5 (x4 + x5) u))))
def V_X11_firstMisfit_3 (G : Gx) (Q : Int32 → Mm → Prop) : Nat → (Nat → Nat → Int32 → Int32 → Int32 → Int32 → Mm → Prop)
  | 0 => fun _ _ _ _ _ _ _ => False
  | n + 1 => fun x0 x1 x2 x3 x4 x5 u => V_X11_firstMisfit_3_B G Q (V_X11_firstMisfit_3 G Q n) x0 x1 x2 x3 x4 x5 u
def V_X11_firstMisfit (G : Gx) (p0 : Nat) (p1 : Nat) (p2 : Int32) (p3 : Int32) (p4 : Int32) (u : Mm) (Q : Int32 → Mm → Prop) : Prop :=
  ∃ n : Nat, V_X11_firstMisfit_3 G Q n p0 p1 p2 p3 p4 (0 : Int32) u
set_option maxHeartbeats 4000000 in
set_option maxRecDepth 100000 in
theorem b_X11_firstMisfit_33 {G : Gx} {Q : Int32 → Mm → Prop} {p : Program} {l : Launch} {e : Env} {s : State} {m : MethodId} {args : Array Value} {below : List Frame} {meth : Method} {c : Code} (C : Cx G p s m c cX11_firstMisfit RX11 7) (hr : meth.sig.returnType = (some .int)) (hlk : meth.locks = false) {k_3 : Nat → Nat → Int32 → Int32 → Int32 → Int32 → Mm → Prop} (hk_3 : ∀ (x0 : Nat) (x1 : Nat) (x2 : Int32) (x3 : Int32) (x4 : Int32) (x5 : Int32) (u : Mm) (H : Heap) (locs : List Loc) (ls : Array Slot), k_3 x0 x1 x2 x3 x4 x5 u → lv_has ls 7 [(0, .ref x0), (1, .ref x1), (2, .int x2), (3, .int x3), (4, .int x4), (5, .int x5)] → Hp G u s H locs → W p l e rm_X11_firstMisfit s m args below meth c H locs 0 0 (MQ below (Ei G Q) args s 0 0 (ag G)) (F0 m 3 ls [])) {x0 : Nat} {x1 : Nat} {x2 : Int32} {x3 : Int32} {x4 : Int32} {x5 : Int32} {t0 : Int32} {u : Mm} {H : Heap} {locs : List Loc} {ls : Array Slot} (h : V_X11_firstMisfit_33 G Q k_3 x0 x1 x2 x3 x4 x5 t0 u) (hl : lv_has ls 7 [(0, .ref x0), (1, .ref x1), (2, .int x2), (3, .int x3), (4, .int x4), (5, .int x5)]) (hP : Hp G u s H locs) : W p l e rm_X11_firstMisfit s m args below meth c H locs 0 0 (MQ below (Ei G Q) args s 0 0 (ag G)) (F0 m 33 ls [.int t0]) := by
  have hx := C.1
  have hb := C.2.1
  unfold V_X11_firstMisfit_33 at h
  refine lv_istore (lv' := [(6, .int t0), (0, .ref x0), (1, .ref x1), (2, .int x2), (3, .int x3), (4, .int x4), (5, .int x5)]) hx hb dX11_firstMisfit_33 hl (by decide) rfl (fun ls hl => ?_)
  refine lv_aload_n hx hb dX11_firstMisfit_35 rfl (lv_at hl 1 rfl) ?_
  obtain ⟨g1, h⟩ := h
  obtain ⟨g2, h⟩ := h
  refine q_getR C hP (k := 7) (lay_X11 C.hA) rfl (by decide) g1 g2 (fl_X11_51 C.hA) dX11_firstMisfit_36 ?_
  refine lv_aload_n hx hb dX11_firstMisfit_39 rfl (lv_at hl 1 rfl) ?_
  obtain ⟨g3, h⟩ := h
  refine q_getR C hP (k := 6) (lay_X11 C.hA) rfl (by decide) g1 g3 (fl_X11_44 C.hA) dX11_firstMisfit_40 ?_
  refine lv_iload hx hb dX11_firstMisfit_43 (lv_at hl 0 rfl) ?_
  obtain ⟨g4, h⟩ := h
  obtain ⟨g5, h⟩ := h
  obtain ⟨g6, h⟩ := h
  refine q_aald C hP g4 (by decide) rfl g5 g6 dX11_firstMisfit_45 ?_
  refine lv_aload_n hx hb dX11_firstMisfit_46 rfl (lv_at hl 2 rfl) ?_
  refine lv_iload_n hx hb dX11_firstMisfit_47 rfl (lv_at hl 3 rfl) ?_
  obtain ⟨g7, h⟩ := h
  refine q_calv (q_runVN C hP (c_X3_gather h) (cd_X3_gather C.hA) (ini_X3 C.hA) (mn_X11_145 C.hA) (im_X3_gather C.hA) (sl_X3_gather C.hA) g7 (by decide) rfl hd_X3_gather ⟨rfl, rfl⟩ ⟨Nat.le_of_ble_eq_true rfl, Nat.le_of_ble_eq_true rfl⟩ ⟨Nat.le_of_ble_eq_true rfl, Nat.le_of_ble_eq_true rfl⟩ hl.1 rfl (Nat.le_of_ble_eq_true rfl) dX11_firstMisfit_48) hP (fun u_48 H locs h hP => ?_)
  refine lv_aload_n hx hb dX11_firstMisfit_51 rfl (lv_at hl 1 rfl) ?_
  obtain ⟨g8, h⟩ := h
  refine q_getR C hP (k := 7) (lay_X11 C.hA) rfl (by decide) g1 g8 (fl_X11_51 C.hA) dX11_firstMisfit_52 ?_
  refine lv_aload_n hx hb dX11_firstMisfit_55 rfl (lv_at hl 1 rfl) ?_
  obtain ⟨g9, h⟩ := h
  refine q_getR C hP (k := 2) (lay_X11 C.hA) rfl (by decide) g1 g9 (fl_X11_26 C.hA) dX11_firstMisfit_56 ?_
  obtain ⟨g10, h⟩ := h
  obtain ⟨g11, h⟩ := h
  refine q_getRN C hP (k := 6) (lay_X1 C.hA) rfl (by decide) g10 g11 (fn_X11_259 C.hA) dX11_firstMisfit_59 ?_
  refine lv_iload hx hb dX11_firstMisfit_62 (lv_at hl 0 rfl) ?_
  obtain ⟨g12, h⟩ := h
  obtain ⟨g13, h⟩ := h
  obtain ⟨g14, h⟩ := h
  refine q_aald C hP g12 (by decide) rfl g13 g14 dX11_firstMisfit_64 ?_
  refine lv_aload_n hx hb dX11_firstMisfit_65 rfl (lv_at hl 2 rfl) ?_
  obtain ⟨g15, h⟩ := h
  refine q_cali (q_runVN C hP (c_X3_fit h) (cd_X3_fit C.hA) (ini_X3 C.hA) (mn_X11_244 C.hA) (im_X3_fit C.hA) (sl_X3_fit C.hA) g15 (by decide) rfl hd_X3_fit ⟨rfl, rfl⟩ ⟨Nat.le_of_ble_eq_true rfl, Nat.le_of_ble_eq_true rfl⟩ ⟨Nat.le_of_ble_eq_true rfl, Nat.le_of_ble_eq_true rfl⟩ hl.1 rfl (Nat.le_of_ble_eq_true rfl) dX11_firstMisfit_66) hP (fun v_66 u_66 H locs h hP => ?_)
  refine lv_if_ne (tgt := 75) hx hb dX11_firstMisfit_69 (by decide) (fun c69 => ?_) (fun c69 => ?_)
  · have h := h.2 c69
    obtain ⟨x5_75, ex5_75⟩ : ∃ y : Int32, y = x5 + (1 : Int32) := ⟨_, rfl⟩
    have h := h x5_75 ex5_75
    refine lv_iinc (v := x5_75) (lv' := [(5, .int x5_75), (6, .int t0), (0, .ref x0), (1, .ref x1), (2, .int x2), (3, .int x3), (4, .int x4)]) hx hb dX11_firstMisfit_75 hl (k := 6) rfl (by rw [ex5_75]; rfl) (by decide) rfl (fun ls hl => ?_)
    refine lv_goto (tgt := 3) hx hb dX11_firstMisfit_78 (by decide) ?_
    exact hk_3 x0 x1 x2 x3 x4 x5_75 u_66 _ _ _ h (lv_sub hl [2, 3, 4, 5, 6, 0] rfl) hP
  · have h := h.1 c69
    refine lv_iload hx hb dX11_firstMisfit_72 (lv_at hl 0 rfl) ?_
    exact q_iret C hr hlk hP h (by decide) (by decide) dX11_firstMisfit_74
set_option maxHeartbeats 4000000 in
set_option maxRecDepth 100000 in
theorem b_X11_firstMisfit_3 {G : Gx} {Q : Int32 → Mm → Prop} {p : Program} {l : Launch} {e : Env} {s : State} {m : MethodId} {args : Array Value} {below : List Frame} {meth : Method} {c : Code} (C : Cx G p s m c cX11_firstMisfit RX11 7) (hr : meth.sig.returnType = (some .int)) (hlk : meth.locks = false) {k_3 : Nat → Nat → Int32 → Int32 → Int32 → Int32 → Mm → Prop} (hk_3 : ∀ (x0 : Nat) (x1 : Nat) (x2 : Int32) (x3 : Int32) (x4 : Int32) (x5 : Int32) (u : Mm) (H : Heap) (locs : List Loc) (ls : Array Slot), k_3 x0 x1 x2 x3 x4 x5 u → lv_has ls 7 [(0, .ref x0), (1, .ref x1), (2, .int x2), (3, .int x3), (4, .int x4), (5, .int x5)] → Hp G u s H locs → W p l e rm_X11_firstMisfit s m args below meth c H locs 0 0 (MQ below (Ei G Q) args s 0 0 (ag G)) (F0 m 3 ls [])) {x0 : Nat} {x1 : Nat} {x2 : Int32} {x3 : Int32} {x4 : Int32} {x5 : Int32} {u : Mm} {H : Heap} {locs : List Loc} {ls : Array Slot} (h : V_X11_firstMisfit_3_B G Q k_3 x0 x1 x2 x3 x4 x5 u) (hl : lv_has ls 7 [(0, .ref x0), (1, .ref x1), (2, .int x2), (3, .int x3), (4, .int x4), (5, .int x5)]) (hP : Hp G u s H locs) : W p l e rm_X11_firstMisfit s m args below meth c H locs 0 0 (MQ below (Ei G Q) args s 0 0 (ag G)) (F0 m 3 ls []) := by
  have hx := C.1
  have hb := C.2.1
  unfold V_X11_firstMisfit_3_B at h
  refine lv_iload hx hb dX11_firstMisfit_3 (lv_at hl 5 rfl) ?_
  refine lv_iload_n hx hb dX11_firstMisfit_5 rfl (lv_at hl 3 rfl) ?_
  refine lv_icmp_ge (tgt := 81) hx hb dX11_firstMisfit_6 (by decide) (fun c6 => ?_) (fun c6 => ?_)
  · have h := h.1 c6
    refine lv_iconst (v := (-1 : Int32)) hx hb dX11_firstMisfit_81 (by decide) ?_
    exact q_iret C hr hlk hP h (by decide) (by decide) dX11_firstMisfit_82
  · have h := h.2 c6
    refine lv_iload hx hb dX11_firstMisfit_9 (lv_at hl 4 rfl) ?_
    refine lv_iload hx hb dX11_firstMisfit_11 (lv_at hl 5 rfl) ?_
    refine lv_iadd hx hb dX11_firstMisfit_13 ?_
    refine lv_iload_n hx hb dX11_firstMisfit_14 rfl (lv_at hl 3 rfl) ?_
    refine lv_icmp_ge (tgt := 26) hx hb dX11_firstMisfit_15 (by decide) (fun c15 => ?_) (fun c15 => ?_)
    · have h := h.1 c15
      refine lv_iload hx hb dX11_firstMisfit_26 (lv_at hl 4 rfl) ?_
      refine lv_iload hx hb dX11_firstMisfit_28 (lv_at hl 5 rfl) ?_
      refine lv_iadd hx hb dX11_firstMisfit_30 ?_
      refine lv_iload_n hx hb dX11_firstMisfit_31 rfl (lv_at hl 3 rfl) ?_
      refine lv_isub hx hb dX11_firstMisfit_32 ?_
      exact b_X11_firstMisfit_33 C hr hlk hk_3 h (lv_sub hl [0, 1, 2, 3, 4, 5] rfl) hP
    · have h := h.2 c15
      refine lv_iload hx hb dX11_firstMisfit_18 (lv_at hl 4 rfl) ?_
      refine lv_iload hx hb dX11_firstMisfit_20 (lv_at hl 5 rfl) ?_
      refine lv_iadd hx hb dX11_firstMisfit_22 ?_
      refine lv_goto (tgt := 33) hx hb dX11_firstMisfit_23 (by decide) ?_
      exact b_X11_firstMisfit_33 C hr hlk hk_3 h (lv_sub hl [0, 1, 2, 3, 4, 5] rfl) hP
theorem l_X11_firstMisfit_3 {G : Gx} {Q : Int32 → Mm → Prop} {p : Program} {l : Launch} {e : Env} {s : State} {m : MethodId} {args : Array Value} {below : List Frame} {meth : Method} {c : Code} (C : Cx G p s m c cX11_firstMisfit RX11 7) (hr : meth.sig.returnType = (some .int)) (hlk : meth.locks = false) : ∀ (n : Nat) (x0 : Nat) (x1 : Nat) (x2 : Int32) (x3 : Int32) (x4 : Int32) (x5 : Int32) (u : Mm) (H : Heap) (locs : List Loc) (ls : Array Slot), V_X11_firstMisfit_3 G Q n x0 x1 x2 x3 x4 x5 u → lv_has ls 7 [(0, .ref x0), (1, .ref x1), (2, .int x2), (3, .int x3), (4, .int x4), (5, .int x5)] → Hp G u s H locs → W p l e rm_X11_firstMisfit s m args below meth c H locs 0 0 (MQ below (Ei G Q) args s 0 0 (ag G)) (F0 m 3 ls []) := by
  intro n
  induction n with
  | zero => intro x0 x1 x2 x3 x4 x5 u H locs ls h; exact h.elim
  | succ n ih => intro x0 x1 x2 x3 x4 x5 u H locs ls h hl hP; exact b_X11_firstMisfit_3 C hr hlk ih h hl hP
set_option maxHeartbeats 4000000 in
set_option maxRecDepth 100000 in
theorem c_X11_firstMisfit {l : Launch} {G : Gx} {p0 : Nat} {p1 : Nat} {p2 : Int32} {p3 : Int32} {p4 : Int32} {u : Mm} {Q : Int32 → Mm → Prop} (h : V_X11_firstMisfit G p0 p1 p2 p3 p4 u Q) : Met l yX11_firstMisfit [.code yX11_firstMisfit cX11_firstMisfit 7 (some .int)] rm_X11_firstMisfit (va_Pc [.ref p0, .ref p1, .int p2, .int p3, .int p4] (Wd G u)) (Ei G Q) 0 0 (ag G) := by
  refine q_met (by decide) (Nat.le_of_ble_eq_true rfl) ?_
  intro p e s m below meth c ls C hr hlk hnm hl hP
  have hl : lv_has ls 7 [(0, .ref p0), (1, .ref p1), (2, .int p2), (3, .int p3), (4, .int p4)] := hl
  generalize ([.ref p0, .ref p1, .int p2, .int p3, .int p4] : List Value).toArray = args
  have hx := C.1
  have hb := C.2.1
  unfold V_X11_firstMisfit at h
  refine lv_iconst (v := (0 : Int32)) hx hb dX11_firstMisfit_0 (by decide) ?_
  refine lv_istore (lv' := [(5, .int (0 : Int32)), (0, .ref p0), (1, .ref p1), (2, .int p2), (3, .int p3), (4, .int p4)]) hx hb dX11_firstMisfit_1 hl (by decide) rfl (fun ls hl => ?_)
  obtain ⟨n, h⟩ := h
  exact l_X11_firstMisfit_3 C hr hlk n p0 p1 p2 p3 p4 (0 : Int32) u _ _ _ h (lv_sub hl [1, 2, 3, 4, 5, 0] rfl) hP
-- X11_gone
abbrev rm_X11_gone : Room := { frames := 7, cells := 2, slots := 12, locals := 150 }
theorem hd_X11_gone : yX11_gone.cls ≠ "java/lang/invoke/MethodHandle" ∧ yX11_gone.cls ≠ "java/lang/invoke/VarHandle" ∧ (parseMethodDescriptor yX11_gone.desc).map (fun d => d.parameters.length) = some 2 := by decide +kernel
def V_X11_gone_154 (G : Gx) (Q : Int32 → Mm → Prop) (X : String → Mm → Prop) (k_92 : Nat → Nat → Int32 → Int32 → Int32 → Int32 → Mm → Prop) (k_102 : Nat → Nat → Int32 → Int32 → Int32 → Int32 → Int32 → Mm → Prop) (x0 : Nat) (x3 : Nat) (x4 : Int32) (x5 : Int32) (x6 : Int32) (x7 : Int32) (x8 : Int32) (u : Mm) : Prop :=
  ∀ x8_154 : Int32, x8_154 = x8 + (1 : Int32) → k_102 x0 x3 x4 x5 x6 x7 x8_154 u
def V_X11_gone_102_B (G : Gx) (Q : Int32 → Mm → Prop) (X : String → Mm → Prop) (k_92 : Nat → Nat → Int32 → Int32 → Int32 → Int32 → Mm → Prop) (k_102 : Nat → Nat → Int32 → Int32 → Int32 → Int32 → Int32 → Mm → Prop) (x0 : Nat) (x3 : Nat) (x4 : Int32) (x5 : Int32) (x6 : Int32) (x7 : Int32) (x8 : Int32) (u : Mm) : Prop :=
  (((shl (1 : Int32) x5) ≤ x8 → ∀ x7_160 : Int32, x7_160 = x7 + (1 : Int32) → k_92 x0 x3 x4 x5 x6 x7_160 u) ∧ (¬ (shl (1 : Int32) x5) ≤ x8 → V_J6_bitCount_0f7a4 G x8 u (fun (v_113 : Int32) (u_113 : Mm) => ((v_113 = x7 → kd G x3 = 4 ∧ V_X11_thingBits G x8 (gI u_113 x3 4) u_113 (fun (v_127 : Int32) (u_127 : Mm) => kd G x0 = 11 ∧ V_X11_firstMisfit G x0 x3 v_127 x4 x6 u_127 (fun (v_140 : Int32) (u_140 : Mm) => ((v_140 = (-1 : Int32) → Q v_127 u_140) ∧ (¬ v_140 = (-1 : Int32) → V_X11_gone_154 G Q X k_92 k_102 x0 x3 x4 x5 v_140 x7 x8 u_140))))) ∧ (¬ v_113 = x7 → V_X11_gone_154 G Q X k_92 k_102 x0 x3 x4 x5 x6 x7 x8 u_113)))))
def V_X11_gone_102 (G : Gx) (Q : Int32 → Mm → Prop) (X : String → Mm → Prop) (k_92 : Nat → Nat → Int32 → Int32 → Int32 → Int32 → Mm → Prop) : Nat → (Nat → Nat → Int32 → Int32 → Int32 → Int32 → Int32 → Mm → Prop)
  | 0 => fun _ _ _ _ _ _ _ _ => False
  | n + 1 => fun x0 x3 x4 x5 x6 x7 x8 u => V_X11_gone_102_B G Q X k_92 (V_X11_gone_102 G Q X k_92 n) x0 x3 x4 x5 x6 x7 x8 u
def V_X11_gone_92_B (G : Gx) (Q : Int32 → Mm → Prop) (X : String → Mm → Prop) (k_92 : Nat → Nat → Int32 → Int32 → Int32 → Int32 → Mm → Prop) (x0 : Nat) (x3 : Nat) (x4 : Int32) (x5 : Int32) (x6 : Int32) (x7 : Int32) (u : Mm) : Prop :=
  ((x5 < x7 → Q (-1 : Int32) u) ∧ (¬ x5 < x7 → ∃ n : Nat, V_X11_gone_102 G Q X k_92 n x0 x3 x4 x5 x6 x7 (0 : Int32) u))
def V_X11_gone_92 (G : Gx) (Q : Int32 → Mm → Prop) (X : String → Mm → Prop) : Nat → (Nat → Nat → Int32 → Int32 → Int32 → Int32 → Mm → Prop)
  | 0 => fun _ _ _ _ _ _ _ => False
  | n + 1 => fun x0 x3 x4 x5 x6 x7 u => V_X11_gone_92_B G Q X (V_X11_gone_92 G Q X n) x0 x3 x4 x5 x6 x7 u
def V_X11_gone_23_B (G : Gx) (Q : Int32 → Mm → Prop) (X : String → Mm → Prop) (k_23 : Nat → Int32 → Nat → Int32 → Int32 → Mm → Prop) (x0 : Nat) (x2 : Int32) (x3 : Nat) (x4 : Int32) (x5 : Int32) (u : Mm) : Prop :=
  ((x4 ≤ x5 → kd G x3 = 4 ∧ ∀ x5_84 : Int32, x5_84 = ((gI u x3 4) + (gI u x3 3)) → ∃ n : Nat, V_X11_gone_92 G Q X n x0 x3 x4 x5_84 (0 : Int32) (0 : Int32) u) ∧ (¬ x4 ≤ x5 → kd G x0 = 11 ∧ (gR u x0 2) ≠ 0 ∧ kd G (gR u x0 2) = 1 ∧ (gR u (gR u x0 2) 6) ≠ 0 ∧ kd G (gR u (gR u x0 2) 6) = 21 ∧ vp_in x5 (ln G (gR u (gR u x0 2) 6)) ∧ (gR u (gR u (gR u x0 2) 6) x5.toNatClampNeg) ≠ 0 ∧ ∀ x6_40 : Nat, x6_40 = (gR u (gR u (gR u x0 2) 6) x5.toNatClampNeg) → (gR u x0 6) ≠ 0 ∧ kd G (gR u x0 6) = 20 ∧ vp_in x5 (ln G (gR u x0 6)) ∧ (gR u (gR u x0 6) x5.toNatClampNeg) ≠ 0 ∧ kd G x6_40 = 7 ∧ kd G (gR u (gR u x0 6) x5.toNatClampNeg) = 6 ∧ V_X6_look G (gR u (gR u x0 6) x5.toNatClampNeg) x3 (gI u x6_40 0) (gI u x6_40 1) x2 (gI u x6_40 3) u (fun (u_66 : Mm) => ∀ x5_69 : Int32, x5_69 = x5 + (1 : Int32) → k_23 x0 x2 x3 x4 x5_69 u_66)))
def V_X11_gone_23 (G : Gx) (Q : Int32 → Mm → Prop) (X : String → Mm → Prop) : Nat → (Nat → Int32 → Nat → Int32 → Int32 → Mm → Prop)
  | 0 => fun _ _ _ _ _ _ => False
  | n + 1 => fun x0 x2 x3 x4 x5 u => V_X11_gone_23_B G Q X (V_X11_gone_23 G Q X n) x0 x2 x3 x4 x5 u
def V_X11_gone (G : Gx) (p0 : Nat) (p1 : Int32) (p2 : Int32) (u : Mm) (Q : Int32 → Mm → Prop) (X : String → Mm → Prop) : Prop :=
  kd G p0 = 11 ∧ V_X11_needLand G p0 p1 u (fun (v_2 : Nat) (u_2 : Mm) => V_X11_needYear G p2 u_2 (fun (u_7 : Mm) => (gR u_7 p0 2) ≠ 0 ∧ kd G (gR u_7 p0 2) = 1 ∧ V_X1_pickNamed G (gR u_7 p0 2) p2 u_7 (fun (v_15 : Int32) (u_15 : Mm) => ∃ n : Nat, V_X11_gone_23 G Q X n p0 p2 v_2 v_15 (0 : Int32) u_15)) X) X
set_option maxHeartbeats 4000000 in
set_option maxRecDepth 100000 in
theorem b_X11_gone_154 {G : Gx} {Q : Int32 → Mm → Prop} {X : String → Mm → Prop} {p : Program} {l : Launch} {e : Env} {s : State} {m : MethodId} {args : Array Value} {below : List Frame} {meth : Method} {c : Code} (hst : l.stackTraces = false) (C : Cx G p s m c cX11_gone RX11 10) (hr : meth.sig.returnType = (some .int)) (hlk : meth.locks = false) (hxt : ∀ x ∈ c.exceptionTable.toList, False) {k_92 : Nat → Nat → Int32 → Int32 → Int32 → Int32 → Mm → Prop} (hk_92 : ∀ (x0 : Nat) (x3 : Nat) (x4 : Int32) (x5 : Int32) (x6 : Int32) (x7 : Int32) (u : Mm) (H : Heap) (locs : List Loc) (ls : Array Slot), k_92 x0 x3 x4 x5 x6 x7 u → lv_has ls 10 [(0, .ref x0), (3, .ref x3), (4, .int x4), (5, .int x5), (6, .int x6), (7, .int x7)] → Hp G u s H locs → W p l e rm_X11_gone s m args below meth c H locs 2 12 (vx_MQ below (Ei G Q) (Xe G X) args s 2 12 (ag G)) (F0 m 92 ls [])) {k_102 : Nat → Nat → Int32 → Int32 → Int32 → Int32 → Int32 → Mm → Prop} (hk_102 : ∀ (x0 : Nat) (x3 : Nat) (x4 : Int32) (x5 : Int32) (x6 : Int32) (x7 : Int32) (x8 : Int32) (u : Mm) (H : Heap) (locs : List Loc) (ls : Array Slot), k_102 x0 x3 x4 x5 x6 x7 x8 u → lv_has ls 10 [(0, .ref x0), (3, .ref x3), (4, .int x4), (5, .int x5), (6, .int x6), (7, .int x7), (8, .int x8)] → Hp G u s H locs → W p l e rm_X11_gone s m args below meth c H locs 2 12 (vx_MQ below (Ei G Q) (Xe G X) args s 2 12 (ag G)) (F0 m 102 ls [])) {x0 : Nat} {x3 : Nat} {x4 : Int32} {x5 : Int32} {x6 : Int32} {x7 : Int32} {x8 : Int32} {u : Mm} {H : Heap} {locs : List Loc} {ls : Array Slot} (h : V_X11_gone_154 G Q X k_92 k_102 x0 x3 x4 x5 x6 x7 x8 u) (hl : lv_has ls 10 [(0, .ref x0), (3, .ref x3), (4, .int x4), (5, .int x5), (6, .int x6), (7, .int x7), (8, .int x8)]) (hP : Hp G u s H locs) : W p l e rm_X11_gone s m args below meth c H locs 2 12 (vx_MQ below (Ei G Q) (Xe G X) args s 2 12 (ag G)) (F0 m 154 ls []) := by
  have hx := C.1
  have hb := C.2.1
  unfold V_X11_gone_154 at h
  obtain ⟨x8_154, ex8_154⟩ : ∃ y : Int32, y = x8 + (1 : Int32) := ⟨_, rfl⟩
  have h := h x8_154 ex8_154
  refine lv_iinc (v := x8_154) (lv' := [(8, .int x8_154), (0, .ref x0), (3, .ref x3), (4, .int x4), (5, .int x5), (6, .int x6), (7, .int x7)]) hx hb dX11_gone_154 hl (k := 6) rfl (by rw [ex8_154]; rfl) (by decide) rfl (fun ls hl => ?_)
  refine lv_goto (tgt := 102) hx hb dX11_gone_157 (by decide) ?_
  exact hk_102 x0 x3 x4 x5 x6 x7 x8_154 u _ _ _ h (lv_sub hl [1, 2, 3, 4, 5, 6, 0] rfl) hP
set_option maxHeartbeats 4000000 in
set_option maxRecDepth 100000 in
theorem b_X11_gone_102 {G : Gx} {Q : Int32 → Mm → Prop} {X : String → Mm → Prop} {p : Program} {l : Launch} {e : Env} {s : State} {m : MethodId} {args : Array Value} {below : List Frame} {meth : Method} {c : Code} (hst : l.stackTraces = false) (C : Cx G p s m c cX11_gone RX11 10) (hr : meth.sig.returnType = (some .int)) (hlk : meth.locks = false) (hxt : ∀ x ∈ c.exceptionTable.toList, False) {k_92 : Nat → Nat → Int32 → Int32 → Int32 → Int32 → Mm → Prop} (hk_92 : ∀ (x0 : Nat) (x3 : Nat) (x4 : Int32) (x5 : Int32) (x6 : Int32) (x7 : Int32) (u : Mm) (H : Heap) (locs : List Loc) (ls : Array Slot), k_92 x0 x3 x4 x5 x6 x7 u → lv_has ls 10 [(0, .ref x0), (3, .ref x3), (4, .int x4), (5, .int x5), (6, .int x6), (7, .int x7)] → Hp G u s H locs → W p l e rm_X11_gone s m args below meth c H locs 2 12 (vx_MQ below (Ei G Q) (Xe G X) args s 2 12 (ag G)) (F0 m 92 ls [])) {k_102 : Nat → Nat → Int32 → Int32 → Int32 → Int32 → Int32 → Mm → Prop} (hk_102 : ∀ (x0 : Nat) (x3 : Nat) (x4 : Int32) (x5 : Int32) (x6 : Int32) (x7 : Int32) (x8 : Int32) (u : Mm) (H : Heap) (locs : List Loc) (ls : Array Slot), k_102 x0 x3 x4 x5 x6 x7 x8 u → lv_has ls 10 [(0, .ref x0), (3, .ref x3), (4, .int x4), (5, .int x5), (6, .int x6), (7, .int x7), (8, .int x8)] → Hp G u s H locs → W p l e rm_X11_gone s m args below meth c H locs 2 12 (vx_MQ below (Ei G Q) (Xe G X) args s 2 12 (ag G)) (F0 m 102 ls [])) {x0 : Nat} {x3 : Nat} {x4 : Int32} {x5 : Int32} {x6 : Int32} {x7 : Int32} {x8 : Int32} {u : Mm} {H : Heap} {locs : List Loc} {ls : Array Slot} (h : V_X11_gone_102_B G Q X k_92 k_102 x0 x3 x4 x5 x6 x7 x8 u) (hl : lv_has ls 10 [(0, .ref x0), (3, .ref x3), (4, .int x4), (5, .int x5), (6, .int x6), (7, .int x7), (8, .int x8)]) (hP : Hp G u s H locs) : W p l e rm_X11_gone s m args below meth c H locs 2 12 (vx_MQ below (Ei G Q) (Xe G X) args s 2 12 (ag G)) (F0 m 102 ls []) := by
  have hx := C.1
  have hb := C.2.1
  unfold V_X11_gone_102_B at h
  refine lv_iload hx hb dX11_gone_102 (lv_at hl 6 rfl) ?_
  refine lv_iconst (v := (1 : Int32)) hx hb dX11_gone_104 (by decide) ?_
  refine lv_iload hx hb dX11_gone_105 (lv_at hl 3 rfl) ?_
  refine lv_ishl hx hb dX11_gone_107 ?_
  refine lv_icmp_ge (tgt := 160) hx hb dX11_gone_108 (by decide) (fun c108 => ?_) (fun c108 => ?_)
  · have h := h.1 c108
    obtain ⟨x7_160, ex7_160⟩ : ∃ y : Int32, y = x7 + (1 : Int32) := ⟨_, rfl⟩
    have h := h x7_160 ex7_160
    refine lv_iinc (v := x7_160) (lv' := [(7, .int x7_160), (0, .ref x0), (3, .ref x3), (4, .int x4), (5, .int x5), (6, .int x6), (8, .int x8)]) hx hb dX11_gone_160 hl (k := 5) rfl (by rw [ex7_160]; rfl) (by decide) rfl (fun ls hl => ?_)
    refine lv_goto (tgt := 92) hx hb dX11_gone_163 (by decide) ?_
    exact hk_92 x0 x3 x4 x5 x6 x7_160 u _ _ _ h (lv_sub hl [1, 2, 3, 4, 5, 0] rfl) hP
  · have h := h.2 c108
    refine lv_iload hx hb dX11_gone_111 (lv_at hl 6 rfl) ?_
    refine q_cali (q_runS C hP (c_J6_bitCount_0f7a4 h) (cd_J6_bitCount_0f7a4 C.hA) (ini_J6 C.hA) (ml_X11_262 C.hA) (st_J6_bitCount_0f7a4 C.hA) hd_J6_bitCount_0f7a4 ⟨rfl, rfl⟩ ⟨Nat.le_of_ble_eq_true rfl, Nat.le_of_ble_eq_true rfl⟩ ⟨Nat.le_of_ble_eq_true rfl, Nat.le_of_ble_eq_true rfl⟩ hl.1 rfl (Nat.le_of_ble_eq_true rfl) dX11_gone_113) hP (fun v_113 u_113 H locs h hP => ?_)
    refine lv_iload hx hb dX11_gone_116 (lv_at hl 5 rfl) ?_
    refine lv_icmp_ne (tgt := 154) hx hb dX11_gone_118 (by decide) (fun c118 => ?_) (fun c118 => ?_)
    · have h := h.2 c118
      exact b_X11_gone_154 hst C hr hlk hxt hk_92 hk_102 h (lv_sub hl [0, 1, 2, 3, 4, 5, 6] rfl) hP
    · have h := h.1 c118
      refine lv_iload hx hb dX11_gone_121 (lv_at hl 6 rfl) ?_
      refine lv_aload_n hx hb dX11_gone_123 rfl (lv_at hl 1 rfl) ?_
      obtain ⟨g1, h⟩ := h
      refine q_getIN C hP (k := 4) (lay_X4 C.hA) rfl (by decide) g1 (fn_X11_123 C.hA) dX11_gone_124 ?_
      refine q_cali (q_runS C hP (c_X11_thingBits h) (cd_X11_thingBits C.hA) (ini_X11 C.hA) (ml_X11_267 C.hA) (st_X11_thingBits C.hA) hd_X11_thingBits ⟨rfl, rfl⟩ ⟨Nat.le_of_ble_eq_true rfl, Nat.le_of_ble_eq_true rfl⟩ ⟨Nat.le_of_ble_eq_true rfl, Nat.le_of_ble_eq_true rfl⟩ hl.1 rfl (Nat.le_of_ble_eq_true rfl) dX11_gone_127) hP (fun v_127 u_127 H locs h hP => ?_)
      refine lv_istore (lv' := [(9, .int v_127), (0, .ref x0), (3, .ref x3), (4, .int x4), (5, .int x5), (6, .int x6), (7, .int x7), (8, .int x8)]) hx hb dX11_gone_130 hl (by decide) rfl (fun ls hl => ?_)
      refine lv_aload_n hx hb dX11_gone_132 rfl (lv_at hl 1 rfl) ?_
      refine lv_aload_n hx hb dX11_gone_133 rfl (lv_at hl 2 rfl) ?_
      refine lv_iload hx hb dX11_gone_134 (lv_at hl 0 rfl) ?_
      refine lv_iload hx hb dX11_gone_136 (lv_at hl 3 rfl) ?_
      refine lv_iload hx hb dX11_gone_138 (lv_at hl 5 rfl) ?_
      obtain ⟨g2, h⟩ := h
      refine q_cali (q_runV C hP (c_X11_firstMisfit h) (cd_X11_firstMisfit C.hA) (ini_X11 C.hA) (ml_X11_270 C.hA) (im_X11_firstMisfit C.hA) (sl_X11_firstMisfit C.hA) g2 (by decide) rfl hd_X11_firstMisfit ⟨rfl, rfl⟩ ⟨Nat.le_of_ble_eq_true rfl, Nat.le_of_ble_eq_true rfl⟩ ⟨Nat.le_of_ble_eq_true rfl, Nat.le_of_ble_eq_true rfl⟩ hl.1 rfl (Nat.le_of_ble_eq_true rfl) dX11_gone_140) hP (fun v_140 u_140 H locs h hP => ?_)
      refine lv_istore (lv' := [(6, .int v_140), (9, .int v_127), (0, .ref x0), (3, .ref x3), (4, .int x4), (5, .int x5), (7, .int x7), (8, .int x8)]) hx hb dX11_gone_143 hl (by decide) rfl (fun ls hl => ?_)
      refine lv_iload hx hb dX11_gone_145 (lv_at hl 0 rfl) ?_
      refine lv_iconst (v := (-1 : Int32)) hx hb dX11_gone_147 (by decide) ?_
      refine lv_icmp_ne (tgt := 154) hx hb dX11_gone_148 (by decide) (fun c148 => ?_) (fun c148 => ?_)
      · have h := h.2 c148
        exact b_X11_gone_154 hst C hr hlk hxt hk_92 hk_102 h (lv_sub hl [2, 3, 4, 5, 0, 6, 7] rfl) hP
      · have h := h.1 c148
        refine lv_iload hx hb dX11_gone_151 (lv_at hl 1 rfl) ?_
        exact vx_ret (q_iret C hr hlk hP h (by decide) (by decide) dX11_gone_153)
theorem l_X11_gone_102 {G : Gx} {Q : Int32 → Mm → Prop} {X : String → Mm → Prop} {p : Program} {l : Launch} {e : Env} {s : State} {m : MethodId} {args : Array Value} {below : List Frame} {meth : Method} {c : Code} (hst : l.stackTraces = false) (C : Cx G p s m c cX11_gone RX11 10) (hr : meth.sig.returnType = (some .int)) (hlk : meth.locks = false) (hxt : ∀ x ∈ c.exceptionTable.toList, False) {k_92 : Nat → Nat → Int32 → Int32 → Int32 → Int32 → Mm → Prop} (hk_92 : ∀ (x0 : Nat) (x3 : Nat) (x4 : Int32) (x5 : Int32) (x6 : Int32) (x7 : Int32) (u : Mm) (H : Heap) (locs : List Loc) (ls : Array Slot), k_92 x0 x3 x4 x5 x6 x7 u → lv_has ls 10 [(0, .ref x0), (3, .ref x3), (4, .int x4), (5, .int x5), (6, .int x6), (7, .int x7)] → Hp G u s H locs → W p l e rm_X11_gone s m args below meth c H locs 2 12 (vx_MQ below (Ei G Q) (Xe G X) args s 2 12 (ag G)) (F0 m 92 ls [])) : ∀ (n : Nat) (x0 : Nat) (x3 : Nat) (x4 : Int32) (x5 : Int32) (x6 : Int32) (x7 : Int32) (x8 : Int32) (u : Mm) (H : Heap) (locs : List Loc) (ls : Array Slot), V_X11_gone_102 G Q X k_92 n x0 x3 x4 x5 x6 x7 x8 u → lv_has ls 10 [(0, .ref x0), (3, .ref x3), (4, .int x4), (5, .int x5), (6, .int x6), (7, .int x7), (8, .int x8)] → Hp G u s H locs → W p l e rm_X11_gone s m args below meth c H locs 2 12 (vx_MQ below (Ei G Q) (Xe G X) args s 2 12 (ag G)) (F0 m 102 ls []) := by
  intro n
  induction n with
  | zero => intro x0 x3 x4 x5 x6 x7 x8 u H locs ls h; exact h.elim
  | succ n ih => intro x0 x3 x4 x5 x6 x7 x8 u H locs ls h hl hP; exact b_X11_gone_102 hst C hr hlk hxt hk_92 ih h hl hP
set_option maxHeartbeats 4000000 in
set_option maxRecDepth 100000 in
theorem b_X11_gone_92 {G : Gx} {Q : Int32 → Mm → Prop} {X : String → Mm → Prop} {p : Program} {l : Launch} {e : Env} {s : State} {m : MethodId} {args : Array Value} {below : List Frame} {meth : Method} {c : Code} (hst : l.stackTraces = false) (C : Cx G p s m c cX11_gone RX11 10) (hr : meth.sig.returnType = (some .int)) (hlk : meth.locks = false) (hxt : ∀ x ∈ c.exceptionTable.toList, False) {k_92 : Nat → Nat → Int32 → Int32 → Int32 → Int32 → Mm → Prop} (hk_92 : ∀ (x0 : Nat) (x3 : Nat) (x4 : Int32) (x5 : Int32) (x6 : Int32) (x7 : Int32) (u : Mm) (H : Heap) (locs : List Loc) (ls : Array Slot), k_92 x0 x3 x4 x5 x6 x7 u → lv_has ls 10 [(0, .ref x0), (3, .ref x3), (4, .int x4), (5, .int x5), (6, .int x6), (7, .int x7)] → Hp G u s H locs → W p l e rm_X11_gone s m args below meth c H locs 2 12 (vx_MQ below (Ei G Q) (Xe G X) args s 2 12 (ag G)) (F0 m 92 ls [])) {x0 : Nat} {x3 : Nat} {x4 : Int32} {x5 : Int32} {x6 : Int32} {x7 : Int32} {u : Mm} {H : Heap} {locs : List Loc} {ls : Array Slot} (h : V_X11_gone_92_B G Q X k_92 x0 x3 x4 x5 x6 x7 u) (hl : lv_has ls 10 [(0, .ref x0), (3, .ref x3), (4, .int x4), (5, .int x5), (6, .int x6), (7, .int x7)]) (hP : Hp G u s H locs) : W p l e rm_X11_gone s m args below meth c H locs 2 12 (vx_MQ below (Ei G Q) (Xe G X) args s 2 12 (ag G)) (F0 m 92 ls []) := by
  have hx := C.1
  have hb := C.2.1
  unfold V_X11_gone_92_B at h
  refine lv_iload hx hb dX11_gone_92 (lv_at hl 5 rfl) ?_
  refine lv_iload hx hb dX11_gone_94 (lv_at hl 3 rfl) ?_
  refine lv_icmp_gt (tgt := 166) hx hb dX11_gone_96 (by decide) (fun c96 => ?_) (fun c96 => ?_)
  · have h := h.1 c96
    refine lv_iconst (v := (-1 : Int32)) hx hb dX11_gone_166 (by decide) ?_
    exact vx_ret (q_iret C hr hlk hP h (by decide) (by decide) dX11_gone_167)
  · have h := h.2 c96
    refine lv_iconst (v := (0 : Int32)) hx hb dX11_gone_99 (by decide) ?_
    refine lv_istore (lv' := [(8, .int (0 : Int32)), (0, .ref x0), (3, .ref x3), (4, .int x4), (5, .int x5), (6, .int x6), (7, .int x7)]) hx hb dX11_gone_100 hl (by decide) rfl (fun ls hl => ?_)
    obtain ⟨n, h⟩ := h
    exact l_X11_gone_102 hst C hr hlk hxt hk_92 n x0 x3 x4 x5 x6 x7 (0 : Int32) u _ _ _ h (lv_sub hl [1, 2, 3, 4, 5, 6, 0] rfl) hP
theorem l_X11_gone_92 {G : Gx} {Q : Int32 → Mm → Prop} {X : String → Mm → Prop} {p : Program} {l : Launch} {e : Env} {s : State} {m : MethodId} {args : Array Value} {below : List Frame} {meth : Method} {c : Code} (hst : l.stackTraces = false) (C : Cx G p s m c cX11_gone RX11 10) (hr : meth.sig.returnType = (some .int)) (hlk : meth.locks = false) (hxt : ∀ x ∈ c.exceptionTable.toList, False) : ∀ (n : Nat) (x0 : Nat) (x3 : Nat) (x4 : Int32) (x5 : Int32) (x6 : Int32) (x7 : Int32) (u : Mm) (H : Heap) (locs : List Loc) (ls : Array Slot), V_X11_gone_92 G Q X n x0 x3 x4 x5 x6 x7 u → lv_has ls 10 [(0, .ref x0), (3, .ref x3), (4, .int x4), (5, .int x5), (6, .int x6), (7, .int x7)] → Hp G u s H locs → W p l e rm_X11_gone s m args below meth c H locs 2 12 (vx_MQ below (Ei G Q) (Xe G X) args s 2 12 (ag G)) (F0 m 92 ls []) := by
  intro n
  induction n with
  | zero => intro x0 x3 x4 x5 x6 x7 u H locs ls h; exact h.elim
  | succ n ih => intro x0 x3 x4 x5 x6 x7 u H locs ls h hl hP; exact b_X11_gone_92 hst C hr hlk hxt ih h hl hP
set_option maxHeartbeats 4000000 in
set_option maxRecDepth 100000 in
theorem b_X11_gone_23 {G : Gx} {Q : Int32 → Mm → Prop} {X : String → Mm → Prop} {p : Program} {l : Launch} {e : Env} {s : State} {m : MethodId} {args : Array Value} {below : List Frame} {meth : Method} {c : Code} (hst : l.stackTraces = false) (C : Cx G p s m c cX11_gone RX11 10) (hr : meth.sig.returnType = (some .int)) (hlk : meth.locks = false) (hxt : ∀ x ∈ c.exceptionTable.toList, False) {k_23 : Nat → Int32 → Nat → Int32 → Int32 → Mm → Prop} (hk_23 : ∀ (x0 : Nat) (x2 : Int32) (x3 : Nat) (x4 : Int32) (x5 : Int32) (u : Mm) (H : Heap) (locs : List Loc) (ls : Array Slot), k_23 x0 x2 x3 x4 x5 u → lv_has ls 10 [(0, .ref x0), (2, .int x2), (3, .ref x3), (4, .int x4), (5, .int x5)] → Hp G u s H locs → W p l e rm_X11_gone s m args below meth c H locs 2 12 (vx_MQ below (Ei G Q) (Xe G X) args s 2 12 (ag G)) (F0 m 23 ls [])) {x0 : Nat} {x2 : Int32} {x3 : Nat} {x4 : Int32} {x5 : Int32} {u : Mm} {H : Heap} {locs : List Loc} {ls : Array Slot} (h : V_X11_gone_23_B G Q X k_23 x0 x2 x3 x4 x5 u) (hl : lv_has ls 10 [(0, .ref x0), (2, .int x2), (3, .ref x3), (4, .int x4), (5, .int x5)]) (hP : Hp G u s H locs) : W p l e rm_X11_gone s m args below meth c H locs 2 12 (vx_MQ below (Ei G Q) (Xe G X) args s 2 12 (ag G)) (F0 m 23 ls []) := by
  have hx := C.1
  have hb := C.2.1
  unfold V_X11_gone_23_B at h
  refine lv_iload hx hb dX11_gone_23 (lv_at hl 4 rfl) ?_
  refine lv_iload hx hb dX11_gone_25 (lv_at hl 3 rfl) ?_
  refine lv_icmp_ge (tgt := 75) hx hb dX11_gone_27 (by decide) (fun c27 => ?_) (fun c27 => ?_)
  · have h := h.1 c27
    refine lv_aload_n hx hb dX11_gone_75 rfl (lv_at hl 2 rfl) ?_
    obtain ⟨g1, h⟩ := h
    refine q_getIN C hP (k := 4) (lay_X4 C.hA) rfl (by decide) g1 (fn_X11_123 C.hA) dX11_gone_76 ?_
    refine lv_aload_n hx hb dX11_gone_79 rfl (lv_at hl 2 rfl) ?_
    refine q_getIN C hP (k := 3) (lay_X4 C.hA) rfl (by decide) g1 (fn_X11_120 C.hA) dX11_gone_80 ?_
    refine lv_iadd hx hb dX11_gone_83 ?_
    refine lv_topi (fun x5_84 ex5_84 => ?_)
    have h := h x5_84 ex5_84
    refine lv_istore (lv' := [(5, .int x5_84), (0, .ref x0), (2, .int x2), (3, .ref x3), (4, .int x4)]) hx hb dX11_gone_84 hl (by decide) rfl (fun ls hl => ?_)
    refine lv_iconst (v := (0 : Int32)) hx hb dX11_gone_86 (by decide) ?_
    refine lv_istore (lv' := [(6, .int (0 : Int32)), (5, .int x5_84), (0, .ref x0), (2, .int x2), (3, .ref x3), (4, .int x4)]) hx hb dX11_gone_87 hl (by decide) rfl (fun ls hl => ?_)
    refine lv_iconst (v := (0 : Int32)) hx hb dX11_gone_89 (by decide) ?_
    refine lv_istore (lv' := [(7, .int (0 : Int32)), (6, .int (0 : Int32)), (5, .int x5_84), (0, .ref x0), (2, .int x2), (3, .ref x3), (4, .int x4)]) hx hb dX11_gone_90 hl (by decide) rfl (fun ls hl => ?_)
    obtain ⟨n, h⟩ := h
    exact l_X11_gone_92 hst C hr hlk hxt n x0 x3 x4 x5_84 (0 : Int32) (0 : Int32) u _ _ _ h (lv_sub hl [3, 5, 6, 2, 1, 0] rfl) hP
  · have h := h.2 c27
    refine lv_aload_n hx hb dX11_gone_30 rfl (lv_at hl 0 rfl) ?_
    obtain ⟨g2, h⟩ := h
    obtain ⟨g3, h⟩ := h
    refine q_getR C hP (k := 2) (lay_X11 C.hA) rfl (by decide) g2 g3 (fl_X11_26 C.hA) dX11_gone_31 ?_
    obtain ⟨g4, h⟩ := h
    obtain ⟨g5, h⟩ := h
    refine q_getRN C hP (k := 6) (lay_X1 C.hA) rfl (by decide) g4 g5 (fn_X11_259 C.hA) dX11_gone_34 ?_
    refine lv_iload hx hb dX11_gone_37 (lv_at hl 4 rfl) ?_
    obtain ⟨g6, h⟩ := h
    obtain ⟨g7, h⟩ := h
    obtain ⟨g8, h⟩ := h
    refine q_aald C hP g6 (by decide) rfl g7 g8 dX11_gone_39 ?_
    refine q_topr (fun x6_40 ex6_40 => ?_)
    have h := h x6_40 ex6_40
    refine lv_astore (lv' := [(6, .ref x6_40), (0, .ref x0), (2, .int x2), (3, .ref x3), (4, .int x4), (5, .int x5)]) hx hb dX11_gone_40 hl (by decide) rfl (fun ls hl => ?_)
    refine lv_aload_n hx hb dX11_gone_42 rfl (lv_at hl 1 rfl) ?_
    obtain ⟨g9, h⟩ := h
    refine q_getR C hP (k := 6) (lay_X11 C.hA) rfl (by decide) g2 g9 (fl_X11_44 C.hA) dX11_gone_43 ?_
    refine lv_iload hx hb dX11_gone_46 (lv_at hl 5 rfl) ?_
    obtain ⟨g10, h⟩ := h
    obtain ⟨g11, h⟩ := h
    obtain ⟨g12, h⟩ := h
    refine q_aald C hP g10 (by decide) rfl g11 g12 dX11_gone_48 ?_
    refine lv_aload_n hx hb dX11_gone_49 rfl (lv_at hl 3 rfl) ?_
    refine lv_aload hx hb dX11_gone_50 (lv_at hl 0 rfl) ?_
    obtain ⟨g13, h⟩ := h
    refine q_getIN C hP (k := 0) (lay_X7 C.hA) rfl (by decide) g13 (fn_X11_197 C.hA) dX11_gone_52 ?_
    refine lv_aload hx hb dX11_gone_55 (lv_at hl 0 rfl) ?_
    refine q_getIN C hP (k := 1) (lay_X7 C.hA) rfl (by decide) g13 (fn_X11_200 C.hA) dX11_gone_57 ?_
    refine lv_iload_n hx hb dX11_gone_60 rfl (lv_at hl 2 rfl) ?_
    refine lv_aload hx hb dX11_gone_61 (lv_at hl 0 rfl) ?_
    refine q_getIN C hP (k := 3) (lay_X7 C.hA) rfl (by decide) g13 (fn_X11_206 C.hA) dX11_gone_63 ?_
    obtain ⟨g14, h⟩ := h
    refine q_calv (q_runVN C hP (c_X6_look h) (cd_X6_look C.hA) (ini_X6 C.hA) (mn_X11_141 C.hA) (im_X6_look C.hA) (sl_X6_look C.hA) g14 (by decide) rfl hd_X6_look ⟨rfl, rfl⟩ ⟨Nat.le_of_ble_eq_true rfl, Nat.le_of_ble_eq_true rfl⟩ ⟨Nat.le_of_ble_eq_true rfl, Nat.le_of_ble_eq_true rfl⟩ hl.1 rfl (Nat.le_of_ble_eq_true rfl) dX11_gone_66) hP (fun u_66 H locs h hP => ?_)
    obtain ⟨x5_69, ex5_69⟩ : ∃ y : Int32, y = x5 + (1 : Int32) := ⟨_, rfl⟩
    have h := h x5_69 ex5_69
    refine lv_iinc (v := x5_69) (lv' := [(5, .int x5_69), (6, .ref x6_40), (0, .ref x0), (2, .int x2), (3, .ref x3), (4, .int x4)]) hx hb dX11_gone_69 hl (k := 5) rfl (by rw [ex5_69]; rfl) (by decide) rfl (fun ls hl => ?_)
    refine lv_goto (tgt := 23) hx hb dX11_gone_72 (by decide) ?_
    exact hk_23 x0 x2 x3 x4 x5_69 u_66 _ _ _ h (lv_sub hl [2, 3, 4, 5, 0] rfl) hP
theorem l_X11_gone_23 {G : Gx} {Q : Int32 → Mm → Prop} {X : String → Mm → Prop} {p : Program} {l : Launch} {e : Env} {s : State} {m : MethodId} {args : Array Value} {below : List Frame} {meth : Method} {c : Code} (hst : l.stackTraces = false) (C : Cx G p s m c cX11_gone RX11 10) (hr : meth.sig.returnType = (some .int)) (hlk : meth.locks = false) (hxt : ∀ x ∈ c.exceptionTable.toList, False) : ∀ (n : Nat) (x0 : Nat) (x2 : Int32) (x3 : Nat) (x4 : Int32) (x5 : Int32) (u : Mm) (H : Heap) (locs : List Loc) (ls : Array Slot), V_X11_gone_23 G Q X n x0 x2 x3 x4 x5 u → lv_has ls 10 [(0, .ref x0), (2, .int x2), (3, .ref x3), (4, .int x4), (5, .int x5)] → Hp G u s H locs → W p l e rm_X11_gone s m args below meth c H locs 2 12 (vx_MQ below (Ei G Q) (Xe G X) args s 2 12 (ag G)) (F0 m 23 ls []) := by
  intro n
  induction n with
  | zero => intro x0 x2 x3 x4 x5 u H locs ls h; exact h.elim
  | succ n ih => intro x0 x2 x3 x4 x5 u H locs ls h hl hP; exact b_X11_gone_23 hst C hr hlk hxt ih h hl hP
set_option maxHeartbeats 4000000 in
set_option maxRecDepth 100000 in
theorem c_X11_gone {l : Launch} (hst : l.stackTraces = false) {G : Gx} {p0 : Nat} {p1 : Int32} {p2 : Int32} {u : Mm} {Q : Int32 → Mm → Prop} {X : String → Mm → Prop} (h : V_X11_gone G p0 p1 p2 u Q X) : vx_Met l yX11_gone [.code yX11_gone cX11_gone 10 (some .int)] rm_X11_gone (va_Pc [.ref p0, .int p1, .int p2] (Wd G u)) (Ei G Q) (Xe G X) 2 12 (ag G) := by
  refine q_metX (by decide) (Nat.le_of_ble_eq_true rfl) ?_
  intro p e s m below meth c ls C hr hlk hnm hxt hl hP
  have hl : lv_has ls 10 [(0, .ref p0), (1, .int p1), (2, .int p2)] := hl
  generalize ([.ref p0, .int p1, .int p2] : List Value).toArray = args
  have hx := C.1
  have hb := C.2.1
  unfold V_X11_gone at h
  refine lv_aload_n hx hb dX11_gone_0 rfl (lv_at hl 0 rfl) ?_
  refine lv_iload_n hx hb dX11_gone_1 rfl (lv_at hl 1 rfl) ?_
  obtain ⟨g1, h⟩ := h
  refine q_calrX hxt hlk (q_runVX C hP (c_X11_needLand hst h) (cd_X11_needLand C.hA) (ini_X11 C.hA) (ml_X11_84 C.hA) (im_X11_needLand C.hA) (sl_X11_needLand C.hA) g1 (by decide) rfl hd_X11_needLand ⟨rfl, rfl⟩ ⟨Nat.le_of_ble_eq_true rfl, Nat.le_of_ble_eq_true rfl⟩ ⟨Nat.le_of_ble_eq_true rfl, Nat.le_of_ble_eq_true rfl⟩ hl.1 rfl (Nat.le_of_ble_eq_true rfl) dX11_gone_2) hP (Nat.le_of_ble_eq_true rfl) (Nat.le_of_ble_eq_true rfl) (fun v_2 u_2 H locs h hP => ?_)
  refine lv_astore_n (lv' := [(3, .ref v_2), (0, .ref p0), (1, .int p1), (2, .int p2)]) hx hb dX11_gone_5 rfl hl (by decide) rfl (fun ls hl => ?_)
  refine lv_iload_n hx hb dX11_gone_6 rfl (lv_at hl 3 rfl) ?_
  refine q_calvX hxt hlk (q_runSX C hP (c_X11_needYear hst h) (cd_X11_needYear C.hA) (ini_X11 C.hA) (ml_X11_253 C.hA) (st_X11_needYear C.hA) hd_X11_needYear ⟨rfl, rfl⟩ ⟨Nat.le_of_ble_eq_true rfl, Nat.le_of_ble_eq_true rfl⟩ ⟨Nat.le_of_ble_eq_true rfl, Nat.le_of_ble_eq_true rfl⟩ hl.1 rfl (Nat.le_of_ble_eq_true rfl) dX11_gone_7) hP (Nat.le_of_ble_eq_true rfl) (Nat.le_of_ble_eq_true rfl) (fun u_7 H locs h hP => ?_)
  refine lv_aload_n hx hb dX11_gone_10 rfl (lv_at hl 1 rfl) ?_
  obtain ⟨g2, h⟩ := h
  refine q_getR C hP (k := 2) (lay_X11 C.hA) rfl (by decide) g1 g2 (fl_X11_26 C.hA) dX11_gone_11 ?_
  refine lv_iload_n hx hb dX11_gone_14 rfl (lv_at hl 3 rfl) ?_
  obtain ⟨g3, h⟩ := h
  refine q_cali (q_runVN C hP (c_X1_pickNamed h) (cd_X1_pickNamed C.hA) (ini_X1 C.hA) (mn_X11_256 C.hA) (im_X1_pickNamed C.hA) (sl_X1_pickNamed C.hA) g3 (by decide) rfl hd_X1_pickNamed ⟨rfl, rfl⟩ ⟨Nat.le_of_ble_eq_true rfl, Nat.le_of_ble_eq_true rfl⟩ ⟨Nat.le_of_ble_eq_true rfl, Nat.le_of_ble_eq_true rfl⟩ hl.1 rfl (Nat.le_of_ble_eq_true rfl) dX11_gone_15) hP (fun v_15 u_15 H locs h hP => ?_)
  refine lv_istore (lv' := [(4, .int v_15), (3, .ref v_2), (0, .ref p0), (1, .int p1), (2, .int p2)]) hx hb dX11_gone_18 hl (by decide) rfl (fun ls hl => ?_)
  refine lv_iconst (v := (0 : Int32)) hx hb dX11_gone_20 (by decide) ?_
  refine lv_istore (lv' := [(5, .int (0 : Int32)), (4, .int v_15), (3, .ref v_2), (0, .ref p0), (1, .int p1), (2, .int p2)]) hx hb dX11_gone_21 hl (by decide) rfl (fun ls hl => ?_)
  obtain ⟨n, h⟩ := h
  exact l_X11_gone_23 hst C hr hlk hxt n p0 p2 v_2 v_15 (0 : Int32) u_15 _ _ _ h (lv_sub hl [3, 5, 2, 1, 0] rfl) hP
-- X11_plans
abbrev rm_X11_plans : Room := { frames := 7, cells := 2, slots := 12, locals := 121 }
theorem hd_X11_plans : yX11_plans.cls ≠ "java/lang/invoke/MethodHandle" ∧ yX11_plans.cls ≠ "java/lang/invoke/VarHandle" ∧ (parseMethodDescriptor yX11_plans.desc).map (fun d => d.parameters.length) = some 3 := by decide +kernel
def V_X11_plans_17 (G : Gx) (Q : Int32 → Mm → Prop) (X : String → Mm → Prop) (u : Mm) : Prop :=
  X "java/lang/IllegalArgumentException" u
def V_X11_plans (G : Gx) (p0 : Nat) (p1 : Int32) (p2 : Int32) (p3 : Int32) (u : Mm) (Q : Int32 → Mm → Prop) (X : String → Mm → Prop) : Prop :=
  V_X11_needYear G p1 u (fun (u_1 : Mm) => ((p2 < (50 : Int32) → V_X11_plans_17 G Q X  u_1) ∧ (¬ p2 < (50 : Int32) → ((p2 ≤ (150 : Int32) → kd G p0 = 11 ∧ (gR u_1 p0 2) ≠ 0 ∧ kd G (gR u_1 p0 2) = 1 ∧ V_X1_pickNamed G (gR u_1 p0 2) p1 u_1 (fun (v_33 : Int32) (u_33 : Mm) => ((v_33 = 0 → X "java/lang/IllegalArgumentException" u_33) ∧ (¬ v_33 = 0 → (gR u_33 p0 8) ≠ 0 ∧ (gR u_33 p0 2) ≠ 0 ∧ kd G (gR u_33 p0 8) = 5 ∧ V_X5_prepare G (gR u_33 p0 8) (gR u_33 p0 2) p2 u_33 (fun (u_63 : Mm) => (gR u_63 p0 8) ≠ 0 ∧ (gR u_63 p0 2) ≠ 0 ∧ kd G (gR u_63 p0 8) = 5 ∧ V_X5_search G (gR u_63 p0 8) (gR u_63 p0 2) p3 u_63 (fun (v_75 : Int32) (u_75 : Mm) => ((p3 = (-1 : Int32) → Q v_75 u_75) ∧ (¬ p3 = (-1 : Int32) → ((v_75 = (-1 : Int32) → X "java/util/NoSuchElementException" u_75) ∧ (¬ v_75 = (-1 : Int32) → Q v_75 u_75)))))))))) ∧ (¬ p2 ≤ (150 : Int32) → V_X11_plans_17 G Q X  u_1))))) X
set_option maxHeartbeats 4000000 in
set_option maxRecDepth 100000 in
theorem b_X11_plans_17 {G : Gx} {Q : Int32 → Mm → Prop} {X : String → Mm → Prop} {p : Program} {l : Launch} {e : Env} {s : State} {m : MethodId} {args : Array Value} {below : List Frame} {meth : Method} {c : Code} (hst : l.stackTraces = false) (C : Cx G p s m c cX11_plans RX11 6) (hr : meth.sig.returnType = (some .int)) (hlk : meth.locks = false) (hxt : ∀ x ∈ c.exceptionTable.toList, False) {u : Mm} {H : Heap} {locs : List Loc} {ls : Array Slot} (h : V_X11_plans_17 G Q X  u) (hl : lv_has ls 6 []) (hP : Hp G u s H locs) : W p l e rm_X11_plans s m args below meth c H locs 1 6 (vx_MQ below (Ei G Q) (Xe G X) args s 2 12 (ag G)) (F0 m 17 ls []) := by
  have hx := C.1
  have hb := C.2.1
  unfold V_X11_plans_17 at h
  exact q_throwW C hst hxt hlk hP 23 (by decide) rfl rfl (by decide) (cl_X11_88 C.hA) (ini_java_lang_IllegalArgumentException C.hA) (thI C.hA) thI_g hl.1 h dX11_plans_17 dX11_plans_20 dX11_plans_21 dX11_plans_24 dX11_plans_27 ⟨Nat.le_of_ble_eq_true rfl, Nat.le_of_ble_eq_true rfl, Nat.le_of_ble_eq_true rfl, Nat.le_of_ble_eq_true rfl⟩ (Nat.le_of_ble_eq_true rfl) (Nat.le_of_ble_eq_true rfl)
set_option maxHeartbeats 4000000 in
set_option maxRecDepth 100000 in
theorem c_X11_plans {l : Launch} (hst : l.stackTraces = false) {G : Gx} {p0 : Nat} {p1 : Int32} {p2 : Int32} {p3 : Int32} {u : Mm} {Q : Int32 → Mm → Prop} {X : String → Mm → Prop} (h : V_X11_plans G p0 p1 p2 p3 u Q X) : vx_Met l yX11_plans [.code yX11_plans cX11_plans 6 (some .int)] rm_X11_plans (va_Pc [.ref p0, .int p1, .int p2, .int p3] (Wd G u)) (Ei G Q) (Xe G X) 2 12 (ag G) := by
  refine q_metX (by decide) (Nat.le_of_ble_eq_true rfl) ?_
  intro p e s m below meth c ls C hr hlk hnm hxt hl hP
  have hl : lv_has ls 6 [(0, .ref p0), (1, .int p1), (2, .int p2), (3, .int p3)] := hl
  generalize ([.ref p0, .int p1, .int p2, .int p3] : List Value).toArray = args
  have hx := C.1
  have hb := C.2.1
  unfold V_X11_plans at h
  refine lv_iload_n hx hb dX11_plans_0 rfl (lv_at hl 1 rfl) ?_
  refine q_calvX hxt hlk (q_runSX C hP (c_X11_needYear hst h) (cd_X11_needYear C.hA) (ini_X11 C.hA) (ml_X11_253 C.hA) (st_X11_needYear C.hA) hd_X11_needYear ⟨rfl, rfl⟩ ⟨Nat.le_of_ble_eq_true rfl, Nat.le_of_ble_eq_true rfl⟩ ⟨Nat.le_of_ble_eq_true rfl, Nat.le_of_ble_eq_true rfl⟩ hl.1 rfl (Nat.le_of_ble_eq_true rfl) dX11_plans_1) hP (Nat.le_of_ble_eq_true rfl) (Nat.le_of_ble_eq_true rfl) (fun u_1 H locs h hP => ?_)
  refine lv_iload_n hx hb dX11_plans_4 rfl (lv_at hl 2 rfl) ?_
  refine lv_bipush (v := (50 : Int32)) hx hb dX11_plans_5 (by decide) ?_
  refine lv_icmp_lt (tgt := 17) hx hb dX11_plans_7 (by decide) (fun c7 => ?_) (fun c7 => ?_)
  · have h := h.1 c7
    exact b_X11_plans_17 hst C hr hlk hxt h (lv_sub hl [] rfl) hP
  · have h := h.2 c7
    refine lv_iload_n hx hb dX11_plans_10 rfl (lv_at hl 2 rfl) ?_
    refine lv_sipush (v := (150 : Int32)) hx hb dX11_plans_11 (by decide) ?_
    refine lv_icmp_le (tgt := 28) hx hb dX11_plans_14 (by decide) (fun c14 => ?_) (fun c14 => ?_)
    · have h := h.1 c14
      refine lv_aload_n hx hb dX11_plans_28 rfl (lv_at hl 0 rfl) ?_
      obtain ⟨g1, h⟩ := h
      obtain ⟨g2, h⟩ := h
      refine q_getR C hP (k := 2) (lay_X11 C.hA) rfl (by decide) g1 g2 (fl_X11_26 C.hA) dX11_plans_29 ?_
      refine lv_iload_n hx hb dX11_plans_32 rfl (lv_at hl 1 rfl) ?_
      obtain ⟨g3, h⟩ := h
      refine q_cali (q_runVN C hP (c_X1_pickNamed h) (cd_X1_pickNamed C.hA) (ini_X1 C.hA) (mn_X11_256 C.hA) (im_X1_pickNamed C.hA) (sl_X1_pickNamed C.hA) g3 (by decide) rfl hd_X1_pickNamed ⟨rfl, rfl⟩ ⟨Nat.le_of_ble_eq_true rfl, Nat.le_of_ble_eq_true rfl⟩ ⟨Nat.le_of_ble_eq_true rfl, Nat.le_of_ble_eq_true rfl⟩ hl.1 rfl (Nat.le_of_ble_eq_true rfl) dX11_plans_33) hP (fun v_33 u_33 H locs h hP => ?_)
      refine lv_istore (lv' := [(4, .int v_33), (0, .ref p0), (1, .int p1), (2, .int p2), (3, .int p3)]) hx hb dX11_plans_36 hl (by decide) rfl (fun ls hl => ?_)
      refine lv_iload hx hb dX11_plans_38 (lv_at hl 0 rfl) ?_
      refine lv_if_ne (tgt := 54) hx hb dX11_plans_40 (by decide) (fun c40 => ?_) (fun c40 => ?_)
      · have h := h.2 c40
        refine lv_aload_n hx hb dX11_plans_54 rfl (lv_at hl 1 rfl) ?_
        obtain ⟨g4, h⟩ := h
        refine q_getR C hP (k := 8) (lay_X11 C.hA) rfl (by decide) g1 g4 (fl_X11_58 C.hA) dX11_plans_55 ?_
        refine lv_aload_n hx hb dX11_plans_58 rfl (lv_at hl 1 rfl) ?_
        obtain ⟨g5, h⟩ := h
        refine q_getR C hP (k := 2) (lay_X11 C.hA) rfl (by decide) g1 g5 (fl_X11_26 C.hA) dX11_plans_59 ?_
        refine lv_iload_n hx hb dX11_plans_62 rfl (lv_at hl 3 rfl) ?_
        obtain ⟨g6, h⟩ := h
        refine q_calv (q_runVN C hP (c_X5_prepare h) (cd_X5_prepare C.hA) (ini_X5 C.hA) (mn_X11_278 C.hA) (im_X5_prepare C.hA) (sl_X5_prepare C.hA) g6 (by decide) rfl hd_X5_prepare ⟨rfl, rfl⟩ ⟨Nat.le_of_ble_eq_true rfl, Nat.le_of_ble_eq_true rfl⟩ ⟨Nat.le_of_ble_eq_true rfl, Nat.le_of_ble_eq_true rfl⟩ hl.1 rfl (Nat.le_of_ble_eq_true rfl) dX11_plans_63) hP (fun u_63 H locs h hP => ?_)
        refine lv_aload_n hx hb dX11_plans_66 rfl (lv_at hl 1 rfl) ?_
        obtain ⟨g7, h⟩ := h
        refine q_getR C hP (k := 8) (lay_X11 C.hA) rfl (by decide) g1 g7 (fl_X11_58 C.hA) dX11_plans_67 ?_
        refine lv_aload_n hx hb dX11_plans_70 rfl (lv_at hl 1 rfl) ?_
        obtain ⟨g8, h⟩ := h
        refine q_getR C hP (k := 2) (lay_X11 C.hA) rfl (by decide) g1 g8 (fl_X11_26 C.hA) dX11_plans_71 ?_
        refine lv_iload_n hx hb dX11_plans_74 rfl (lv_at hl 4 rfl) ?_
        obtain ⟨g9, h⟩ := h
        refine q_cali (q_runVN C hP (c_X5_search h) (cd_X5_search C.hA) (ini_X5 C.hA) (mn_X11_282 C.hA) (im_X5_search C.hA) (sl_X5_search C.hA) g9 (by decide) rfl hd_X5_search ⟨rfl, rfl⟩ ⟨Nat.le_of_ble_eq_true rfl, Nat.le_of_ble_eq_true rfl⟩ ⟨Nat.le_of_ble_eq_true rfl, Nat.le_of_ble_eq_true rfl⟩ hl.1 rfl (Nat.le_of_ble_eq_true rfl) dX11_plans_75) hP (fun v_75 u_75 H locs h hP => ?_)
        refine lv_istore (lv' := [(5, .int v_75), (4, .int v_33), (0, .ref p0), (1, .int p1), (2, .int p2), (3, .int p3)]) hx hb dX11_plans_78 hl (by decide) rfl (fun ls hl => ?_)
        refine lv_iload_n hx hb dX11_plans_80 rfl (lv_at hl 5 rfl) ?_
        refine lv_iconst (v := (-1 : Int32)) hx hb dX11_plans_81 (by decide) ?_
        refine lv_icmp_eq (tgt := 102) hx hb dX11_plans_82 (by decide) (fun c82 => ?_) (fun c82 => ?_)
        · have h := h.1 c82
          refine lv_iload hx hb dX11_plans_102 (lv_at hl 0 rfl) ?_
          exact vx_ret (q_iret C hr hlk hP h (by decide) (by decide) dX11_plans_104)
        · have h := h.2 c82
          refine lv_iload hx hb dX11_plans_85 (lv_at hl 0 rfl) ?_
          refine lv_iconst (v := (-1 : Int32)) hx hb dX11_plans_87 (by decide) ?_
          refine lv_icmp_ne (tgt := 102) hx hb dX11_plans_88 (by decide) (fun c88 => ?_) (fun c88 => ?_)
          · have h := h.2 c88
            refine lv_iload hx hb dX11_plans_102 (lv_at hl 0 rfl) ?_
            exact vx_ret (q_iret C hr hlk hP h (by decide) (by decide) dX11_plans_104)
          · have h := h.1 c88
            exact q_thrNW C hst hxt hlk hP 25 (by decide) rfl rfl (by decide) (cl_X11_115 C.hA) (ini_java_util_NoSuchElementException C.hA) (thN C.hA) thN_g hl.1 h dX11_plans_91 dX11_plans_94 dX11_plans_95 dX11_plans_98 dX11_plans_101 ⟨Nat.le_of_ble_eq_true rfl, Nat.le_of_ble_eq_true rfl, Nat.le_of_ble_eq_true rfl, Nat.le_of_ble_eq_true rfl⟩ (Nat.le_of_ble_eq_true rfl) (Nat.le_of_ble_eq_true rfl)
      · have h := h.1 c40
        exact q_throwW C hst hxt hlk hP 24 (by decide) rfl rfl (by decide) (cl_X11_88 C.hA) (ini_java_lang_IllegalArgumentException C.hA) (thI C.hA) thI_g hl.1 h dX11_plans_43 dX11_plans_46 dX11_plans_47 dX11_plans_50 dX11_plans_53 ⟨Nat.le_of_ble_eq_true rfl, Nat.le_of_ble_eq_true rfl, Nat.le_of_ble_eq_true rfl, Nat.le_of_ble_eq_true rfl⟩ (Nat.le_of_ble_eq_true rfl) (Nat.le_of_ble_eq_true rfl)
    · have h := h.2 c14
      exact b_X11_plans_17 hst C hr hlk hxt h (lv_sub hl [] rfl) hP
-- X11_spot
abbrev rm_X11_spot : Room := { frames := 1, cells := 0, slots := 0, locals := 21 }
theorem hd_X11_spot : yX11_spot.cls ≠ "java/lang/invoke/MethodHandle" ∧ yX11_spot.cls ≠ "java/lang/invoke/VarHandle" ∧ (parseMethodDescriptor yX11_spot.desc).map (fun d => d.parameters.length) = some 2 := by decide +kernel
def V_X11_spot_20 (G : Gx) (Q : Int32 → Mm → Prop) (x0 : Nat) (u : Mm) : Prop :=
  kd G x0 = 11 ∧ (gR u x0 2) ≠ 0 ∧ kd G (gR u x0 2) = 1 ∧ (gR u (gR u x0 2) 5) ≠ 0 ∧ kd G (gR u (gR u x0 2) 5) = 13 ∧ vp_in (3 : Int32) (ln G (gR u (gR u x0 2) 5)) ∧ ∀ u_32 : Mm, u_32 = sI u (gR u (gR u x0 2) 5) (3 : Int32).toNatClampNeg ((gI u (gR u (gR u x0 2) 5) (3 : Int32).toNatClampNeg) + (1 : Int32)) → Q (-1 : Int32) u_32
def V_X11_spot (G : Gx) (p0 : Nat) (p1 : Int32) (p2 : Int32) (u : Mm) (Q : Int32 → Mm → Prop) : Prop :=
  V_X11_isPlace G p1 p2 u (fun (v_2 : Int32) (u_2 : Mm) => ((v_2 = 0 → V_X11_spot_20 G Q p0 u_2) ∧ (¬ v_2 = 0 → kd G p0 = 11 ∧ (gR u_2 p0 2) ≠ 0 ∧ kd G (gR u_2 p0 2) = 1 ∧ (((gI u_2 (gR u_2 p0 2) 4) < (8 : Int32) → ∀ x3_42 : Int32, x3_42 = (gI u_2 (gR u_2 p0 2) 4) → (gR u_2 (gR u_2 p0 2) 2) ≠ 0 ∧ kd G (gR u_2 (gR u_2 p0 2) 2) = 13 ∧ vp_in x3_42 (ln G (gR u_2 (gR u_2 p0 2) 2)) ∧ ∀ u_52 : Mm, u_52 = sI u_2 (gR u_2 (gR u_2 p0 2) 2) x3_42.toNatClampNeg p1 → (gR u_52 p0 2) ≠ 0 ∧ kd G (gR u_52 p0 2) = 1 ∧ (gR u_52 (gR u_52 p0 2) 3) ≠ 0 ∧ kd G (gR u_52 (gR u_52 p0 2) 3) = 13 ∧ vp_in x3_42 (ln G (gR u_52 (gR u_52 p0 2) 3)) ∧ ∀ u_62 : Mm, u_62 = sI u_52 (gR u_52 (gR u_52 p0 2) 3) x3_42.toNatClampNeg p2 → (gR u_62 p0 2) ≠ 0 ∧ kd G (gR u_62 p0 2) = 1 ∧ ∀ u_73 : Mm, u_73 = sI u_62 (gR u_62 p0 2) 4 ((gI u_62 (gR u_62 p0 2) 4) + (1 : Int32)) → Q x3_42 u_73) ∧ (¬ (gI u_2 (gR u_2 p0 2) 4) < (8 : Int32) → V_X11_spot_20 G Q p0 u_2)))))
set_option maxHeartbeats 4000000 in
set_option maxRecDepth 100000 in
theorem b_X11_spot_20 {G : Gx} {Q : Int32 → Mm → Prop} {p : Program} {l : Launch} {e : Env} {s : State} {m : MethodId} {args : Array Value} {below : List Frame} {meth : Method} {c : Code} (C : Cx G p s m c cX11_spot RX11 4) (hr : meth.sig.returnType = (some .int)) (hlk : meth.locks = false) {x0 : Nat} {u : Mm} {H : Heap} {locs : List Loc} {ls : Array Slot} (h : V_X11_spot_20 G Q x0 u) (hl : lv_has ls 4 [(0, .ref x0)]) (hP : Hp G u s H locs) : W p l e rm_X11_spot s m args below meth c H locs 0 0 (MQ below (Ei G Q) args s 0 0 (ag G)) (F0 m 20 ls []) := by
  have hx := C.1
  have hb := C.2.1
  unfold V_X11_spot_20 at h
  refine lv_aload_n hx hb dX11_spot_20 rfl (lv_at hl 0 rfl) ?_
  obtain ⟨g1, h⟩ := h
  obtain ⟨g2, h⟩ := h
  refine q_getR C hP (k := 2) (lay_X11 C.hA) rfl (by decide) g1 g2 (fl_X11_26 C.hA) dX11_spot_21 ?_
  obtain ⟨g3, h⟩ := h
  obtain ⟨g4, h⟩ := h
  refine q_getRN C hP (k := 5) (lay_X1 C.hA) rfl (by decide) g3 g4 (fn_X11_99 C.hA) dX11_spot_24 ?_
  refine lv_iconst (v := (3 : Int32)) hx hb dX11_spot_27 (by decide) ?_
  refine lv_dup2_11 hx hb dX11_spot_28 rfl rfl ?_
  obtain ⟨g5, h⟩ := h
  obtain ⟨g6, h⟩ := h
  refine q_iald C hP g5 g6 dX11_spot_29 ?_
  refine lv_iconst (v := (1 : Int32)) hx hb dX11_spot_30 (by decide) ?_
  refine lv_iadd hx hb dX11_spot_31 ?_
  refine q_iast C hP g5 g6 dX11_spot_32 (fun H locs hP => ?_)
  obtain ⟨u_32, eu_32, hP⟩ := Hp.nm hP
  have h := h u_32 eu_32
  refine lv_iconst (v := (-1 : Int32)) hx hb dX11_spot_33 (by decide) ?_
  exact q_iret C hr hlk hP h (by decide) (by decide) dX11_spot_34
set_option maxHeartbeats 4000000 in
set_option maxRecDepth 100000 in
theorem c_X11_spot {l : Launch} {G : Gx} {p0 : Nat} {p1 : Int32} {p2 : Int32} {u : Mm} {Q : Int32 → Mm → Prop} (h : V_X11_spot G p0 p1 p2 u Q) : Met l yX11_spot [.code yX11_spot cX11_spot 4 (some .int)] rm_X11_spot (va_Pc [.ref p0, .int p1, .int p2] (Wd G u)) (Ei G Q) 0 0 (ag G) := by
  refine q_met (by decide) (Nat.le_of_ble_eq_true rfl) ?_
  intro p e s m below meth c ls C hr hlk hnm hl hP
  have hl : lv_has ls 4 [(0, .ref p0), (1, .int p1), (2, .int p2)] := hl
  generalize ([.ref p0, .int p1, .int p2] : List Value).toArray = args
  have hx := C.1
  have hb := C.2.1
  unfold V_X11_spot at h
  refine lv_iload_n hx hb dX11_spot_0 rfl (lv_at hl 1 rfl) ?_
  refine lv_iload_n hx hb dX11_spot_1 rfl (lv_at hl 2 rfl) ?_
  refine q_cali (q_runS C hP (c_X11_isPlace h) (cd_X11_isPlace C.hA) (ini_X11 C.hA) (ml_X11_166 C.hA) (st_X11_isPlace C.hA) hd_X11_isPlace ⟨rfl, rfl⟩ ⟨Nat.le_of_ble_eq_true rfl, Nat.le_of_ble_eq_true rfl⟩ ⟨Nat.le_of_ble_eq_true rfl, Nat.le_of_ble_eq_true rfl⟩ hl.1 rfl (Nat.le_of_ble_eq_true rfl) dX11_spot_2) hP (fun v_2 u_2 H locs h hP => ?_)
  refine lv_if_eq (tgt := 20) hx hb dX11_spot_5 (by decide) (fun c5 => ?_) (fun c5 => ?_)
  · have h := h.1 c5
    exact b_X11_spot_20 C hr hlk h (lv_sub hl [0] rfl) hP
  · have h := h.2 c5
    refine lv_aload_n hx hb dX11_spot_8 rfl (lv_at hl 0 rfl) ?_
    obtain ⟨g1, h⟩ := h
    obtain ⟨g2, h⟩ := h
    refine q_getR C hP (k := 2) (lay_X11 C.hA) rfl (by decide) g1 g2 (fl_X11_26 C.hA) dX11_spot_9 ?_
    obtain ⟨g3, h⟩ := h
    refine q_getIN C hP (k := 4) (lay_X1 C.hA) rfl (by decide) g3 (fn_X11_112 C.hA) dX11_spot_12 ?_
    refine lv_bipush (v := (8 : Int32)) hx hb dX11_spot_15 (by decide) ?_
    refine lv_icmp_lt (tgt := 35) hx hb dX11_spot_17 (by decide) (fun c17 => ?_) (fun c17 => ?_)
    · have h := h.1 c17
      refine lv_aload_n hx hb dX11_spot_35 rfl (lv_at hl 0 rfl) ?_
      refine q_getR C hP (k := 2) (lay_X11 C.hA) rfl (by decide) g1 g2 (fl_X11_26 C.hA) dX11_spot_36 ?_
      refine q_getIN C hP (k := 4) (lay_X1 C.hA) rfl (by decide) g3 (fn_X11_112 C.hA) dX11_spot_39 ?_
      refine lv_topi (fun x3_42 ex3_42 => ?_)
      have h := h x3_42 ex3_42
      refine lv_istore_n (lv' := [(3, .int x3_42), (0, .ref p0), (1, .int p1), (2, .int p2)]) hx hb dX11_spot_42 rfl hl (by decide) rfl (fun ls hl => ?_)
      refine lv_aload_n hx hb dX11_spot_43 rfl (lv_at hl 1 rfl) ?_
      refine q_getR C hP (k := 2) (lay_X11 C.hA) rfl (by decide) g1 g2 (fl_X11_26 C.hA) dX11_spot_44 ?_
      obtain ⟨g4, h⟩ := h
      refine q_getRN C hP (k := 2) (lay_X1 C.hA) rfl (by decide) g3 g4 (fn_X11_288 C.hA) dX11_spot_47 ?_
      refine lv_iload_n hx hb dX11_spot_50 rfl (lv_at hl 0 rfl) ?_
      refine lv_iload_n hx hb dX11_spot_51 rfl (lv_at hl 2 rfl) ?_
      obtain ⟨g5, h⟩ := h
      obtain ⟨g6, h⟩ := h
      refine q_iast C hP g5 g6 dX11_spot_52 (fun H locs hP => ?_)
      obtain ⟨u_52, eu_52, hP⟩ := Hp.nm hP
      have h := h u_52 eu_52
      refine lv_aload_n hx hb dX11_spot_53 rfl (lv_at hl 1 rfl) ?_
      obtain ⟨g7, h⟩ := h
      refine q_getR C hP (k := 2) (lay_X11 C.hA) rfl (by decide) g1 g7 (fl_X11_26 C.hA) dX11_spot_54 ?_
      obtain ⟨g8, h⟩ := h
      obtain ⟨g9, h⟩ := h
      refine q_getRN C hP (k := 3) (lay_X1 C.hA) rfl (by decide) g8 g9 (fn_X11_291 C.hA) dX11_spot_57 ?_
      refine lv_iload_n hx hb dX11_spot_60 rfl (lv_at hl 0 rfl) ?_
      refine lv_iload_n hx hb dX11_spot_61 rfl (lv_at hl 3 rfl) ?_
      obtain ⟨g10, h⟩ := h
      obtain ⟨g11, h⟩ := h
      refine q_iast C hP g10 g11 dX11_spot_62 (fun H locs hP => ?_)
      obtain ⟨u_62, eu_62, hP⟩ := Hp.nm hP
      have h := h u_62 eu_62
      refine lv_aload_n hx hb dX11_spot_63 rfl (lv_at hl 1 rfl) ?_
      obtain ⟨g12, h⟩ := h
      refine q_getR C hP (k := 2) (lay_X11 C.hA) rfl (by decide) g1 g12 (fl_X11_26 C.hA) dX11_spot_64 ?_
      refine lv_dup hx hb dX11_spot_67 rfl ?_
      obtain ⟨g13, h⟩ := h
      refine q_getIN C hP (k := 4) (lay_X1 C.hA) rfl (by decide) g13 (fn_X11_112 C.hA) dX11_spot_68 ?_
      refine lv_iconst (v := (1 : Int32)) hx hb dX11_spot_71 (by decide) ?_
      refine lv_iadd hx hb dX11_spot_72 ?_
      refine q_putIN C hP (k := 4) tyX1_ok nmX1 (lay_X1 C.hA) rfl (by decide) rfl rfl rfl rfl g13 (fn_X11_112 C.hA) dX11_spot_73 (fun H locs hP => ?_)
      obtain ⟨u_73, eu_73, hP⟩ := Hp.nm hP
      have h := h u_73 eu_73
      refine lv_iload_n hx hb dX11_spot_76 rfl (lv_at hl 0 rfl) ?_
      exact q_iret C hr hlk hP h (by decide) (by decide) dX11_spot_77
    · have h := h.2 c17
      exact b_X11_spot_20 C hr hlk h (lv_sub hl [0] rfl) hP
-- X11_next
abbrev rm_X11_next : Room := { frames := 7, cells := 3, slots := 18, locals := 124 }
theorem hd_X11_next : yX11_next.cls ≠ "java/lang/invoke/MethodHandle" ∧ yX11_next.cls ≠ "java/lang/invoke/VarHandle" ∧ (parseMethodDescriptor yX11_next.desc).map (fun d => d.parameters.length) = some 4 := by decide +kernel
def V_X11_next_69_B (G : Gx) (Q : Int32 → Mm → Prop) (X : String → Mm → Prop) (k_54 : Nat → Int32 → Int32 → Int32 → Int32 → Int32 → Mm → Prop) (k_69 : Nat → Int32 → Int32 → Int32 → Int32 → Int32 → Int32 → Mm → Prop) (x0 : Nat) (x1 : Int32) (x2 : Int32) (x3 : Int32) (x4 : Int32) (x5 : Int32) (x6 : Int32) (u : Mm) : Prop :=
  (((6 : Int32) ≤ x6 → kd G x0 = 11 ∧ (gR u x0 9) ≠ 0 ∧ kd G (gR u x0 9) = 2 ∧ V_X2_compareRows G (gR u x0 9) x5 u (fun (u_157 : Mm) => ∀ x5_160 : Int32, x5_160 = x5 + (1 : Int32) → k_54 x0 x1 x2 x3 x4 x5_160 u_157)) ∧ (¬ (6 : Int32) ≤ x6 → kd G x0 = 11 ∧ (gR u x0 1) ≠ 0 ∧ kd G (gR u x0 1) = 16 ∧ vp_in x6 (ln G (gR u x0 1)) ∧ (gR u (gR u x0 1) x6.toNatClampNeg) ≠ 0 ∧ ∀ x7_83 : Nat, x7_83 = (gR u (gR u x0 1) x6.toNatClampNeg) → (gR u x0 5) ≠ 0 ∧ (gR u x0 2) ≠ 0 ∧ kd G (gR u x0 2) = 1 ∧ (gR u (gR u x0 2) 2) ≠ 0 ∧ kd G (gR u (gR u x0 2) 2) = 13 ∧ vp_in x5 (ln G (gR u (gR u x0 2) 2)) ∧ (gR u (gR u x0 2) 3) ≠ 0 ∧ kd G (gR u (gR u x0 2) 3) = 13 ∧ vp_in x5 (ln G (gR u (gR u x0 2) 3)) ∧ kd G (gR u x0 5) = 6 ∧ V_X6_look G (gR u x0 5) x7_83 (gI u (gR u (gR u x0 2) 2) x5.toNatClampNeg) (gI u (gR u (gR u x0 2) 3) x5.toNatClampNeg) x2 x3 u (fun (u_113 : Mm) => (gR u_113 x0 7) ≠ 0 ∧ (gR u_113 x0 5) ≠ 0 ∧ kd G (gR u_113 x0 7) = 3 ∧ V_X3_gather G (gR u_113 x0 7) (gR u_113 x0 5) x7_83 (0 : Int32) u_113 (fun (u_127 : Mm) => (gR u_127 x0 9) ≠ 0 ∧ (gR u_127 x0 7) ≠ 0 ∧ kd G (gR u_127 x0 9) = 2 ∧ V_X2_keepRow G (gR u_127 x0 9) x6 (gR u_127 x0 7) x7_83 u_127 (fun (u_142 : Mm) => ∀ x6_145 : Int32, x6_145 = x6 + (1 : Int32) → k_69 x0 x1 x2 x3 x4 x5 x6_145 u_142)))))
def V_X11_next_69 (G : Gx) (Q : Int32 → Mm → Prop) (X : String → Mm → Prop) (k_54 : Nat → Int32 → Int32 → Int32 → Int32 → Int32 → Mm → Prop) : Nat → (Nat → Int32 → Int32 → Int32 → Int32 → Int32 → Int32 → Mm → Prop)
  | 0 => fun _ _ _ _ _ _ _ _ => False
  | n + 1 => fun x0 x1 x2 x3 x4 x5 x6 u => V_X11_next_69_B G Q X k_54 (V_X11_next_69 G Q X k_54 n) x0 x1 x2 x3 x4 x5 x6 u
def V_X11_next_54_B (G : Gx) (Q : Int32 → Mm → Prop) (X : String → Mm → Prop) (k_54 : Nat → Int32 → Int32 → Int32 → Int32 → Int32 → Mm → Prop) (x0 : Nat) (x1 : Int32) (x2 : Int32) (x3 : Int32) (x4 : Int32) (x5 : Int32) (u : Mm) : Prop :=
  kd G x0 = 11 ∧ (gR u x0 2) ≠ 0 ∧ kd G (gR u x0 2) = 1 ∧ (((gI u (gR u x0 2) 4) ≤ x5 → (gR u x0 9) ≠ 0 ∧ kd G (gR u x0 9) = 2 ∧ V_X2_choose G (gR u x0 9) (gI u (gR u x0 2) 4) x1 u (fun (u_178 : Mm) => ((x4 = 0 → (gR u_178 x0 9) ≠ 0 ∧ kd G (gR u_178 x0 9) = 2 ∧ (gR u_178 (gR u_178 x0 9) 3) ≠ 0 ∧ kd G (gR u_178 (gR u_178 x0 9) 3) = 13 ∧ vp_in x1 (ln G (gR u_178 (gR u_178 x0 9) 3)) ∧ Q (gI u_178 (gR u_178 (gR u_178 x0 9) 3) x1.toNatClampNeg) u_178) ∧ (¬ x4 = 0 → (gR u_178 x0 9) ≠ 0 ∧ kd G (gR u_178 x0 9) = 2 ∧ (gR u_178 (gR u_178 x0 9) 4) ≠ 0 ∧ kd G (gR u_178 (gR u_178 x0 9) 4) = 13 ∧ vp_in x1 (ln G (gR u_178 (gR u_178 x0 9) 4)) ∧ Q (gI u_178 (gR u_178 (gR u_178 x0 9) 4) x1.toNatClampNeg) u_178)))) ∧ (¬ (gI u (gR u x0 2) 4) ≤ x5 → ∃ n : Nat, V_X11_next_69 G Q X k_54 n x0 x1 x2 x3 x4 x5 (0 : Int32) u))
def V_X11_next_54 (G : Gx) (Q : Int32 → Mm → Prop) (X : String → Mm → Prop) : Nat → (Nat → Int32 → Int32 → Int32 → Int32 → Int32 → Mm → Prop)
  | 0 => fun _ _ _ _ _ _ _ => False
  | n + 1 => fun x0 x1 x2 x3 x4 x5 u => V_X11_next_54_B G Q X (V_X11_next_54 G Q X n) x0 x1 x2 x3 x4 x5 u
def V_X11_next_40 (G : Gx) (Q : Int32 → Mm → Prop) (X : String → Mm → Prop) (u : Mm) : Prop :=
  X "java/lang/IllegalArgumentException" u
def V_X11_next_30 (G : Gx) (Q : Int32 → Mm → Prop) (X : String → Mm → Prop) (x0 : Nat) (x1 : Int32) (x2 : Int32) (x3 : Int32) (x4 : Int32) (u : Mm) : Prop :=
  ((x1 < 0 → V_X11_next_40 G Q X  u) ∧ (¬ x1 < 0 → ((x1 < (64 : Int32) → ∃ n : Nat, V_X11_next_54 G Q X n x0 x1 x2 x3 x4 (0 : Int32) u) ∧ (¬ x1 < (64 : Int32) → V_X11_next_40 G Q X  u))))
def V_X11_next (G : Gx) (p0 : Nat) (p1 : Int32) (p2 : Int32) (p3 : Int32) (p4 : Int32) (u : Mm) (Q : Int32 → Mm → Prop) (X : String → Mm → Prop) : Prop :=
  V_X11_needYear G p2 u (fun (u_1 : Mm) => V_X11_needTone G p3 u_1 (fun (u_5 : Mm) => ((p4 = 0 → V_X11_next_30 G Q X p0 p1 p2 p3 p4 u_5) ∧ (¬ p4 = 0 → ((p4 = (1 : Int32) → V_X11_next_30 G Q X p0 p1 p2 p3 p4 u_5) ∧ (¬ p4 = (1 : Int32) → X "java/util/NoSuchElementException" u_5))))) X) X
set_option maxHeartbeats 4000000 in
set_option maxRecDepth 100000 in
theorem b_X11_next_69 {G : Gx} {Q : Int32 → Mm → Prop} {X : String → Mm → Prop} {p : Program} {l : Launch} {e : Env} {s : State} {m : MethodId} {args : Array Value} {below : List Frame} {meth : Method} {c : Code} (hst : l.stackTraces = false) (C : Cx G p s m c cX11_next RX11 8) (hr : meth.sig.returnType = (some .int)) (hlk : meth.locks = false) (hxt : ∀ x ∈ c.exceptionTable.toList, False) {k_54 : Nat → Int32 → Int32 → Int32 → Int32 → Int32 → Mm → Prop} (hk_54 : ∀ (x0 : Nat) (x1 : Int32) (x2 : Int32) (x3 : Int32) (x4 : Int32) (x5 : Int32) (u : Mm) (H : Heap) (locs : List Loc) (ls : Array Slot), k_54 x0 x1 x2 x3 x4 x5 u → lv_has ls 8 [(0, .ref x0), (1, .int x1), (2, .int x2), (3, .int x3), (4, .int x4), (5, .int x5)] → Hp G u s H locs → W p l e rm_X11_next s m args below meth c H locs 2 12 (vx_MQ below (Ei G Q) (Xe G X) args s 3 18 (ag G)) (F0 m 54 ls [])) {k_69 : Nat → Int32 → Int32 → Int32 → Int32 → Int32 → Int32 → Mm → Prop} (hk_69 : ∀ (x0 : Nat) (x1 : Int32) (x2 : Int32) (x3 : Int32) (x4 : Int32) (x5 : Int32) (x6 : Int32) (u : Mm) (H : Heap) (locs : List Loc) (ls : Array Slot), k_69 x0 x1 x2 x3 x4 x5 x6 u → lv_has ls 8 [(0, .ref x0), (1, .int x1), (2, .int x2), (3, .int x3), (4, .int x4), (5, .int x5), (6, .int x6)] → Hp G u s H locs → W p l e rm_X11_next s m args below meth c H locs 2 12 (vx_MQ below (Ei G Q) (Xe G X) args s 3 18 (ag G)) (F0 m 69 ls [])) {x0 : Nat} {x1 : Int32} {x2 : Int32} {x3 : Int32} {x4 : Int32} {x5 : Int32} {x6 : Int32} {u : Mm} {H : Heap} {locs : List Loc} {ls : Array Slot} (h : V_X11_next_69_B G Q X k_54 k_69 x0 x1 x2 x3 x4 x5 x6 u) (hl : lv_has ls 8 [(0, .ref x0), (1, .int x1), (2, .int x2), (3, .int x3), (4, .int x4), (5, .int x5), (6, .int x6)]) (hP : Hp G u s H locs) : W p l e rm_X11_next s m args below meth c H locs 2 12 (vx_MQ below (Ei G Q) (Xe G X) args s 3 18 (ag G)) (F0 m 69 ls []) := by
  have hx := C.1
  have hb := C.2.1
  unfold V_X11_next_69_B at h
  refine lv_iload hx hb dX11_next_69 (lv_at hl 6 rfl) ?_
  refine lv_bipush (v := (6 : Int32)) hx hb dX11_next_71 (by decide) ?_
  refine lv_icmp_ge (tgt := 151) hx hb dX11_next_73 (by decide) (fun c73 => ?_) (fun c73 => ?_)
  · have h := h.1 c73
    refine lv_aload_n hx hb dX11_next_151 rfl (lv_at hl 0 rfl) ?_
    obtain ⟨g1, h⟩ := h
    obtain ⟨g2, h⟩ := h
    refine q_getR C hP (k := 9) (lay_X11 C.hA) rfl (by decide) g1 g2 (fl_X11_65 C.hA) dX11_next_152 ?_
    refine lv_iload hx hb dX11_next_155 (lv_at hl 5 rfl) ?_
    obtain ⟨g3, h⟩ := h
    refine q_calv (q_runVN C hP (c_X2_compareRows h) (cd_X2_compareRows C.hA) (ini_X2 C.hA) (mn_X11_305 C.hA) (im_X2_compareRows C.hA) (sl_X2_compareRows C.hA) g3 (by decide) rfl hd_X2_compareRows ⟨rfl, rfl⟩ ⟨Nat.le_of_ble_eq_true rfl, Nat.le_of_ble_eq_true rfl⟩ ⟨Nat.le_of_ble_eq_true rfl, Nat.le_of_ble_eq_true rfl⟩ hl.1 rfl (Nat.le_of_ble_eq_true rfl) dX11_next_157) hP (fun u_157 H locs h hP => ?_)
    obtain ⟨x5_160, ex5_160⟩ : ∃ y : Int32, y = x5 + (1 : Int32) := ⟨_, rfl⟩
    have h := h x5_160 ex5_160
    refine lv_iinc (v := x5_160) (lv' := [(5, .int x5_160), (0, .ref x0), (1, .int x1), (2, .int x2), (3, .int x3), (4, .int x4), (6, .int x6)]) hx hb dX11_next_160 hl (k := 5) rfl (by rw [ex5_160]; rfl) (by decide) rfl (fun ls hl => ?_)
    refine lv_goto (tgt := 54) hx hb dX11_next_163 (by decide) ?_
    exact hk_54 x0 x1 x2 x3 x4 x5_160 u_157 _ _ _ h (lv_sub hl [1, 2, 3, 4, 5, 0] rfl) hP
  · have h := h.2 c73
    refine lv_aload_n hx hb dX11_next_76 rfl (lv_at hl 0 rfl) ?_
    obtain ⟨g4, h⟩ := h
    obtain ⟨g5, h⟩ := h
    refine q_getR C hP (k := 1) (lay_X11 C.hA) rfl (by decide) g4 g5 (fl_X11_18 C.hA) dX11_next_77 ?_
    refine lv_iload hx hb dX11_next_80 (lv_at hl 6 rfl) ?_
    obtain ⟨g6, h⟩ := h
    obtain ⟨g7, h⟩ := h
    obtain ⟨g8, h⟩ := h
    refine q_aald C hP g6 (by decide) rfl g7 g8 dX11_next_82 ?_
    refine q_topr (fun x7_83 ex7_83 => ?_)
    have h := h x7_83 ex7_83
    refine lv_astore (lv' := [(7, .ref x7_83), (0, .ref x0), (1, .int x1), (2, .int x2), (3, .int x3), (4, .int x4), (5, .int x5), (6, .int x6)]) hx hb dX11_next_83 hl (by decide) rfl (fun ls hl => ?_)
    refine lv_aload_n hx hb dX11_next_85 rfl (lv_at hl 1 rfl) ?_
    obtain ⟨g9, h⟩ := h
    refine q_getR C hP (k := 5) (lay_X11 C.hA) rfl (by decide) g4 g9 (fl_X11_40 C.hA) dX11_next_86 ?_
    refine lv_aload hx hb dX11_next_89 (lv_at hl 0 rfl) ?_
    refine lv_aload_n hx hb dX11_next_91 rfl (lv_at hl 1 rfl) ?_
    obtain ⟨g10, h⟩ := h
    refine q_getR C hP (k := 2) (lay_X11 C.hA) rfl (by decide) g4 g10 (fl_X11_26 C.hA) dX11_next_92 ?_
    obtain ⟨g11, h⟩ := h
    obtain ⟨g12, h⟩ := h
    refine q_getRN C hP (k := 2) (lay_X1 C.hA) rfl (by decide) g11 g12 (fn_X11_288 C.hA) dX11_next_95 ?_
    refine lv_iload hx hb dX11_next_98 (lv_at hl 6 rfl) ?_
    obtain ⟨g13, h⟩ := h
    obtain ⟨g14, h⟩ := h
    refine q_iald C hP g13 g14 dX11_next_100 ?_
    refine lv_aload_n hx hb dX11_next_101 rfl (lv_at hl 1 rfl) ?_
    refine q_getR C hP (k := 2) (lay_X11 C.hA) rfl (by decide) g4 g10 (fl_X11_26 C.hA) dX11_next_102 ?_
    obtain ⟨g15, h⟩ := h
    refine q_getRN C hP (k := 3) (lay_X1 C.hA) rfl (by decide) g11 g15 (fn_X11_291 C.hA) dX11_next_105 ?_
    refine lv_iload hx hb dX11_next_108 (lv_at hl 6 rfl) ?_
    obtain ⟨g16, h⟩ := h
    obtain ⟨g17, h⟩ := h
    refine q_iald C hP g16 g17 dX11_next_110 ?_
    refine lv_iload_n hx hb dX11_next_111 rfl (lv_at hl 3 rfl) ?_
    refine lv_iload_n hx hb dX11_next_112 rfl (lv_at hl 4 rfl) ?_
    obtain ⟨g18, h⟩ := h
    refine q_calv (q_runVN C hP (c_X6_look h) (cd_X6_look C.hA) (ini_X6 C.hA) (mn_X11_141 C.hA) (im_X6_look C.hA) (sl_X6_look C.hA) g18 (by decide) rfl hd_X6_look ⟨rfl, rfl⟩ ⟨Nat.le_of_ble_eq_true rfl, Nat.le_of_ble_eq_true rfl⟩ ⟨Nat.le_of_ble_eq_true rfl, Nat.le_of_ble_eq_true rfl⟩ hl.1 rfl (Nat.le_of_ble_eq_true rfl) dX11_next_113) hP (fun u_113 H locs h hP => ?_)
    refine lv_aload_n hx hb dX11_next_116 rfl (lv_at hl 1 rfl) ?_
    obtain ⟨g19, h⟩ := h
    refine q_getR C hP (k := 7) (lay_X11 C.hA) rfl (by decide) g4 g19 (fl_X11_51 C.hA) dX11_next_117 ?_
    refine lv_aload_n hx hb dX11_next_120 rfl (lv_at hl 1 rfl) ?_
    obtain ⟨g20, h⟩ := h
    refine q_getR C hP (k := 5) (lay_X11 C.hA) rfl (by decide) g4 g20 (fl_X11_40 C.hA) dX11_next_121 ?_
    refine lv_aload hx hb dX11_next_124 (lv_at hl 0 rfl) ?_
    refine lv_iconst (v := (0 : Int32)) hx hb dX11_next_126 (by decide) ?_
    obtain ⟨g21, h⟩ := h
    refine q_calv (q_runVN C hP (c_X3_gather h) (cd_X3_gather C.hA) (ini_X3 C.hA) (mn_X11_145 C.hA) (im_X3_gather C.hA) (sl_X3_gather C.hA) g21 (by decide) rfl hd_X3_gather ⟨rfl, rfl⟩ ⟨Nat.le_of_ble_eq_true rfl, Nat.le_of_ble_eq_true rfl⟩ ⟨Nat.le_of_ble_eq_true rfl, Nat.le_of_ble_eq_true rfl⟩ hl.1 rfl (Nat.le_of_ble_eq_true rfl) dX11_next_127) hP (fun u_127 H locs h hP => ?_)
    refine lv_aload_n hx hb dX11_next_130 rfl (lv_at hl 1 rfl) ?_
    obtain ⟨g22, h⟩ := h
    refine q_getR C hP (k := 9) (lay_X11 C.hA) rfl (by decide) g4 g22 (fl_X11_65 C.hA) dX11_next_131 ?_
    refine lv_iload hx hb dX11_next_134 (lv_at hl 7 rfl) ?_
    refine lv_aload_n hx hb dX11_next_136 rfl (lv_at hl 1 rfl) ?_
    obtain ⟨g23, h⟩ := h
    refine q_getR C hP (k := 7) (lay_X11 C.hA) rfl (by decide) g4 g23 (fl_X11_51 C.hA) dX11_next_137 ?_
    refine lv_aload hx hb dX11_next_140 (lv_at hl 0 rfl) ?_
    obtain ⟨g24, h⟩ := h
    refine q_calv (q_runVN C hP (c_X2_keepRow h) (cd_X2_keepRow C.hA) (ini_X2 C.hA) (mn_X11_301 C.hA) (im_X2_keepRow C.hA) (sl_X2_keepRow C.hA) g24 (by decide) rfl hd_X2_keepRow ⟨rfl, rfl⟩ ⟨Nat.le_of_ble_eq_true rfl, Nat.le_of_ble_eq_true rfl⟩ ⟨Nat.le_of_ble_eq_true rfl, Nat.le_of_ble_eq_true rfl⟩ hl.1 rfl (Nat.le_of_ble_eq_true rfl) dX11_next_142) hP (fun u_142 H locs h hP => ?_)
    obtain ⟨x6_145, ex6_145⟩ : ∃ y : Int32, y = x6 + (1 : Int32) := ⟨_, rfl⟩
    have h := h x6_145 ex6_145
    refine lv_iinc (v := x6_145) (lv' := [(6, .int x6_145), (7, .ref x7_83), (0, .ref x0), (1, .int x1), (2, .int x2), (3, .int x3), (4, .int x4), (5, .int x5)]) hx hb dX11_next_145 hl (k := 7) rfl (by rw [ex6_145]; rfl) (by decide) rfl (fun ls hl => ?_)
    refine lv_goto (tgt := 69) hx hb dX11_next_148 (by decide) ?_
    exact hk_69 x0 x1 x2 x3 x4 x5 x6_145 u_142 _ _ _ h (lv_sub hl [2, 3, 4, 5, 6, 7, 0] rfl) hP
theorem l_X11_next_69 {G : Gx} {Q : Int32 → Mm → Prop} {X : String → Mm → Prop} {p : Program} {l : Launch} {e : Env} {s : State} {m : MethodId} {args : Array Value} {below : List Frame} {meth : Method} {c : Code} (hst : l.stackTraces = false) (C : Cx G p s m c cX11_next RX11 8) (hr : meth.sig.returnType = (some .int)) (hlk : meth.locks = false) (hxt : ∀ x ∈ c.exceptionTable.toList, False) {k_54 : Nat → Int32 → Int32 → Int32 → Int32 → Int32 → Mm → Prop} (hk_54 : ∀ (x0 : Nat) (x1 : Int32) (x2 : Int32) (x3 : Int32) (x4 : Int32) (x5 : Int32) (u : Mm) (H : Heap) (locs : List Loc) (ls : Array Slot), k_54 x0 x1 x2 x3 x4 x5 u → lv_has ls 8 [(0, .ref x0), (1, .int x1), (2, .int x2), (3, .int x3), (4, .int x4), (5, .int x5)] → Hp G u s H locs → W p l e rm_X11_next s m args below meth c H locs 2 12 (vx_MQ below (Ei G Q) (Xe G X) args s 3 18 (ag G)) (F0 m 54 ls [])) : ∀ (n : Nat) (x0 : Nat) (x1 : Int32) (x2 : Int32) (x3 : Int32) (x4 : Int32) (x5 : Int32) (x6 : Int32) (u : Mm) (H : Heap) (locs : List Loc) (ls : Array Slot), V_X11_next_69 G Q X k_54 n x0 x1 x2 x3 x4 x5 x6 u → lv_has ls 8 [(0, .ref x0), (1, .int x1), (2, .int x2), (3, .int x3), (4, .int x4), (5, .int x5), (6, .int x6)] → Hp G u s H locs → W p l e rm_X11_next s m args below meth c H locs 2 12 (vx_MQ below (Ei G Q) (Xe G X) args s 3 18 (ag G)) (F0 m 69 ls []) := by
  intro n
  induction n with
  | zero => intro x0 x1 x2 x3 x4 x5 x6 u H locs ls h; exact h.elim
  | succ n ih => intro x0 x1 x2 x3 x4 x5 x6 u H locs ls h hl hP; exact b_X11_next_69 hst C hr hlk hxt hk_54 ih h hl hP
set_option maxHeartbeats 4000000 in
set_option maxRecDepth 100000 in
theorem b_X11_next_54 {G : Gx} {Q : Int32 → Mm → Prop} {X : String → Mm → Prop} {p : Program} {l : Launch} {e : Env} {s : State} {m : MethodId} {args : Array Value} {below : List Frame} {meth : Method} {c : Code} (hst : l.stackTraces = false) (C : Cx G p s m c cX11_next RX11 8) (hr : meth.sig.returnType = (some .int)) (hlk : meth.locks = false) (hxt : ∀ x ∈ c.exceptionTable.toList, False) {k_54 : Nat → Int32 → Int32 → Int32 → Int32 → Int32 → Mm → Prop} (hk_54 : ∀ (x0 : Nat) (x1 : Int32) (x2 : Int32) (x3 : Int32) (x4 : Int32) (x5 : Int32) (u : Mm) (H : Heap) (locs : List Loc) (ls : Array Slot), k_54 x0 x1 x2 x3 x4 x5 u → lv_has ls 8 [(0, .ref x0), (1, .int x1), (2, .int x2), (3, .int x3), (4, .int x4), (5, .int x5)] → Hp G u s H locs → W p l e rm_X11_next s m args below meth c H locs 2 12 (vx_MQ below (Ei G Q) (Xe G X) args s 3 18 (ag G)) (F0 m 54 ls [])) {x0 : Nat} {x1 : Int32} {x2 : Int32} {x3 : Int32} {x4 : Int32} {x5 : Int32} {u : Mm} {H : Heap} {locs : List Loc} {ls : Array Slot} (h : V_X11_next_54_B G Q X k_54 x0 x1 x2 x3 x4 x5 u) (hl : lv_has ls 8 [(0, .ref x0), (1, .int x1), (2, .int x2), (3, .int x3), (4, .int x4), (5, .int x5)]) (hP : Hp G u s H locs) : W p l e rm_X11_next s m args below meth c H locs 2 12 (vx_MQ below (Ei G Q) (Xe G X) args s 3 18 (ag G)) (F0 m 54 ls []) := by
  have hx := C.1
  have hb := C.2.1
  unfold V_X11_next_54_B at h
  refine lv_iload hx hb dX11_next_54 (lv_at hl 5 rfl) ?_
  refine lv_aload_n hx hb dX11_next_56 rfl (lv_at hl 0 rfl) ?_
  obtain ⟨g1, h⟩ := h
  obtain ⟨g2, h⟩ := h
  refine q_getR C hP (k := 2) (lay_X11 C.hA) rfl (by decide) g1 g2 (fl_X11_26 C.hA) dX11_next_57 ?_
  obtain ⟨g3, h⟩ := h
  refine q_getIN C hP (k := 4) (lay_X1 C.hA) rfl (by decide) g3 (fn_X11_112 C.hA) dX11_next_60 ?_
  refine lv_icmp_ge (tgt := 166) hx hb dX11_next_63 (by decide) (fun c63 => ?_) (fun c63 => ?_)
  · have h := h.1 c63
    refine lv_aload_n hx hb dX11_next_166 rfl (lv_at hl 0 rfl) ?_
    obtain ⟨g4, h⟩ := h
    refine q_getR C hP (k := 9) (lay_X11 C.hA) rfl (by decide) g1 g4 (fl_X11_65 C.hA) dX11_next_167 ?_
    refine lv_aload_n hx hb dX11_next_170 rfl (lv_at hl 0 rfl) ?_
    refine q_getR C hP (k := 2) (lay_X11 C.hA) rfl (by decide) g1 g2 (fl_X11_26 C.hA) dX11_next_171 ?_
    refine q_getIN C hP (k := 4) (lay_X1 C.hA) rfl (by decide) g3 (fn_X11_112 C.hA) dX11_next_174 ?_
    refine lv_iload_n hx hb dX11_next_177 rfl (lv_at hl 1 rfl) ?_
    obtain ⟨g5, h⟩ := h
    refine q_calv (q_runVN C hP (c_X2_choose h) (cd_X2_choose C.hA) (ini_X2 C.hA) (mn_X11_308 C.hA) (im_X2_choose C.hA) (sl_X2_choose C.hA) g5 (by decide) rfl hd_X2_choose ⟨rfl, rfl⟩ ⟨Nat.le_of_ble_eq_true rfl, Nat.le_of_ble_eq_true rfl⟩ ⟨Nat.le_of_ble_eq_true rfl, Nat.le_of_ble_eq_true rfl⟩ hl.1 rfl (Nat.le_of_ble_eq_true rfl) dX11_next_178) hP (fun u_178 H locs h hP => ?_)
    refine lv_iload hx hb dX11_next_181 (lv_at hl 4 rfl) ?_
    refine lv_if_ne (tgt := 198) hx hb dX11_next_183 (by decide) (fun c183 => ?_) (fun c183 => ?_)
    · have h := h.2 c183
      refine lv_aload_n hx hb dX11_next_198 rfl (lv_at hl 0 rfl) ?_
      obtain ⟨g6, h⟩ := h
      refine q_getR C hP (k := 9) (lay_X11 C.hA) rfl (by decide) g1 g6 (fl_X11_65 C.hA) dX11_next_199 ?_
      obtain ⟨g7, h⟩ := h
      obtain ⟨g8, h⟩ := h
      refine q_getRN C hP (k := 4) (lay_X2 C.hA) rfl (by decide) g7 g8 (fn_X11_315 C.hA) dX11_next_202 ?_
      refine lv_iload_n hx hb dX11_next_205 rfl (lv_at hl 1 rfl) ?_
      obtain ⟨g9, h⟩ := h
      obtain ⟨g10, h⟩ := h
      refine q_iald C hP g9 g10 dX11_next_206 ?_
      exact vx_ret (q_iret C hr hlk hP h (by decide) (by decide) dX11_next_207)
    · have h := h.1 c183
      refine lv_aload_n hx hb dX11_next_186 rfl (lv_at hl 0 rfl) ?_
      obtain ⟨g11, h⟩ := h
      refine q_getR C hP (k := 9) (lay_X11 C.hA) rfl (by decide) g1 g11 (fl_X11_65 C.hA) dX11_next_187 ?_
      obtain ⟨g12, h⟩ := h
      obtain ⟨g13, h⟩ := h
      refine q_getRN C hP (k := 3) (lay_X2 C.hA) rfl (by decide) g12 g13 (fn_X11_312 C.hA) dX11_next_190 ?_
      refine lv_iload_n hx hb dX11_next_193 rfl (lv_at hl 1 rfl) ?_
      obtain ⟨g14, h⟩ := h
      obtain ⟨g15, h⟩ := h
      refine q_iald C hP g14 g15 dX11_next_194 ?_
      refine lv_goto (tgt := 207) hx hb dX11_next_195 (by decide) ?_
      exact vx_ret (q_iret C hr hlk hP h (by decide) (by decide) dX11_next_207)
  · have h := h.2 c63
    refine lv_iconst (v := (0 : Int32)) hx hb dX11_next_66 (by decide) ?_
    refine lv_istore (lv' := [(6, .int (0 : Int32)), (0, .ref x0), (1, .int x1), (2, .int x2), (3, .int x3), (4, .int x4), (5, .int x5)]) hx hb dX11_next_67 hl (by decide) rfl (fun ls hl => ?_)
    obtain ⟨n, h⟩ := h
    exact l_X11_next_69 hst C hr hlk hxt hk_54 n x0 x1 x2 x3 x4 x5 (0 : Int32) u _ _ _ h (lv_sub hl [1, 2, 3, 4, 5, 6, 0] rfl) hP
theorem l_X11_next_54 {G : Gx} {Q : Int32 → Mm → Prop} {X : String → Mm → Prop} {p : Program} {l : Launch} {e : Env} {s : State} {m : MethodId} {args : Array Value} {below : List Frame} {meth : Method} {c : Code} (hst : l.stackTraces = false) (C : Cx G p s m c cX11_next RX11 8) (hr : meth.sig.returnType = (some .int)) (hlk : meth.locks = false) (hxt : ∀ x ∈ c.exceptionTable.toList, False) : ∀ (n : Nat) (x0 : Nat) (x1 : Int32) (x2 : Int32) (x3 : Int32) (x4 : Int32) (x5 : Int32) (u : Mm) (H : Heap) (locs : List Loc) (ls : Array Slot), V_X11_next_54 G Q X n x0 x1 x2 x3 x4 x5 u → lv_has ls 8 [(0, .ref x0), (1, .int x1), (2, .int x2), (3, .int x3), (4, .int x4), (5, .int x5)] → Hp G u s H locs → W p l e rm_X11_next s m args below meth c H locs 2 12 (vx_MQ below (Ei G Q) (Xe G X) args s 3 18 (ag G)) (F0 m 54 ls []) := by
  intro n
  induction n with
  | zero => intro x0 x1 x2 x3 x4 x5 u H locs ls h; exact h.elim
  | succ n ih => intro x0 x1 x2 x3 x4 x5 u H locs ls h hl hP; exact b_X11_next_54 hst C hr hlk hxt ih h hl hP
set_option maxHeartbeats 4000000 in
set_option maxRecDepth 100000 in
theorem b_X11_next_40 {G : Gx} {Q : Int32 → Mm → Prop} {X : String → Mm → Prop} {p : Program} {l : Launch} {e : Env} {s : State} {m : MethodId} {args : Array Value} {below : List Frame} {meth : Method} {c : Code} (hst : l.stackTraces = false) (C : Cx G p s m c cX11_next RX11 8) (hr : meth.sig.returnType = (some .int)) (hlk : meth.locks = false) (hxt : ∀ x ∈ c.exceptionTable.toList, False) {u : Mm} {H : Heap} {locs : List Loc} {ls : Array Slot} (h : V_X11_next_40 G Q X  u) (hl : lv_has ls 8 []) (hP : Hp G u s H locs) : W p l e rm_X11_next s m args below meth c H locs 2 12 (vx_MQ below (Ei G Q) (Xe G X) args s 3 18 (ag G)) (F0 m 40 ls []) := by
  have hx := C.1
  have hb := C.2.1
  unfold V_X11_next_40 at h
  exact q_throwW C hst hxt hlk hP 27 (by decide) rfl rfl (by decide) (cl_X11_88 C.hA) (ini_java_lang_IllegalArgumentException C.hA) (thI C.hA) thI_g hl.1 h dX11_next_40 dX11_next_43 dX11_next_44 dX11_next_47 dX11_next_50 ⟨Nat.le_of_ble_eq_true rfl, Nat.le_of_ble_eq_true rfl, Nat.le_of_ble_eq_true rfl, Nat.le_of_ble_eq_true rfl⟩ (Nat.le_of_ble_eq_true rfl) (Nat.le_of_ble_eq_true rfl)
set_option maxHeartbeats 4000000 in
set_option maxRecDepth 100000 in
theorem b_X11_next_30 {G : Gx} {Q : Int32 → Mm → Prop} {X : String → Mm → Prop} {p : Program} {l : Launch} {e : Env} {s : State} {m : MethodId} {args : Array Value} {below : List Frame} {meth : Method} {c : Code} (hst : l.stackTraces = false) (C : Cx G p s m c cX11_next RX11 8) (hr : meth.sig.returnType = (some .int)) (hlk : meth.locks = false) (hxt : ∀ x ∈ c.exceptionTable.toList, False) {x0 : Nat} {x1 : Int32} {x2 : Int32} {x3 : Int32} {x4 : Int32} {u : Mm} {H : Heap} {locs : List Loc} {ls : Array Slot} (h : V_X11_next_30 G Q X x0 x1 x2 x3 x4 u) (hl : lv_has ls 8 [(0, .ref x0), (1, .int x1), (2, .int x2), (3, .int x3), (4, .int x4)]) (hP : Hp G u s H locs) : W p l e rm_X11_next s m args below meth c H locs 2 12 (vx_MQ below (Ei G Q) (Xe G X) args s 3 18 (ag G)) (F0 m 30 ls []) := by
  have hx := C.1
  have hb := C.2.1
  unfold V_X11_next_30 at h
  refine lv_iload_n hx hb dX11_next_30 rfl (lv_at hl 1 rfl) ?_
  refine lv_if_lt (tgt := 40) hx hb dX11_next_31 (by decide) (fun c31 => ?_) (fun c31 => ?_)
  · have h := h.1 c31
    exact b_X11_next_40 hst C hr hlk hxt h (lv_sub hl [] rfl) hP
  · have h := h.2 c31
    refine lv_iload_n hx hb dX11_next_34 rfl (lv_at hl 1 rfl) ?_
    refine lv_bipush (v := (64 : Int32)) hx hb dX11_next_35 (by decide) ?_
    refine lv_icmp_lt (tgt := 51) hx hb dX11_next_37 (by decide) (fun c37 => ?_) (fun c37 => ?_)
    · have h := h.1 c37
      refine lv_iconst (v := (0 : Int32)) hx hb dX11_next_51 (by decide) ?_
      refine lv_istore (lv' := [(5, .int (0 : Int32)), (0, .ref x0), (1, .int x1), (2, .int x2), (3, .int x3), (4, .int x4)]) hx hb dX11_next_52 hl (by decide) rfl (fun ls hl => ?_)
      obtain ⟨n, h⟩ := h
      exact l_X11_next_54 hst C hr hlk hxt n x0 x1 x2 x3 x4 (0 : Int32) u _ _ _ h (lv_sub hl [1, 2, 3, 4, 5, 0] rfl) hP
    · have h := h.2 c37
      exact b_X11_next_40 hst C hr hlk hxt h (lv_sub hl [] rfl) hP
set_option maxHeartbeats 4000000 in
set_option maxRecDepth 100000 in
theorem c_X11_next {l : Launch} (hst : l.stackTraces = false) {G : Gx} {p0 : Nat} {p1 : Int32} {p2 : Int32} {p3 : Int32} {p4 : Int32} {u : Mm} {Q : Int32 → Mm → Prop} {X : String → Mm → Prop} (h : V_X11_next G p0 p1 p2 p3 p4 u Q X) : vx_Met l yX11_next [.code yX11_next cX11_next 8 (some .int)] rm_X11_next (va_Pc [.ref p0, .int p1, .int p2, .int p3, .int p4] (Wd G u)) (Ei G Q) (Xe G X) 3 18 (ag G) := by
  refine q_metX (by decide) (Nat.le_of_ble_eq_true rfl) ?_
  intro p e s m below meth c ls C hr hlk hnm hxt hl hP
  have hl : lv_has ls 8 [(0, .ref p0), (1, .int p1), (2, .int p2), (3, .int p3), (4, .int p4)] := hl
  generalize ([.ref p0, .int p1, .int p2, .int p3, .int p4] : List Value).toArray = args
  have hx := C.1
  have hb := C.2.1
  unfold V_X11_next at h
  refine lv_iload_n hx hb dX11_next_0 rfl (lv_at hl 2 rfl) ?_
  refine q_calvX hxt hlk (q_runSX C hP (c_X11_needYear hst h) (cd_X11_needYear C.hA) (ini_X11 C.hA) (ml_X11_253 C.hA) (st_X11_needYear C.hA) hd_X11_needYear ⟨rfl, rfl⟩ ⟨Nat.le_of_ble_eq_true rfl, Nat.le_of_ble_eq_true rfl⟩ ⟨Nat.le_of_ble_eq_true rfl, Nat.le_of_ble_eq_true rfl⟩ hl.1 rfl (Nat.le_of_ble_eq_true rfl) dX11_next_1) hP (Nat.le_of_ble_eq_true rfl) (Nat.le_of_ble_eq_true rfl) (fun u_1 H locs h hP => ?_)
  refine lv_iload_n hx hb dX11_next_4 rfl (lv_at hl 3 rfl) ?_
  refine q_calvX hxt hlk (q_runSX C hP (c_X11_needTone hst h) (cd_X11_needTone C.hA) (ini_X11 C.hA) (ml_X11_294 C.hA) (st_X11_needTone C.hA) hd_X11_needTone ⟨rfl, rfl⟩ ⟨Nat.le_of_ble_eq_true rfl, Nat.le_of_ble_eq_true rfl⟩ ⟨Nat.le_of_ble_eq_true rfl, Nat.le_of_ble_eq_true rfl⟩ hl.1 rfl (Nat.le_of_ble_eq_true rfl) dX11_next_5) hP (Nat.le_of_ble_eq_true rfl) (Nat.le_of_ble_eq_true rfl) (fun u_5 H locs h hP => ?_)
  refine lv_iload hx hb dX11_next_8 (lv_at hl 4 rfl) ?_
  refine lv_if_eq (tgt := 30) hx hb dX11_next_10 (by decide) (fun c10 => ?_) (fun c10 => ?_)
  · have h := h.1 c10
    exact b_X11_next_30 hst C hr hlk hxt h (lv_sub hl [0, 1, 2, 3, 4] rfl) hP
  · have h := h.2 c10
    refine lv_iload hx hb dX11_next_13 (lv_at hl 4 rfl) ?_
    refine lv_iconst (v := (1 : Int32)) hx hb dX11_next_15 (by decide) ?_
    refine lv_icmp_eq (tgt := 30) hx hb dX11_next_16 (by decide) (fun c16 => ?_) (fun c16 => ?_)
    · have h := h.1 c16
      exact b_X11_next_30 hst C hr hlk hxt h (lv_sub hl [0, 1, 2, 3, 4] rfl) hP
    · have h := h.2 c16
      exact q_thrNW C hst hxt hlk hP 26 (by decide) rfl rfl (by decide) (cl_X11_115 C.hA) (ini_java_util_NoSuchElementException C.hA) (thN C.hA) thN_g hl.1 h dX11_next_19 dX11_next_22 dX11_next_23 dX11_next_26 dX11_next_29 ⟨Nat.le_of_ble_eq_true rfl, Nat.le_of_ble_eq_true rfl, Nat.le_of_ble_eq_true rfl, Nat.le_of_ble_eq_true rfl⟩ (Nat.le_of_ble_eq_true rfl) (Nat.le_of_ble_eq_true rfl)
-- X11_lookAsThief
abbrev rm_X11_lookAsThief : Room := { frames := 5, cells := 0, slots := 0, locals := 124 }
theorem hd_X11_lookAsThief : yX11_lookAsThief.cls ≠ "java/lang/invoke/MethodHandle" ∧ yX11_lookAsThief.cls ≠ "java/lang/invoke/VarHandle" ∧ (parseMethodDescriptor yX11_lookAsThief.desc).map (fun d => d.parameters.length) = some 3 := by decide +kernel
def V_X11_lookAsThief (G : Gx) (p0 : Nat) (p1 : Nat) (p2 : Int32) (p3 : Int32) (u : Mm) (Q : Mm → Prop) : Prop :=
  kd G p0 = 11 ∧ (gR u p0 5) ≠ 0 ∧ kd G (gR u p0 5) = 6 ∧ V_X6_look G (gR u p0 5) p1 p2 p3 (0 : Int32) (0 : Int32) u (fun (u_9 : Mm) => (gR u_9 p0 7) ≠ 0 ∧ (gR u_9 p0 5) ≠ 0 ∧ kd G (gR u_9 p0 7) = 3 ∧ V_X3_gather G (gR u_9 p0 7) (gR u_9 p0 5) p1 (0 : Int32) u_9 (fun (u_22 : Mm) => Q u_22))
set_option maxHeartbeats 4000000 in
set_option maxRecDepth 100000 in
theorem c_X11_lookAsThief {l : Launch} {G : Gx} {p0 : Nat} {p1 : Nat} {p2 : Int32} {p3 : Int32} {u : Mm} {Q : Mm → Prop} (h : V_X11_lookAsThief G p0 p1 p2 p3 u Q) : Met l yX11_lookAsThief [.code yX11_lookAsThief cX11_lookAsThief 4 none] rm_X11_lookAsThief (va_Pc [.ref p0, .ref p1, .int p2, .int p3] (Wd G u)) (Ev G Q) 0 0 (ag G) := by
  refine q_met (by decide) (Nat.le_of_ble_eq_true rfl) ?_
  intro p e s m below meth c ls C hr hlk hnm hl hP
  have hl : lv_has ls 4 [(0, .ref p0), (1, .ref p1), (2, .int p2), (3, .int p3)] := hl
  generalize ([.ref p0, .ref p1, .int p2, .int p3] : List Value).toArray = args
  have hx := C.1
  have hb := C.2.1
  unfold V_X11_lookAsThief at h
  refine lv_aload_n hx hb dX11_lookAsThief_0 rfl (lv_at hl 0 rfl) ?_
  obtain ⟨g1, h⟩ := h
  obtain ⟨g2, h⟩ := h
  refine q_getR C hP (k := 5) (lay_X11 C.hA) rfl (by decide) g1 g2 (fl_X11_40 C.hA) dX11_lookAsThief_1 ?_
  refine lv_aload_n hx hb dX11_lookAsThief_4 rfl (lv_at hl 1 rfl) ?_
  refine lv_iload_n hx hb dX11_lookAsThief_5 rfl (lv_at hl 2 rfl) ?_
  refine lv_iload_n hx hb dX11_lookAsThief_6 rfl (lv_at hl 3 rfl) ?_
  refine lv_iconst (v := (0 : Int32)) hx hb dX11_lookAsThief_7 (by decide) ?_
  refine lv_iconst (v := (0 : Int32)) hx hb dX11_lookAsThief_8 (by decide) ?_
  obtain ⟨g3, h⟩ := h
  refine q_calv (q_runVN C hP (c_X6_look h) (cd_X6_look C.hA) (ini_X6 C.hA) (mn_X11_141 C.hA) (im_X6_look C.hA) (sl_X6_look C.hA) g3 (by decide) rfl hd_X6_look ⟨rfl, rfl⟩ ⟨Nat.le_of_ble_eq_true rfl, Nat.le_of_ble_eq_true rfl⟩ ⟨Nat.le_of_ble_eq_true rfl, Nat.le_of_ble_eq_true rfl⟩ hl.1 rfl (Nat.le_of_ble_eq_true rfl) dX11_lookAsThief_9) hP (fun u_9 H locs h hP => ?_)
  refine lv_aload_n hx hb dX11_lookAsThief_12 rfl (lv_at hl 0 rfl) ?_
  obtain ⟨g4, h⟩ := h
  refine q_getR C hP (k := 7) (lay_X11 C.hA) rfl (by decide) g1 g4 (fl_X11_51 C.hA) dX11_lookAsThief_13 ?_
  refine lv_aload_n hx hb dX11_lookAsThief_16 rfl (lv_at hl 0 rfl) ?_
  obtain ⟨g5, h⟩ := h
  refine q_getR C hP (k := 5) (lay_X11 C.hA) rfl (by decide) g1 g5 (fl_X11_40 C.hA) dX11_lookAsThief_17 ?_
  refine lv_aload_n hx hb dX11_lookAsThief_20 rfl (lv_at hl 1 rfl) ?_
  refine lv_iconst (v := (0 : Int32)) hx hb dX11_lookAsThief_21 (by decide) ?_
  obtain ⟨g6, h⟩ := h
  refine q_calv (q_runVN C hP (c_X3_gather h) (cd_X3_gather C.hA) (ini_X3 C.hA) (mn_X11_145 C.hA) (im_X3_gather C.hA) (sl_X3_gather C.hA) g6 (by decide) rfl hd_X3_gather ⟨rfl, rfl⟩ ⟨Nat.le_of_ble_eq_true rfl, Nat.le_of_ble_eq_true rfl⟩ ⟨Nat.le_of_ble_eq_true rfl, Nat.le_of_ble_eq_true rfl⟩ hl.1 rfl (Nat.le_of_ble_eq_true rfl) dX11_lookAsThief_22) hP (fun u_22 H locs h hP => ?_)
  exact q_vret C hr hlk hP h (by decide) (by decide) dX11_lookAsThief_25
-- X11_knows
abbrev rm_X11_knows : Room := { frames := 7, cells := 3, slots := 18, locals := 147 }
theorem hd_X11_knows : yX11_knows.cls ≠ "java/lang/invoke/MethodHandle" ∧ yX11_knows.cls ≠ "java/lang/invoke/VarHandle" ∧ (parseMethodDescriptor yX11_knows.desc).map (fun d => d.parameters.length) = some 5 := by decide +kernel
def V_X11_knows_156 (G : Gx) (Q : Int32 → Mm → Prop) (X : String → Mm → Prop) (k_68 : Nat → Int32 → Int32 → Nat → Int32 → Int32 → Int32 → Mm → Prop) (x0 : Nat) (x4 : Int32) (x5 : Int32) (x6 : Nat) (x7 : Int32) (x8 : Int32) (x9 : Int32) (u : Mm) : Prop :=
  ∀ x9_156 : Int32, x9_156 = x9 + (1 : Int32) → k_68 x0 x4 x5 x6 x7 x8 x9_156 u
def V_X11_knows_153 (G : Gx) (Q : Int32 → Mm → Prop) (X : String → Mm → Prop) (k_68 : Nat → Int32 → Int32 → Nat → Int32 → Int32 → Int32 → Mm → Prop) (x0 : Nat) (x4 : Int32) (x5 : Int32) (x6 : Nat) (x7 : Int32) (x9 : Int32) (t0 : Int32) (t1 : Int32) (u : Mm) : Prop :=
  ∀ x8_154 : Int32, x8_154 = (t0 + t1) → V_X11_knows_156 G Q X k_68 x0 x4 x5 x6 x7 x8_154 x9 u
def V_X11_knows_68_B (G : Gx) (Q : Int32 → Mm → Prop) (X : String → Mm → Prop) (k_68 : Nat → Int32 → Int32 → Nat → Int32 → Int32 → Int32 → Mm → Prop) (x0 : Nat) (x4 : Int32) (x5 : Int32) (x6 : Nat) (x7 : Int32) (x8 : Int32) (x9 : Int32) (u : Mm) : Prop :=
  (((1681 : Int32) ≤ x9 → Q x8 u) ∧ (¬ (1681 : Int32) ≤ x9 → kd G x0 = 11 ∧ V_X11_lookAsThief G x0 x6 (irm x9 (41 : Int32)) (x9 / (41 : Int32)) u (fun (u_89 : Mm) => (gR u_89 x0 7) ≠ 0 ∧ kd G x6 = 4 ∧ kd G (gR u_89 x0 7) = 3 ∧ V_X3_countFirstHeard G (gR u_89 x0 7) (gI u_89 x6 6) u_89 (fun (v_101 : Int32) (u_101 : Mm) => ((v_101 = x7 → (gR u_101 x0 7) ≠ 0 ∧ (gR u_101 x0 5) ≠ 0 ∧ (gR u_101 x0 11) ≠ 0 ∧ kd G (gR u_101 x0 7) = 3 ∧ V_X3_orderForThief G (gR u_101 x0 7) (gR u_101 x0 5) x6 x4 x5 (gR u_101 x0 11) u_101 (fun (u_127 : Mm) => (gR u_127 x0 10) ≠ 0 ∧ (gR u_127 x0 11) ≠ 0 ∧ V_X11_sameStart G (gR u_127 x0 10) (gR u_127 x0 11) x7 u_127 (fun (v_142 : Int32) (u_142 : Mm) => ((v_142 = 0 → V_X11_knows_153 G Q X k_68 x0 x4 x5 x6 x7 x9 x8 (0 : Int32) u_142) ∧ (¬ v_142 = 0 → V_X11_knows_153 G Q X k_68 x0 x4 x5 x6 x7 x9 x8 (1 : Int32) u_142))))) ∧ (¬ v_101 = x7 → V_X11_knows_156 G Q X k_68 x0 x4 x5 x6 x7 x8 x9 u_101))))))
def V_X11_knows_68 (G : Gx) (Q : Int32 → Mm → Prop) (X : String → Mm → Prop) : Nat → (Nat → Int32 → Int32 → Nat → Int32 → Int32 → Int32 → Mm → Prop)
  | 0 => fun _ _ _ _ _ _ _ _ => False
  | n + 1 => fun x0 x4 x5 x6 x7 x8 x9 u => V_X11_knows_68_B G Q X (V_X11_knows_68 G Q X n) x0 x4 x5 x6 x7 x8 x9 u
def V_X11_knows (G : Gx) (p0 : Nat) (p1 : Int32) (p2 : Int32) (p3 : Int32) (p4 : Int32) (p5 : Int32) (u : Mm) (Q : Int32 → Mm → Prop) (X : String → Mm → Prop) : Prop :=
  kd G p0 = 11 ∧ V_X11_needLand G p0 p1 u (fun (v_2 : Nat) (u_2 : Mm) => V_X11_needPlace G p2 p3 u_2 (fun (u_9 : Mm) => V_X11_needPlace G p4 p5 u_9 (fun (u_16 : Mm) => V_X11_lookAsThief G p0 v_2 p2 p3 u_16 (fun (u_24 : Mm) => (gR u_24 p0 7) ≠ 0 ∧ kd G v_2 = 4 ∧ kd G (gR u_24 p0 7) = 3 ∧ V_X3_countFirstHeard G (gR u_24 p0 7) (gI u_24 v_2 6) u_24 (fun (v_36 : Int32) (u_36 : Mm) => (gR u_36 p0 7) ≠ 0 ∧ (gR u_36 p0 5) ≠ 0 ∧ (gR u_36 p0 10) ≠ 0 ∧ kd G (gR u_36 p0 7) = 3 ∧ V_X3_orderForThief G (gR u_36 p0 7) (gR u_36 p0 5) v_2 p4 p5 (gR u_36 p0 10) u_36 (fun (u_59 : Mm) => ∃ n : Nat, V_X11_knows_68 G Q X n p0 p4 p5 v_2 v_36 (0 : Int32) (0 : Int32) u_59)))) X) X) X
set_option maxHeartbeats 4000000 in
set_option maxRecDepth 100000 in
theorem b_X11_knows_156 {G : Gx} {Q : Int32 → Mm → Prop} {X : String → Mm → Prop} {p : Program} {l : Launch} {e : Env} {s : State} {m : MethodId} {args : Array Value} {below : List Frame} {meth : Method} {c : Code} (hst : l.stackTraces = false) (C : Cx G p s m c cX11_knows RX11 10) (hr : meth.sig.returnType = (some .int)) (hlk : meth.locks = false) (hxt : ∀ x ∈ c.exceptionTable.toList, False) {k_68 : Nat → Int32 → Int32 → Nat → Int32 → Int32 → Int32 → Mm → Prop} (hk_68 : ∀ (x0 : Nat) (x4 : Int32) (x5 : Int32) (x6 : Nat) (x7 : Int32) (x8 : Int32) (x9 : Int32) (u : Mm) (H : Heap) (locs : List Loc) (ls : Array Slot), k_68 x0 x4 x5 x6 x7 x8 x9 u → lv_has ls 10 [(0, .ref x0), (4, .int x4), (5, .int x5), (6, .ref x6), (7, .int x7), (8, .int x8), (9, .int x9)] → Hp G u s H locs → W p l e rm_X11_knows s m args below meth c H locs 3 18 (vx_MQ below (Ei G Q) (Xe G X) args s 3 18 (ag G)) (F0 m 68 ls [])) {x0 : Nat} {x4 : Int32} {x5 : Int32} {x6 : Nat} {x7 : Int32} {x8 : Int32} {x9 : Int32} {u : Mm} {H : Heap} {locs : List Loc} {ls : Array Slot} (h : V_X11_knows_156 G Q X k_68 x0 x4 x5 x6 x7 x8 x9 u) (hl : lv_has ls 10 [(0, .ref x0), (4, .int x4), (5, .int x5), (6, .ref x6), (7, .int x7), (8, .int x8), (9, .int x9)]) (hP : Hp G u s H locs) : W p l e rm_X11_knows s m args below meth c H locs 3 18 (vx_MQ below (Ei G Q) (Xe G X) args s 3 18 (ag G)) (F0 m 156 ls []) := by
  have hx := C.1
  have hb := C.2.1
  unfold V_X11_knows_156 at h
  obtain ⟨x9_156, ex9_156⟩ : ∃ y : Int32, y = x9 + (1 : Int32) := ⟨_, rfl⟩
  have h := h x9_156 ex9_156
  refine lv_iinc (v := x9_156) (lv' := [(9, .int x9_156), (0, .ref x0), (4, .int x4), (5, .int x5), (6, .ref x6), (7, .int x7), (8, .int x8)]) hx hb dX11_knows_156 hl (k := 6) rfl (by rw [ex9_156]; rfl) (by decide) rfl (fun ls hl => ?_)
  refine lv_goto (tgt := 68) hx hb dX11_knows_159 (by decide) ?_
  exact hk_68 x0 x4 x5 x6 x7 x8 x9_156 u _ _ _ h (lv_sub hl [1, 2, 3, 4, 5, 6, 0] rfl) hP
set_option maxHeartbeats 4000000 in
set_option maxRecDepth 100000 in
theorem b_X11_knows_153 {G : Gx} {Q : Int32 → Mm → Prop} {X : String → Mm → Prop} {p : Program} {l : Launch} {e : Env} {s : State} {m : MethodId} {args : Array Value} {below : List Frame} {meth : Method} {c : Code} (hst : l.stackTraces = false) (C : Cx G p s m c cX11_knows RX11 10) (hr : meth.sig.returnType = (some .int)) (hlk : meth.locks = false) (hxt : ∀ x ∈ c.exceptionTable.toList, False) {k_68 : Nat → Int32 → Int32 → Nat → Int32 → Int32 → Int32 → Mm → Prop} (hk_68 : ∀ (x0 : Nat) (x4 : Int32) (x5 : Int32) (x6 : Nat) (x7 : Int32) (x8 : Int32) (x9 : Int32) (u : Mm) (H : Heap) (locs : List Loc) (ls : Array Slot), k_68 x0 x4 x5 x6 x7 x8 x9 u → lv_has ls 10 [(0, .ref x0), (4, .int x4), (5, .int x5), (6, .ref x6), (7, .int x7), (8, .int x8), (9, .int x9)] → Hp G u s H locs → W p l e rm_X11_knows s m args below meth c H locs 3 18 (vx_MQ below (Ei G Q) (Xe G X) args s 3 18 (ag G)) (F0 m 68 ls [])) {x0 : Nat} {x4 : Int32} {x5 : Int32} {x6 : Nat} {x7 : Int32} {x9 : Int32} {t0 : Int32} {t1 : Int32} {u : Mm} {H : Heap} {locs : List Loc} {ls : Array Slot} (h : V_X11_knows_153 G Q X k_68 x0 x4 x5 x6 x7 x9 t0 t1 u) (hl : lv_has ls 10 [(0, .ref x0), (4, .int x4), (5, .int x5), (6, .ref x6), (7, .int x7), (9, .int x9)]) (hP : Hp G u s H locs) : W p l e rm_X11_knows s m args below meth c H locs 3 18 (vx_MQ below (Ei G Q) (Xe G X) args s 3 18 (ag G)) (F0 m 153 ls [.int t1, .int t0]) := by
  have hx := C.1
  have hb := C.2.1
  unfold V_X11_knows_153 at h
  refine lv_iadd hx hb dX11_knows_153 ?_
  refine lv_topi (fun x8_154 ex8_154 => ?_)
  have h := h x8_154 ex8_154
  refine lv_istore (lv' := [(8, .int x8_154), (0, .ref x0), (4, .int x4), (5, .int x5), (6, .ref x6), (7, .int x7), (9, .int x9)]) hx hb dX11_knows_154 hl (by decide) rfl (fun ls hl => ?_)
  exact b_X11_knows_156 hst C hr hlk hxt hk_68 h (lv_sub hl [1, 2, 3, 4, 5, 0, 6] rfl) hP
set_option maxHeartbeats 4000000 in
set_option maxRecDepth 100000 in
theorem b_X11_knows_68 {G : Gx} {Q : Int32 → Mm → Prop} {X : String → Mm → Prop} {p : Program} {l : Launch} {e : Env} {s : State} {m : MethodId} {args : Array Value} {below : List Frame} {meth : Method} {c : Code} (hst : l.stackTraces = false) (C : Cx G p s m c cX11_knows RX11 10) (hr : meth.sig.returnType = (some .int)) (hlk : meth.locks = false) (hxt : ∀ x ∈ c.exceptionTable.toList, False) {k_68 : Nat → Int32 → Int32 → Nat → Int32 → Int32 → Int32 → Mm → Prop} (hk_68 : ∀ (x0 : Nat) (x4 : Int32) (x5 : Int32) (x6 : Nat) (x7 : Int32) (x8 : Int32) (x9 : Int32) (u : Mm) (H : Heap) (locs : List Loc) (ls : Array Slot), k_68 x0 x4 x5 x6 x7 x8 x9 u → lv_has ls 10 [(0, .ref x0), (4, .int x4), (5, .int x5), (6, .ref x6), (7, .int x7), (8, .int x8), (9, .int x9)] → Hp G u s H locs → W p l e rm_X11_knows s m args below meth c H locs 3 18 (vx_MQ below (Ei G Q) (Xe G X) args s 3 18 (ag G)) (F0 m 68 ls [])) {x0 : Nat} {x4 : Int32} {x5 : Int32} {x6 : Nat} {x7 : Int32} {x8 : Int32} {x9 : Int32} {u : Mm} {H : Heap} {locs : List Loc} {ls : Array Slot} (h : V_X11_knows_68_B G Q X k_68 x0 x4 x5 x6 x7 x8 x9 u) (hl : lv_has ls 10 [(0, .ref x0), (4, .int x4), (5, .int x5), (6, .ref x6), (7, .int x7), (8, .int x8), (9, .int x9)]) (hP : Hp G u s H locs) : W p l e rm_X11_knows s m args below meth c H locs 3 18 (vx_MQ below (Ei G Q) (Xe G X) args s 3 18 (ag G)) (F0 m 68 ls []) := by
  have hx := C.1
  have hb := C.2.1
  unfold V_X11_knows_68_B at h
  refine lv_iload hx hb dX11_knows_68 (lv_at hl 6 rfl) ?_
  refine lv_sipush (v := (1681 : Int32)) hx hb dX11_knows_70 (by decide) ?_
  refine lv_icmp_ge (tgt := 162) hx hb dX11_knows_73 (by decide) (fun c73 => ?_) (fun c73 => ?_)
  · have h := h.1 c73
    refine lv_iload hx hb dX11_knows_162 (lv_at hl 5 rfl) ?_
    exact vx_ret (q_iret C hr hlk hP h (by decide) (by decide) dX11_knows_164)
  · have h := h.2 c73
    refine lv_aload_n hx hb dX11_knows_76 rfl (lv_at hl 0 rfl) ?_
    refine lv_aload hx hb dX11_knows_77 (lv_at hl 3 rfl) ?_
    refine lv_iload hx hb dX11_knows_79 (lv_at hl 6 rfl) ?_
    refine lv_bipush (v := (41 : Int32)) hx hb dX11_knows_81 (by decide) ?_
    refine lv_irem hx hb dX11_knows_83 (by decide) ?_
    refine lv_iload hx hb dX11_knows_84 (lv_at hl 6 rfl) ?_
    refine lv_bipush (v := (41 : Int32)) hx hb dX11_knows_86 (by decide) ?_
    refine lv_idiv hx hb dX11_knows_88 (by decide) ?_
    obtain ⟨g1, h⟩ := h
    refine q_calv (q_runV C hP (c_X11_lookAsThief h) (cd_X11_lookAsThief C.hA) (ini_X11 C.hA) (ml_X11_321 C.hA) (im_X11_lookAsThief C.hA) (sl_X11_lookAsThief C.hA) g1 (by decide) rfl hd_X11_lookAsThief ⟨rfl, rfl⟩ ⟨Nat.le_of_ble_eq_true rfl, Nat.le_of_ble_eq_true rfl⟩ ⟨Nat.le_of_ble_eq_true rfl, Nat.le_of_ble_eq_true rfl⟩ hl.1 rfl (Nat.le_of_ble_eq_true rfl) dX11_knows_89) hP (fun u_89 H locs h hP => ?_)
    refine lv_aload_n hx hb dX11_knows_92 rfl (lv_at hl 0 rfl) ?_
    obtain ⟨g2, h⟩ := h
    refine q_getR C hP (k := 7) (lay_X11 C.hA) rfl (by decide) g1 g2 (fl_X11_51 C.hA) dX11_knows_93 ?_
    refine lv_aload hx hb dX11_knows_96 (lv_at hl 3 rfl) ?_
    obtain ⟨g3, h⟩ := h
    refine q_getIN C hP (k := 6) (lay_X4 C.hA) rfl (by decide) g3 (fn_X11_129 C.hA) dX11_knows_98 ?_
    obtain ⟨g4, h⟩ := h
    refine q_cali (q_runVN C hP (c_X3_countFirstHeard h) (cd_X3_countFirstHeard C.hA) (ini_X3 C.hA) (mn_X11_325 C.hA) (im_X3_countFirstHeard C.hA) (sl_X3_countFirstHeard C.hA) g4 (by decide) rfl hd_X3_countFirstHeard ⟨rfl, rfl⟩ ⟨Nat.le_of_ble_eq_true rfl, Nat.le_of_ble_eq_true rfl⟩ ⟨Nat.le_of_ble_eq_true rfl, Nat.le_of_ble_eq_true rfl⟩ hl.1 rfl (Nat.le_of_ble_eq_true rfl) dX11_knows_101) hP (fun v_101 u_101 H locs h hP => ?_)
    refine lv_iload hx hb dX11_knows_104 (lv_at hl 4 rfl) ?_
    refine lv_icmp_ne (tgt := 156) hx hb dX11_knows_106 (by decide) (fun c106 => ?_) (fun c106 => ?_)
    · have h := h.2 c106
      exact b_X11_knows_156 hst C hr hlk hxt hk_68 h (lv_sub hl [0, 1, 2, 3, 4, 5, 6] rfl) hP
    · have h := h.1 c106
      refine lv_aload_n hx hb dX11_knows_109 rfl (lv_at hl 0 rfl) ?_
      obtain ⟨g5, h⟩ := h
      refine q_getR C hP (k := 7) (lay_X11 C.hA) rfl (by decide) g1 g5 (fl_X11_51 C.hA) dX11_knows_110 ?_
      refine lv_aload_n hx hb dX11_knows_113 rfl (lv_at hl 0 rfl) ?_
      obtain ⟨g6, h⟩ := h
      refine q_getR C hP (k := 5) (lay_X11 C.hA) rfl (by decide) g1 g6 (fl_X11_40 C.hA) dX11_knows_114 ?_
      refine lv_aload hx hb dX11_knows_117 (lv_at hl 3 rfl) ?_
      refine lv_iload hx hb dX11_knows_119 (lv_at hl 1 rfl) ?_
      refine lv_iload hx hb dX11_knows_121 (lv_at hl 2 rfl) ?_
      refine lv_aload_n hx hb dX11_knows_123 rfl (lv_at hl 0 rfl) ?_
      obtain ⟨g7, h⟩ := h
      refine q_getR C hP (k := 11) (lay_X11 C.hA) rfl (by decide) g1 g7 (fl_X11_73 C.hA) dX11_knows_124 ?_
      obtain ⟨g8, h⟩ := h
      refine q_calv (q_runVN C hP (c_X3_orderForThief h) (cd_X3_orderForThief C.hA) (ini_X3 C.hA) (mn_X11_328 C.hA) (im_X3_orderForThief C.hA) (sl_X3_orderForThief C.hA) g8 (by decide) rfl hd_X3_orderForThief ⟨rfl, rfl⟩ ⟨Nat.le_of_ble_eq_true rfl, Nat.le_of_ble_eq_true rfl⟩ ⟨Nat.le_of_ble_eq_true rfl, Nat.le_of_ble_eq_true rfl⟩ hl.1 rfl (Nat.le_of_ble_eq_true rfl) dX11_knows_127) hP (fun u_127 H locs h hP => ?_)
      refine lv_iload hx hb dX11_knows_130 (lv_at hl 5 rfl) ?_
      refine lv_aload_n hx hb dX11_knows_132 rfl (lv_at hl 0 rfl) ?_
      obtain ⟨g9, h⟩ := h
      refine q_getR C hP (k := 10) (lay_X11 C.hA) rfl (by decide) g1 g9 (fl_X11_69 C.hA) dX11_knows_133 ?_
      refine lv_aload_n hx hb dX11_knows_136 rfl (lv_at hl 0 rfl) ?_
      obtain ⟨g10, h⟩ := h
      refine q_getR C hP (k := 11) (lay_X11 C.hA) rfl (by decide) g1 g10 (fl_X11_73 C.hA) dX11_knows_137 ?_
      refine lv_iload hx hb dX11_knows_140 (lv_at hl 4 rfl) ?_
      refine q_cali (q_runS C hP (c_X11_sameStart h) (cd_X11_sameStart C.hA) (ini_X11 C.hA) (ml_X11_332 C.hA) (st_X11_sameStart C.hA) hd_X11_sameStart ⟨rfl, rfl⟩ ⟨Nat.le_of_ble_eq_true rfl, Nat.le_of_ble_eq_true rfl⟩ ⟨Nat.le_of_ble_eq_true rfl, Nat.le_of_ble_eq_true rfl⟩ hl.1 rfl (Nat.le_of_ble_eq_true rfl) dX11_knows_142) hP (fun v_142 u_142 H locs h hP => ?_)
      refine lv_if_eq (tgt := 152) hx hb dX11_knows_145 (by decide) (fun c145 => ?_) (fun c145 => ?_)
      · have h := h.1 c145
        refine lv_iconst (v := (0 : Int32)) hx hb dX11_knows_152 (by decide) ?_
        exact b_X11_knows_153 hst C hr hlk hxt hk_68 h (lv_sub hl [0, 1, 2, 3, 4, 6] rfl) hP
      · have h := h.2 c145
        refine lv_iconst (v := (1 : Int32)) hx hb dX11_knows_148 (by decide) ?_
        refine lv_goto (tgt := 153) hx hb dX11_knows_149 (by decide) ?_
        exact b_X11_knows_153 hst C hr hlk hxt hk_68 h (lv_sub hl [0, 1, 2, 3, 4, 6] rfl) hP
theorem l_X11_knows_68 {G : Gx} {Q : Int32 → Mm → Prop} {X : String → Mm → Prop} {p : Program} {l : Launch} {e : Env} {s : State} {m : MethodId} {args : Array Value} {below : List Frame} {meth : Method} {c : Code} (hst : l.stackTraces = false) (C : Cx G p s m c cX11_knows RX11 10) (hr : meth.sig.returnType = (some .int)) (hlk : meth.locks = false) (hxt : ∀ x ∈ c.exceptionTable.toList, False) : ∀ (n : Nat) (x0 : Nat) (x4 : Int32) (x5 : Int32) (x6 : Nat) (x7 : Int32) (x8 : Int32) (x9 : Int32) (u : Mm) (H : Heap) (locs : List Loc) (ls : Array Slot), V_X11_knows_68 G Q X n x0 x4 x5 x6 x7 x8 x9 u → lv_has ls 10 [(0, .ref x0), (4, .int x4), (5, .int x5), (6, .ref x6), (7, .int x7), (8, .int x8), (9, .int x9)] → Hp G u s H locs → W p l e rm_X11_knows s m args below meth c H locs 3 18 (vx_MQ below (Ei G Q) (Xe G X) args s 3 18 (ag G)) (F0 m 68 ls []) := by
  intro n
  induction n with
  | zero => intro x0 x4 x5 x6 x7 x8 x9 u H locs ls h; exact h.elim
  | succ n ih => intro x0 x4 x5 x6 x7 x8 x9 u H locs ls h hl hP; exact b_X11_knows_68 hst C hr hlk hxt ih h hl hP
set_option maxHeartbeats 4000000 in
set_option maxRecDepth 100000 in
theorem c_X11_knows {l : Launch} (hst : l.stackTraces = false) {G : Gx} {p0 : Nat} {p1 : Int32} {p2 : Int32} {p3 : Int32} {p4 : Int32} {p5 : Int32} {u : Mm} {Q : Int32 → Mm → Prop} {X : String → Mm → Prop} (h : V_X11_knows G p0 p1 p2 p3 p4 p5 u Q X) : vx_Met l yX11_knows [.code yX11_knows cX11_knows 10 (some .int)] rm_X11_knows (va_Pc [.ref p0, .int p1, .int p2, .int p3, .int p4, .int p5] (Wd G u)) (Ei G Q) (Xe G X) 3 18 (ag G) := by
  refine q_metX (by decide) (Nat.le_of_ble_eq_true rfl) ?_
  intro p e s m below meth c ls C hr hlk hnm hxt hl hP
  have hl : lv_has ls 10 [(0, .ref p0), (1, .int p1), (2, .int p2), (3, .int p3), (4, .int p4), (5, .int p5)] := hl
  generalize ([.ref p0, .int p1, .int p2, .int p3, .int p4, .int p5] : List Value).toArray = args
  have hx := C.1
  have hb := C.2.1
  unfold V_X11_knows at h
  refine lv_aload_n hx hb dX11_knows_0 rfl (lv_at hl 0 rfl) ?_
  refine lv_iload_n hx hb dX11_knows_1 rfl (lv_at hl 1 rfl) ?_
  obtain ⟨g1, h⟩ := h
  refine q_calrX hxt hlk (q_runVX C hP (c_X11_needLand hst h) (cd_X11_needLand C.hA) (ini_X11 C.hA) (ml_X11_84 C.hA) (im_X11_needLand C.hA) (sl_X11_needLand C.hA) g1 (by decide) rfl hd_X11_needLand ⟨rfl, rfl⟩ ⟨Nat.le_of_ble_eq_true rfl, Nat.le_of_ble_eq_true rfl⟩ ⟨Nat.le_of_ble_eq_true rfl, Nat.le_of_ble_eq_true rfl⟩ hl.1 rfl (Nat.le_of_ble_eq_true rfl) dX11_knows_2) hP (Nat.le_of_ble_eq_true rfl) (Nat.le_of_ble_eq_true rfl) (fun v_2 u_2 H locs h hP => ?_)
  refine lv_astore (lv' := [(6, .ref v_2), (0, .ref p0), (1, .int p1), (2, .int p2), (3, .int p3), (4, .int p4), (5, .int p5)]) hx hb dX11_knows_5 hl (by decide) rfl (fun ls hl => ?_)
  refine lv_iload_n hx hb dX11_knows_7 rfl (lv_at hl 3 rfl) ?_
  refine lv_iload_n hx hb dX11_knows_8 rfl (lv_at hl 4 rfl) ?_
  refine q_calvX hxt hlk (q_runSX C hP (c_X11_needPlace hst h) (cd_X11_needPlace C.hA) (ini_X11 C.hA) (ml_X11_318 C.hA) (st_X11_needPlace C.hA) hd_X11_needPlace ⟨rfl, rfl⟩ ⟨Nat.le_of_ble_eq_true rfl, Nat.le_of_ble_eq_true rfl⟩ ⟨Nat.le_of_ble_eq_true rfl, Nat.le_of_ble_eq_true rfl⟩ hl.1 rfl (Nat.le_of_ble_eq_true rfl) dX11_knows_9) hP (Nat.le_of_ble_eq_true rfl) (Nat.le_of_ble_eq_true rfl) (fun u_9 H locs h hP => ?_)
  refine lv_iload hx hb dX11_knows_12 (lv_at hl 5 rfl) ?_
  refine lv_iload hx hb dX11_knows_14 (lv_at hl 6 rfl) ?_
  refine q_calvX hxt hlk (q_runSX C hP (c_X11_needPlace hst h) (cd_X11_needPlace C.hA) (ini_X11 C.hA) (ml_X11_318 C.hA) (st_X11_needPlace C.hA) hd_X11_needPlace ⟨rfl, rfl⟩ ⟨Nat.le_of_ble_eq_true rfl, Nat.le_of_ble_eq_true rfl⟩ ⟨Nat.le_of_ble_eq_true rfl, Nat.le_of_ble_eq_true rfl⟩ hl.1 rfl (Nat.le_of_ble_eq_true rfl) dX11_knows_16) hP (Nat.le_of_ble_eq_true rfl) (Nat.le_of_ble_eq_true rfl) (fun u_16 H locs h hP => ?_)
  refine lv_aload_n hx hb dX11_knows_19 rfl (lv_at hl 1 rfl) ?_
  refine lv_aload hx hb dX11_knows_20 (lv_at hl 0 rfl) ?_
  refine lv_iload_n hx hb dX11_knows_22 rfl (lv_at hl 3 rfl) ?_
  refine lv_iload_n hx hb dX11_knows_23 rfl (lv_at hl 4 rfl) ?_
  refine q_calv (q_runV C hP (c_X11_lookAsThief h) (cd_X11_lookAsThief C.hA) (ini_X11 C.hA) (ml_X11_321 C.hA) (im_X11_lookAsThief C.hA) (sl_X11_lookAsThief C.hA) g1 (by decide) rfl hd_X11_lookAsThief ⟨rfl, rfl⟩ ⟨Nat.le_of_ble_eq_true rfl, Nat.le_of_ble_eq_true rfl⟩ ⟨Nat.le_of_ble_eq_true rfl, Nat.le_of_ble_eq_true rfl⟩ hl.1 rfl (Nat.le_of_ble_eq_true rfl) dX11_knows_24) hP (fun u_24 H locs h hP => ?_)
  refine lv_aload_n hx hb dX11_knows_27 rfl (lv_at hl 1 rfl) ?_
  obtain ⟨g2, h⟩ := h
  refine q_getR C hP (k := 7) (lay_X11 C.hA) rfl (by decide) g1 g2 (fl_X11_51 C.hA) dX11_knows_28 ?_
  refine lv_aload hx hb dX11_knows_31 (lv_at hl 0 rfl) ?_
  obtain ⟨g3, h⟩ := h
  refine q_getIN C hP (k := 6) (lay_X4 C.hA) rfl (by decide) g3 (fn_X11_129 C.hA) dX11_knows_33 ?_
  obtain ⟨g4, h⟩ := h
  refine q_cali (q_runVN C hP (c_X3_countFirstHeard h) (cd_X3_countFirstHeard C.hA) (ini_X3 C.hA) (mn_X11_325 C.hA) (im_X3_countFirstHeard C.hA) (sl_X3_countFirstHeard C.hA) g4 (by decide) rfl hd_X3_countFirstHeard ⟨rfl, rfl⟩ ⟨Nat.le_of_ble_eq_true rfl, Nat.le_of_ble_eq_true rfl⟩ ⟨Nat.le_of_ble_eq_true rfl, Nat.le_of_ble_eq_true rfl⟩ hl.1 rfl (Nat.le_of_ble_eq_true rfl) dX11_knows_36) hP (fun v_36 u_36 H locs h hP => ?_)
  refine lv_istore (lv' := [(7, .int v_36), (6, .ref v_2), (0, .ref p0), (1, .int p1), (2, .int p2), (3, .int p3), (4, .int p4), (5, .int p5)]) hx hb dX11_knows_39 hl (by decide) rfl (fun ls hl => ?_)
  refine lv_aload_n hx hb dX11_knows_41 rfl (lv_at hl 2 rfl) ?_
  obtain ⟨g5, h⟩ := h
  refine q_getR C hP (k := 7) (lay_X11 C.hA) rfl (by decide) g1 g5 (fl_X11_51 C.hA) dX11_knows_42 ?_
  refine lv_aload_n hx hb dX11_knows_45 rfl (lv_at hl 2 rfl) ?_
  obtain ⟨g6, h⟩ := h
  refine q_getR C hP (k := 5) (lay_X11 C.hA) rfl (by decide) g1 g6 (fl_X11_40 C.hA) dX11_knows_46 ?_
  refine lv_aload hx hb dX11_knows_49 (lv_at hl 1 rfl) ?_
  refine lv_iload hx hb dX11_knows_51 (lv_at hl 6 rfl) ?_
  refine lv_iload hx hb dX11_knows_53 (lv_at hl 7 rfl) ?_
  refine lv_aload_n hx hb dX11_knows_55 rfl (lv_at hl 2 rfl) ?_
  obtain ⟨g7, h⟩ := h
  refine q_getR C hP (k := 10) (lay_X11 C.hA) rfl (by decide) g1 g7 (fl_X11_69 C.hA) dX11_knows_56 ?_
  obtain ⟨g8, h⟩ := h
  refine q_calv (q_runVN C hP (c_X3_orderForThief h) (cd_X3_orderForThief C.hA) (ini_X3 C.hA) (mn_X11_328 C.hA) (im_X3_orderForThief C.hA) (sl_X3_orderForThief C.hA) g8 (by decide) rfl hd_X3_orderForThief ⟨rfl, rfl⟩ ⟨Nat.le_of_ble_eq_true rfl, Nat.le_of_ble_eq_true rfl⟩ ⟨Nat.le_of_ble_eq_true rfl, Nat.le_of_ble_eq_true rfl⟩ hl.1 rfl (Nat.le_of_ble_eq_true rfl) dX11_knows_59) hP (fun u_59 H locs h hP => ?_)
  refine lv_iconst (v := (0 : Int32)) hx hb dX11_knows_62 (by decide) ?_
  refine lv_istore (lv' := [(8, .int (0 : Int32)), (7, .int v_36), (6, .ref v_2), (0, .ref p0), (1, .int p1), (2, .int p2), (3, .int p3), (4, .int p4), (5, .int p5)]) hx hb dX11_knows_63 hl (by decide) rfl (fun ls hl => ?_)
  refine lv_iconst (v := (0 : Int32)) hx hb dX11_knows_65 (by decide) ?_
  refine lv_istore (lv' := [(9, .int (0 : Int32)), (8, .int (0 : Int32)), (7, .int v_36), (6, .ref v_2), (0, .ref p0), (1, .int p1), (2, .int p2), (3, .int p3), (4, .int p4), (5, .int p5)]) hx hb dX11_knows_66 hl (by decide) rfl (fun ls hl => ?_)
  obtain ⟨n, h⟩ := h
  exact l_X11_knows_68 hst C hr hlk hxt n p0 p4 p5 v_2 v_36 (0 : Int32) (0 : Int32) u_59 _ _ _ h (lv_sub hl [4, 8, 9, 3, 2, 1, 0] rfl) hP
-- X11_word
abbrev rm_X11_word : Room := { frames := 7, cells := 3, slots := 18, locals := 103 }
theorem hd_X11_word : yX11_word.cls ≠ "java/lang/invoke/MethodHandle" ∧ yX11_word.cls ≠ "java/lang/invoke/VarHandle" ∧ (parseMethodDescriptor yX11_word.desc).map (fun d => d.parameters.length) = some 4 := by decide +kernel
def V_X11_word_109 (G : Gx) (Q : Int32 → Mm → Prop) (X : String → Mm → Prop) (k_23 : Int32 → Int32 → Int32 → Nat → Int32 → Int32 → Mm → Prop) (x2 : Int32) (x3 : Int32) (x4 : Int32) (x5 : Nat) (x6 : Int32) (x7 : Int32) (u : Mm) : Prop :=
  ∀ x7_109 : Int32, x7_109 = x7 + (1 : Int32) → k_23 x2 x3 x4 x5 x6 x7_109 u
def V_X11_word_62 (G : Gx) (Q : Int32 → Mm → Prop) (X : String → Mm → Prop) (k_23 : Int32 → Int32 → Int32 → Nat → Int32 → Int32 → Mm → Prop) (x2 : Int32) (x3 : Int32) (x4 : Int32) (x5 : Nat) (x6 : Int32) (x7 : Int32) (x8 : Int32) (x9 : Int32) (t0 : Int32) (u : Mm) : Prop :=
  ((t0 = 0 → kd G x5 = 4 ∧ V_X4_hidersBetween G x5 x2 x3 x8 x9 u (fun (v_77 : Int32) (u_77 : Mm) => ((v_77 = 0 → V_X4_strengthAlong G x5 (0 : Int32) x2 x3 x8 x9 x4 (1 : Int32) u_77 (fun (v_95 : Int32) (u_95 : Mm) => ((v_95 < (gI u_95 x5 6) → V_X11_word_109 G Q X k_23 x2 x3 x4 x5 x6 x7 u_95) ∧ (¬ v_95 < (gI u_95 x5 6) → ∀ x6_106 : Int32, x6_106 = x6 + (1 : Int32) → V_X11_word_109 G Q X k_23 x2 x3 x4 x5 x6_106 x7 u_95)))) ∧ (¬ v_77 = 0 → V_X11_word_109 G Q X k_23 x2 x3 x4 x5 x6 x7 u_77)))) ∧ (¬ t0 = 0 → V_X11_word_109 G Q X k_23 x2 x3 x4 x5 x6 x7 u))
def V_X11_word_61 (G : Gx) (Q : Int32 → Mm → Prop) (X : String → Mm → Prop) (k_23 : Int32 → Int32 → Int32 → Nat → Int32 → Int32 → Mm → Prop) (x2 : Int32) (x3 : Int32) (x4 : Int32) (x5 : Nat) (x6 : Int32) (x7 : Int32) (x8 : Int32) (x9 : Int32) (u : Mm) : Prop :=
  V_X11_word_62 G Q X k_23 x2 x3 x4 x5 x6 x7 x8 x9 (0 : Int32) u
def V_X11_word_23_B (G : Gx) (Q : Int32 → Mm → Prop) (X : String → Mm → Prop) (k_23 : Int32 → Int32 → Int32 → Nat → Int32 → Int32 → Mm → Prop) (x2 : Int32) (x3 : Int32) (x4 : Int32) (x5 : Nat) (x6 : Int32) (x7 : Int32) (u : Mm) : Prop :=
  (((1681 : Int32) ≤ x7 → Q x6 u) ∧ (¬ (1681 : Int32) ≤ x7 → ∀ x8_36 : Int32, x8_36 = (irm x7 (41 : Int32)) → ∀ x9_43 : Int32, x9_43 = (x7 / (41 : Int32)) → ((x8_36 = x2 → ((x9_43 = x3 → V_X11_word_62 G Q X k_23 x2 x3 x4 x5 x6 x7 x8_36 x9_43 (1 : Int32) u) ∧ (¬ x9_43 = x3 → V_X11_word_61 G Q X k_23 x2 x3 x4 x5 x6 x7 x8_36 x9_43 u))) ∧ (¬ x8_36 = x2 → V_X11_word_61 G Q X k_23 x2 x3 x4 x5 x6 x7 x8_36 x9_43 u))))
def V_X11_word_23 (G : Gx) (Q : Int32 → Mm → Prop) (X : String → Mm → Prop) : Nat → (Int32 → Int32 → Int32 → Nat → Int32 → Int32 → Mm → Prop)
  | 0 => fun _ _ _ _ _ _ _ => False
  | n + 1 => fun x2 x3 x4 x5 x6 x7 u => V_X11_word_23_B G Q X (V_X11_word_23 G Q X n) x2 x3 x4 x5 x6 x7 u
def V_X11_word (G : Gx) (p0 : Nat) (p1 : Int32) (p2 : Int32) (p3 : Int32) (p4 : Int32) (u : Mm) (Q : Int32 → Mm → Prop) (X : String → Mm → Prop) : Prop :=
  kd G p0 = 11 ∧ V_X11_needLand G p0 p1 u (fun (v_2 : Nat) (u_2 : Mm) => V_X11_needPlace G p2 p3 u_2 (fun (u_9 : Mm) => V_X11_needTone G p4 u_9 (fun (u_14 : Mm) => ∃ n : Nat, V_X11_word_23 G Q X n p2 p3 p4 v_2 (0 : Int32) (0 : Int32) u_14) X) X) X
set_option maxHeartbeats 4000000 in
set_option maxRecDepth 100000 in
theorem b_X11_word_109 {G : Gx} {Q : Int32 → Mm → Prop} {X : String → Mm → Prop} {p : Program} {l : Launch} {e : Env} {s : State} {m : MethodId} {args : Array Value} {below : List Frame} {meth : Method} {c : Code} (hst : l.stackTraces = false) (C : Cx G p s m c cX11_word RX11 11) (hr : meth.sig.returnType = (some .int)) (hlk : meth.locks = false) (hxt : ∀ x ∈ c.exceptionTable.toList, False) {k_23 : Int32 → Int32 → Int32 → Nat → Int32 → Int32 → Mm → Prop} (hk_23 : ∀ (x2 : Int32) (x3 : Int32) (x4 : Int32) (x5 : Nat) (x6 : Int32) (x7 : Int32) (u : Mm) (H : Heap) (locs : List Loc) (ls : Array Slot), k_23 x2 x3 x4 x5 x6 x7 u → lv_has ls 11 [(2, .int x2), (3, .int x3), (4, .int x4), (5, .ref x5), (6, .int x6), (7, .int x7)] → Hp G u s H locs → W p l e rm_X11_word s m args below meth c H locs 3 18 (vx_MQ below (Ei G Q) (Xe G X) args s 3 18 (ag G)) (F0 m 23 ls [])) {x2 : Int32} {x3 : Int32} {x4 : Int32} {x5 : Nat} {x6 : Int32} {x7 : Int32} {u : Mm} {H : Heap} {locs : List Loc} {ls : Array Slot} (h : V_X11_word_109 G Q X k_23 x2 x3 x4 x5 x6 x7 u) (hl : lv_has ls 11 [(2, .int x2), (3, .int x3), (4, .int x4), (5, .ref x5), (6, .int x6), (7, .int x7)]) (hP : Hp G u s H locs) : W p l e rm_X11_word s m args below meth c H locs 3 18 (vx_MQ below (Ei G Q) (Xe G X) args s 3 18 (ag G)) (F0 m 109 ls []) := by
  have hx := C.1
  have hb := C.2.1
  unfold V_X11_word_109 at h
  obtain ⟨x7_109, ex7_109⟩ : ∃ y : Int32, y = x7 + (1 : Int32) := ⟨_, rfl⟩
  have h := h x7_109 ex7_109
  refine lv_iinc (v := x7_109) (lv' := [(7, .int x7_109), (2, .int x2), (3, .int x3), (4, .int x4), (5, .ref x5), (6, .int x6)]) hx hb dX11_word_109 hl (k := 5) rfl (by rw [ex7_109]; rfl) (by decide) rfl (fun ls hl => ?_)
  refine lv_goto (tgt := 23) hx hb dX11_word_112 (by decide) ?_
  exact hk_23 x2 x3 x4 x5 x6 x7_109 u _ _ _ h (lv_sub hl [1, 2, 3, 4, 5, 0] rfl) hP
set_option maxHeartbeats 4000000 in
set_option maxRecDepth 100000 in
theorem b_X11_word_62 {G : Gx} {Q : Int32 → Mm → Prop} {X : String → Mm → Prop} {p : Program} {l : Launch} {e : Env} {s : State} {m : MethodId} {args : Array Value} {below : List Frame} {meth : Method} {c : Code} (hst : l.stackTraces = false) (C : Cx G p s m c cX11_word RX11 11) (hr : meth.sig.returnType = (some .int)) (hlk : meth.locks = false) (hxt : ∀ x ∈ c.exceptionTable.toList, False) {k_23 : Int32 → Int32 → Int32 → Nat → Int32 → Int32 → Mm → Prop} (hk_23 : ∀ (x2 : Int32) (x3 : Int32) (x4 : Int32) (x5 : Nat) (x6 : Int32) (x7 : Int32) (u : Mm) (H : Heap) (locs : List Loc) (ls : Array Slot), k_23 x2 x3 x4 x5 x6 x7 u → lv_has ls 11 [(2, .int x2), (3, .int x3), (4, .int x4), (5, .ref x5), (6, .int x6), (7, .int x7)] → Hp G u s H locs → W p l e rm_X11_word s m args below meth c H locs 3 18 (vx_MQ below (Ei G Q) (Xe G X) args s 3 18 (ag G)) (F0 m 23 ls [])) {x2 : Int32} {x3 : Int32} {x4 : Int32} {x5 : Nat} {x6 : Int32} {x7 : Int32} {x8 : Int32} {x9 : Int32} {t0 : Int32} {u : Mm} {H : Heap} {locs : List Loc} {ls : Array Slot} (h : V_X11_word_62 G Q X k_23 x2 x3 x4 x5 x6 x7 x8 x9 t0 u) (hl : lv_has ls 11 [(2, .int x2), (3, .int x3), (4, .int x4), (5, .ref x5), (6, .int x6), (7, .int x7), (8, .int x8), (9, .int x9)]) (hP : Hp G u s H locs) : W p l e rm_X11_word s m args below meth c H locs 3 18 (vx_MQ below (Ei G Q) (Xe G X) args s 3 18 (ag G)) (F0 m 62 ls [.int t0]) := by
  have hx := C.1
  have hb := C.2.1
  unfold V_X11_word_62 at h
  refine lv_istore (lv' := [(10, .int t0), (2, .int x2), (3, .int x3), (4, .int x4), (5, .ref x5), (6, .int x6), (7, .int x7), (8, .int x8), (9, .int x9)]) hx hb dX11_word_62 hl (by decide) rfl (fun ls hl => ?_)
  refine lv_iload hx hb dX11_word_64 (lv_at hl 0 rfl) ?_
  refine lv_if_ne (tgt := 109) hx hb dX11_word_66 (by decide) (fun c66 => ?_) (fun c66 => ?_)
  · have h := h.2 c66
    exact b_X11_word_109 hst C hr hlk hxt hk_23 h (lv_sub hl [1, 2, 3, 4, 5, 6] rfl) hP
  · have h := h.1 c66
    refine lv_aload hx hb dX11_word_69 (lv_at hl 4 rfl) ?_
    refine lv_iload_n hx hb dX11_word_71 rfl (lv_at hl 1 rfl) ?_
    refine lv_iload_n hx hb dX11_word_72 rfl (lv_at hl 2 rfl) ?_
    refine lv_iload hx hb dX11_word_73 (lv_at hl 7 rfl) ?_
    refine lv_iload hx hb dX11_word_75 (lv_at hl 8 rfl) ?_
    obtain ⟨g1, h⟩ := h
    refine q_cali (q_runVN C hP (c_X4_hidersBetween h) (cd_X4_hidersBetween C.hA) (ini_X4 C.hA) (mn_X11_336 C.hA) (im_X4_hidersBetween C.hA) (sl_X4_hidersBetween C.hA) g1 (by decide) rfl hd_X4_hidersBetween ⟨rfl, rfl⟩ ⟨Nat.le_of_ble_eq_true rfl, Nat.le_of_ble_eq_true rfl⟩ ⟨Nat.le_of_ble_eq_true rfl, Nat.le_of_ble_eq_true rfl⟩ hl.1 rfl (Nat.le_of_ble_eq_true rfl) dX11_word_77) hP (fun v_77 u_77 H locs h hP => ?_)
    refine lv_if_ne (tgt := 109) hx hb dX11_word_80 (by decide) (fun c80 => ?_) (fun c80 => ?_)
    · have h := h.2 c80
      exact b_X11_word_109 hst C hr hlk hxt hk_23 h (lv_sub hl [1, 2, 3, 4, 5, 6] rfl) hP
    · have h := h.1 c80
      refine lv_aload hx hb dX11_word_83 (lv_at hl 4 rfl) ?_
      refine lv_iconst (v := (0 : Int32)) hx hb dX11_word_85 (by decide) ?_
      refine lv_iload_n hx hb dX11_word_86 rfl (lv_at hl 1 rfl) ?_
      refine lv_iload_n hx hb dX11_word_87 rfl (lv_at hl 2 rfl) ?_
      refine lv_iload hx hb dX11_word_88 (lv_at hl 7 rfl) ?_
      refine lv_iload hx hb dX11_word_90 (lv_at hl 8 rfl) ?_
      refine lv_iload hx hb dX11_word_92 (lv_at hl 3 rfl) ?_
      refine lv_iconst (v := (1 : Int32)) hx hb dX11_word_94 (by decide) ?_
      refine q_cali (q_runVN C hP (c_X4_strengthAlong h) (cd_X4_strengthAlong C.hA) (ini_X4 C.hA) (mn_X11_340 C.hA) (im_X4_strengthAlong C.hA) (sl_X4_strengthAlong C.hA) g1 (by decide) rfl hd_X4_strengthAlong ⟨rfl, rfl⟩ ⟨Nat.le_of_ble_eq_true rfl, Nat.le_of_ble_eq_true rfl⟩ ⟨Nat.le_of_ble_eq_true rfl, Nat.le_of_ble_eq_true rfl⟩ hl.1 rfl (Nat.le_of_ble_eq_true rfl) dX11_word_95) hP (fun v_95 u_95 H locs h hP => ?_)
      refine lv_aload hx hb dX11_word_98 (lv_at hl 4 rfl) ?_
      refine q_getIN C hP (k := 6) (lay_X4 C.hA) rfl (by decide) g1 (fn_X11_129 C.hA) dX11_word_100 ?_
      refine lv_icmp_lt (tgt := 109) hx hb dX11_word_103 (by decide) (fun c103 => ?_) (fun c103 => ?_)
      · have h := h.1 c103
        exact b_X11_word_109 hst C hr hlk hxt hk_23 h (lv_sub hl [1, 2, 3, 4, 5, 6] rfl) hP
      · have h := h.2 c103
        obtain ⟨x6_106, ex6_106⟩ : ∃ y : Int32, y = x6 + (1 : Int32) := ⟨_, rfl⟩
        have h := h x6_106 ex6_106
        refine lv_iinc (v := x6_106) (lv' := [(6, .int x6_106), (10, .int t0), (2, .int x2), (3, .int x3), (4, .int x4), (5, .ref x5), (7, .int x7), (8, .int x8), (9, .int x9)]) hx hb dX11_word_106 hl (k := 5) rfl (by rw [ex6_106]; rfl) (by decide) rfl (fun ls hl => ?_)
        exact b_X11_word_109 hst C hr hlk hxt hk_23 h (lv_sub hl [2, 3, 4, 5, 0, 6] rfl) hP
set_option maxHeartbeats 4000000 in
set_option maxRecDepth 100000 in
theorem b_X11_word_61 {G : Gx} {Q : Int32 → Mm → Prop} {X : String → Mm → Prop} {p : Program} {l : Launch} {e : Env} {s : State} {m : MethodId} {args : Array Value} {below : List Frame} {meth : Method} {c : Code} (hst : l.stackTraces = false) (C : Cx G p s m c cX11_word RX11 11) (hr : meth.sig.returnType = (some .int)) (hlk : meth.locks = false) (hxt : ∀ x ∈ c.exceptionTable.toList, False) {k_23 : Int32 → Int32 → Int32 → Nat → Int32 → Int32 → Mm → Prop} (hk_23 : ∀ (x2 : Int32) (x3 : Int32) (x4 : Int32) (x5 : Nat) (x6 : Int32) (x7 : Int32) (u : Mm) (H : Heap) (locs : List Loc) (ls : Array Slot), k_23 x2 x3 x4 x5 x6 x7 u → lv_has ls 11 [(2, .int x2), (3, .int x3), (4, .int x4), (5, .ref x5), (6, .int x6), (7, .int x7)] → Hp G u s H locs → W p l e rm_X11_word s m args below meth c H locs 3 18 (vx_MQ below (Ei G Q) (Xe G X) args s 3 18 (ag G)) (F0 m 23 ls [])) {x2 : Int32} {x3 : Int32} {x4 : Int32} {x5 : Nat} {x6 : Int32} {x7 : Int32} {x8 : Int32} {x9 : Int32} {u : Mm} {H : Heap} {locs : List Loc} {ls : Array Slot} (h : V_X11_word_61 G Q X k_23 x2 x3 x4 x5 x6 x7 x8 x9 u) (hl : lv_has ls 11 [(2, .int x2), (3, .int x3), (4, .int x4), (5, .ref x5), (6, .int x6), (7, .int x7), (8, .int x8), (9, .int x9)]) (hP : Hp G u s H locs) : W p l e rm_X11_word s m args below meth c H locs 3 18 (vx_MQ below (Ei G Q) (Xe G X) args s 3 18 (ag G)) (F0 m 61 ls []) := by
  have hx := C.1
  have hb := C.2.1
  unfold V_X11_word_61 at h
  refine lv_iconst (v := (0 : Int32)) hx hb dX11_word_61 (by decide) ?_
  exact b_X11_word_62 hst C hr hlk hxt hk_23 h (lv_sub hl [0, 1, 2, 3, 4, 5, 6, 7] rfl) hP
set_option maxHeartbeats 4000000 in
set_option maxRecDepth 100000 in
theorem b_X11_word_23 {G : Gx} {Q : Int32 → Mm → Prop} {X : String → Mm → Prop} {p : Program} {l : Launch} {e : Env} {s : State} {m : MethodId} {args : Array Value} {below : List Frame} {meth : Method} {c : Code} (hst : l.stackTraces = false) (C : Cx G p s m c cX11_word RX11 11) (hr : meth.sig.returnType = (some .int)) (hlk : meth.locks = false) (hxt : ∀ x ∈ c.exceptionTable.toList, False) {k_23 : Int32 → Int32 → Int32 → Nat → Int32 → Int32 → Mm → Prop} (hk_23 : ∀ (x2 : Int32) (x3 : Int32) (x4 : Int32) (x5 : Nat) (x6 : Int32) (x7 : Int32) (u : Mm) (H : Heap) (locs : List Loc) (ls : Array Slot), k_23 x2 x3 x4 x5 x6 x7 u → lv_has ls 11 [(2, .int x2), (3, .int x3), (4, .int x4), (5, .ref x5), (6, .int x6), (7, .int x7)] → Hp G u s H locs → W p l e rm_X11_word s m args below meth c H locs 3 18 (vx_MQ below (Ei G Q) (Xe G X) args s 3 18 (ag G)) (F0 m 23 ls [])) {x2 : Int32} {x3 : Int32} {x4 : Int32} {x5 : Nat} {x6 : Int32} {x7 : Int32} {u : Mm} {H : Heap} {locs : List Loc} {ls : Array Slot} (h : V_X11_word_23_B G Q X k_23 x2 x3 x4 x5 x6 x7 u) (hl : lv_has ls 11 [(2, .int x2), (3, .int x3), (4, .int x4), (5, .ref x5), (6, .int x6), (7, .int x7)]) (hP : Hp G u s H locs) : W p l e rm_X11_word s m args below meth c H locs 3 18 (vx_MQ below (Ei G Q) (Xe G X) args s 3 18 (ag G)) (F0 m 23 ls []) := by
  have hx := C.1
  have hb := C.2.1
  unfold V_X11_word_23_B at h
  refine lv_iload hx hb dX11_word_23 (lv_at hl 5 rfl) ?_
  refine lv_sipush (v := (1681 : Int32)) hx hb dX11_word_25 (by decide) ?_
  refine lv_icmp_ge (tgt := 115) hx hb dX11_word_28 (by decide) (fun c28 => ?_) (fun c28 => ?_)
  · have h := h.1 c28
    refine lv_iload hx hb dX11_word_115 (lv_at hl 4 rfl) ?_
    exact vx_ret (q_iret C hr hlk hP h (by decide) (by decide) dX11_word_117)
  · have h := h.2 c28
    refine lv_iload hx hb dX11_word_31 (lv_at hl 5 rfl) ?_
    refine lv_bipush (v := (41 : Int32)) hx hb dX11_word_33 (by decide) ?_
    refine lv_irem hx hb dX11_word_35 (by decide) ?_
    refine lv_topi (fun x8_36 ex8_36 => ?_)
    have h := h x8_36 ex8_36
    refine lv_istore (lv' := [(8, .int x8_36), (2, .int x2), (3, .int x3), (4, .int x4), (5, .ref x5), (6, .int x6), (7, .int x7)]) hx hb dX11_word_36 hl (by decide) rfl (fun ls hl => ?_)
    refine lv_iload hx hb dX11_word_38 (lv_at hl 6 rfl) ?_
    refine lv_bipush (v := (41 : Int32)) hx hb dX11_word_40 (by decide) ?_
    refine lv_idiv hx hb dX11_word_42 (by decide) ?_
    refine lv_topi (fun x9_43 ex9_43 => ?_)
    have h := h x9_43 ex9_43
    refine lv_istore (lv' := [(9, .int x9_43), (8, .int x8_36), (2, .int x2), (3, .int x3), (4, .int x4), (5, .ref x5), (6, .int x6), (7, .int x7)]) hx hb dX11_word_43 hl (by decide) rfl (fun ls hl => ?_)
    refine lv_iload hx hb dX11_word_45 (lv_at hl 1 rfl) ?_
    refine lv_iload_n hx hb dX11_word_47 rfl (lv_at hl 2 rfl) ?_
    refine lv_icmp_ne (tgt := 61) hx hb dX11_word_48 (by decide) (fun c48 => ?_) (fun c48 => ?_)
    · have h := h.2 c48
      exact b_X11_word_61 hst C hr hlk hxt hk_23 h (lv_sub hl [2, 3, 4, 5, 6, 7, 1, 0] rfl) hP
    · have h := h.1 c48
      refine lv_iload hx hb dX11_word_51 (lv_at hl 0 rfl) ?_
      refine lv_iload_n hx hb dX11_word_53 rfl (lv_at hl 3 rfl) ?_
      refine lv_icmp_ne (tgt := 61) hx hb dX11_word_54 (by decide) (fun c54 => ?_) (fun c54 => ?_)
      · have h := h.2 c54
        exact b_X11_word_61 hst C hr hlk hxt hk_23 h (lv_sub hl [2, 3, 4, 5, 6, 7, 1, 0] rfl) hP
      · have h := h.1 c54
        refine lv_iconst (v := (1 : Int32)) hx hb dX11_word_57 (by decide) ?_
        refine lv_goto (tgt := 62) hx hb dX11_word_58 (by decide) ?_
        exact b_X11_word_62 hst C hr hlk hxt hk_23 h (lv_sub hl [2, 3, 4, 5, 6, 7, 1, 0] rfl) hP
theorem l_X11_word_23 {G : Gx} {Q : Int32 → Mm → Prop} {X : String → Mm → Prop} {p : Program} {l : Launch} {e : Env} {s : State} {m : MethodId} {args : Array Value} {below : List Frame} {meth : Method} {c : Code} (hst : l.stackTraces = false) (C : Cx G p s m c cX11_word RX11 11) (hr : meth.sig.returnType = (some .int)) (hlk : meth.locks = false) (hxt : ∀ x ∈ c.exceptionTable.toList, False) : ∀ (n : Nat) (x2 : Int32) (x3 : Int32) (x4 : Int32) (x5 : Nat) (x6 : Int32) (x7 : Int32) (u : Mm) (H : Heap) (locs : List Loc) (ls : Array Slot), V_X11_word_23 G Q X n x2 x3 x4 x5 x6 x7 u → lv_has ls 11 [(2, .int x2), (3, .int x3), (4, .int x4), (5, .ref x5), (6, .int x6), (7, .int x7)] → Hp G u s H locs → W p l e rm_X11_word s m args below meth c H locs 3 18 (vx_MQ below (Ei G Q) (Xe G X) args s 3 18 (ag G)) (F0 m 23 ls []) := by
  intro n
  induction n with
  | zero => intro x2 x3 x4 x5 x6 x7 u H locs ls h; exact h.elim
  | succ n ih => intro x2 x3 x4 x5 x6 x7 u H locs ls h hl hP; exact b_X11_word_23 hst C hr hlk hxt ih h hl hP
set_option maxHeartbeats 4000000 in
set_option maxRecDepth 100000 in
theorem c_X11_word {l : Launch} (hst : l.stackTraces = false) {G : Gx} {p0 : Nat} {p1 : Int32} {p2 : Int32} {p3 : Int32} {p4 : Int32} {u : Mm} {Q : Int32 → Mm → Prop} {X : String → Mm → Prop} (h : V_X11_word G p0 p1 p2 p3 p4 u Q X) : vx_Met l yX11_word [.code yX11_word cX11_word 11 (some .int)] rm_X11_word (va_Pc [.ref p0, .int p1, .int p2, .int p3, .int p4] (Wd G u)) (Ei G Q) (Xe G X) 3 18 (ag G) := by
  refine q_metX (by decide) (Nat.le_of_ble_eq_true rfl) ?_
  intro p e s m below meth c ls C hr hlk hnm hxt hl hP
  have hl : lv_has ls 11 [(0, .ref p0), (1, .int p1), (2, .int p2), (3, .int p3), (4, .int p4)] := hl
  generalize ([.ref p0, .int p1, .int p2, .int p3, .int p4] : List Value).toArray = args
  have hx := C.1
  have hb := C.2.1
  unfold V_X11_word at h
  refine lv_aload_n hx hb dX11_word_0 rfl (lv_at hl 0 rfl) ?_
  refine lv_iload_n hx hb dX11_word_1 rfl (lv_at hl 1 rfl) ?_
  obtain ⟨g1, h⟩ := h
  refine q_calrX hxt hlk (q_runVX C hP (c_X11_needLand hst h) (cd_X11_needLand C.hA) (ini_X11 C.hA) (ml_X11_84 C.hA) (im_X11_needLand C.hA) (sl_X11_needLand C.hA) g1 (by decide) rfl hd_X11_needLand ⟨rfl, rfl⟩ ⟨Nat.le_of_ble_eq_true rfl, Nat.le_of_ble_eq_true rfl⟩ ⟨Nat.le_of_ble_eq_true rfl, Nat.le_of_ble_eq_true rfl⟩ hl.1 rfl (Nat.le_of_ble_eq_true rfl) dX11_word_2) hP (Nat.le_of_ble_eq_true rfl) (Nat.le_of_ble_eq_true rfl) (fun v_2 u_2 H locs h hP => ?_)
  refine lv_astore (lv' := [(5, .ref v_2), (0, .ref p0), (1, .int p1), (2, .int p2), (3, .int p3), (4, .int p4)]) hx hb dX11_word_5 hl (by decide) rfl (fun ls hl => ?_)
  refine lv_iload_n hx hb dX11_word_7 rfl (lv_at hl 3 rfl) ?_
  refine lv_iload_n hx hb dX11_word_8 rfl (lv_at hl 4 rfl) ?_
  refine q_calvX hxt hlk (q_runSX C hP (c_X11_needPlace hst h) (cd_X11_needPlace C.hA) (ini_X11 C.hA) (ml_X11_318 C.hA) (st_X11_needPlace C.hA) hd_X11_needPlace ⟨rfl, rfl⟩ ⟨Nat.le_of_ble_eq_true rfl, Nat.le_of_ble_eq_true rfl⟩ ⟨Nat.le_of_ble_eq_true rfl, Nat.le_of_ble_eq_true rfl⟩ hl.1 rfl (Nat.le_of_ble_eq_true rfl) dX11_word_9) hP (Nat.le_of_ble_eq_true rfl) (Nat.le_of_ble_eq_true rfl) (fun u_9 H locs h hP => ?_)
  refine lv_iload hx hb dX11_word_12 (lv_at hl 5 rfl) ?_
  refine q_calvX hxt hlk (q_runSX C hP (c_X11_needTone hst h) (cd_X11_needTone C.hA) (ini_X11 C.hA) (ml_X11_294 C.hA) (st_X11_needTone C.hA) hd_X11_needTone ⟨rfl, rfl⟩ ⟨Nat.le_of_ble_eq_true rfl, Nat.le_of_ble_eq_true rfl⟩ ⟨Nat.le_of_ble_eq_true rfl, Nat.le_of_ble_eq_true rfl⟩ hl.1 rfl (Nat.le_of_ble_eq_true rfl) dX11_word_14) hP (Nat.le_of_ble_eq_true rfl) (Nat.le_of_ble_eq_true rfl) (fun u_14 H locs h hP => ?_)
  refine lv_iconst (v := (0 : Int32)) hx hb dX11_word_17 (by decide) ?_
  refine lv_istore (lv' := [(6, .int (0 : Int32)), (5, .ref v_2), (0, .ref p0), (1, .int p1), (2, .int p2), (3, .int p3), (4, .int p4)]) hx hb dX11_word_18 hl (by decide) rfl (fun ls hl => ?_)
  refine lv_iconst (v := (0 : Int32)) hx hb dX11_word_20 (by decide) ?_
  refine lv_istore (lv' := [(7, .int (0 : Int32)), (6, .int (0 : Int32)), (5, .ref v_2), (0, .ref p0), (1, .int p1), (2, .int p2), (3, .int p3), (4, .int p4)]) hx hb dX11_word_21 hl (by decide) rfl (fun ls hl => ?_)
  obtain ⟨n, h⟩ := h
  exact l_X11_word_23 hst C hr hlk hxt n p2 p3 p4 v_2 (0 : Int32) (0 : Int32) u_14 _ _ _ h (lv_sub hl [5, 6, 7, 2, 1, 0] rfl) hP
-- X11_clear
abbrev rm_X11_clear : Room := { frames := 1, cells := 0, slots := 0, locals := 20 }
theorem hd_X11_clear : yX11_clear.cls ≠ "java/lang/invoke/MethodHandle" ∧ yX11_clear.cls ≠ "java/lang/invoke/VarHandle" ∧ (parseMethodDescriptor yX11_clear.desc).map (fun d => d.parameters.length) = some 0 := by decide +kernel
def V_X11_clear (G : Gx) (p0 : Nat) (u : Mm) (Q : Mm → Prop) : Prop :=
  kd G p0 = 11 ∧ (gR u p0 2) ≠ 0 ∧ kd G (gR u p0 2) = 1 ∧ V_X1_empty G (gR u p0 2) u (fun (u_4 : Mm) => Q u_4)
set_option maxHeartbeats 4000000 in
set_option maxRecDepth 100000 in
theorem c_X11_clear {l : Launch} {G : Gx} {p0 : Nat} {u : Mm} {Q : Mm → Prop} (h : V_X11_clear G p0 u Q) : Met l yX11_clear [.code yX11_clear cX11_clear 1 none] rm_X11_clear (va_Pc [.ref p0] (Wd G u)) (Ev G Q) 0 0 (ag G) := by
  refine q_met (by decide) (Nat.le_of_ble_eq_true rfl) ?_
  intro p e s m below meth c ls C hr hlk hnm hl hP
  have hl : lv_has ls 1 [(0, .ref p0)] := hl
  generalize ([.ref p0] : List Value).toArray = args
  have hx := C.1
  have hb := C.2.1
  unfold V_X11_clear at h
  refine lv_aload_n hx hb dX11_clear_0 rfl (lv_at hl 0 rfl) ?_
  obtain ⟨g1, h⟩ := h
  obtain ⟨g2, h⟩ := h
  refine q_getR C hP (k := 2) (lay_X11 C.hA) rfl (by decide) g1 g2 (fl_X11_26 C.hA) dX11_clear_1 ?_
  obtain ⟨g3, h⟩ := h
  refine q_calv (q_runVN C hP (c_X1_empty h) (cd_X1_empty C.hA) (ini_X1 C.hA) (mn_X11_344 C.hA) (im_X1_empty C.hA) (sl_X1_empty C.hA) g3 (by decide) rfl hd_X1_empty ⟨rfl, rfl⟩ ⟨Nat.le_of_ble_eq_true rfl, Nat.le_of_ble_eq_true rfl⟩ ⟨Nat.le_of_ble_eq_true rfl, Nat.le_of_ble_eq_true rfl⟩ hl.1 rfl (Nat.le_of_ble_eq_true rfl) dX11_clear_4) hP (fun u_4 H locs h hP => ?_)
  exact q_vret C hr hlk hP h (by decide) (by decide) dX11_clear_7
-- X11_image
abbrev rm_X11_image : Room := { frames := 3, cells := 0, slots := 0, locals := 83 }
theorem hd_X11_image : yX11_image.cls ≠ "java/lang/invoke/MethodHandle" ∧ yX11_image.cls ≠ "java/lang/invoke/VarHandle" ∧ (parseMethodDescriptor yX11_image.desc).map (fun d => d.parameters.length) = some 0 := by decide +kernel
def V_X11_image (G : Gx) (p0 : Nat) (u : Mm) (Q : Mm → Prop) : Prop :=
  kd G p0 = 11 ∧ (gR u p0 3) ≠ 0 ∧ (gR u p0 2) ≠ 0 ∧ kd G (gR u p0 3) = 1 ∧ V_X1_copyFrom G (gR u p0 3) (gR u p0 2) u (fun (u_8 : Mm) => ∀ u_13 : Mm, u_13 = sI u_8 p0 4 (1 : Int32) → Q u_13)
set_option maxHeartbeats 4000000 in
set_option maxRecDepth 100000 in
theorem c_X11_image {l : Launch} {G : Gx} {p0 : Nat} {u : Mm} {Q : Mm → Prop} (h : V_X11_image G p0 u Q) : Met l yX11_image [.code yX11_image cX11_image 1 none] rm_X11_image (va_Pc [.ref p0] (Wd G u)) (Ev G Q) 0 0 (ag G) := by
  refine q_met (by decide) (Nat.le_of_ble_eq_true rfl) ?_
  intro p e s m below meth c ls C hr hlk hnm hl hP
  have hl : lv_has ls 1 [(0, .ref p0)] := hl
  generalize ([.ref p0] : List Value).toArray = args
  have hx := C.1
  have hb := C.2.1
  unfold V_X11_image at h
  refine lv_aload_n hx hb dX11_image_0 rfl (lv_at hl 0 rfl) ?_
  obtain ⟨g1, h⟩ := h
  obtain ⟨g2, h⟩ := h
  refine q_getR C hP (k := 3) (lay_X11 C.hA) rfl (by decide) g1 g2 (fl_X11_30 C.hA) dX11_image_1 ?_
  refine lv_aload_n hx hb dX11_image_4 rfl (lv_at hl 0 rfl) ?_
  obtain ⟨g3, h⟩ := h
  refine q_getR C hP (k := 2) (lay_X11 C.hA) rfl (by decide) g1 g3 (fl_X11_26 C.hA) dX11_image_5 ?_
  obtain ⟨g4, h⟩ := h
  refine q_calv (q_runVN C hP (c_X1_copyFrom h) (cd_X1_copyFrom C.hA) (ini_X1 C.hA) (mn_X11_347 C.hA) (im_X1_copyFrom C.hA) (sl_X1_copyFrom C.hA) g4 (by decide) rfl hd_X1_copyFrom ⟨rfl, rfl⟩ ⟨Nat.le_of_ble_eq_true rfl, Nat.le_of_ble_eq_true rfl⟩ ⟨Nat.le_of_ble_eq_true rfl, Nat.le_of_ble_eq_true rfl⟩ hl.1 rfl (Nat.le_of_ble_eq_true rfl) dX11_image_8) hP (fun u_8 H locs h hP => ?_)
  refine lv_aload_n hx hb dX11_image_11 rfl (lv_at hl 0 rfl) ?_
  refine lv_iconst (v := (1 : Int32)) hx hb dX11_image_12 (by decide) ?_
  refine q_putI C hP (k := 4) tyX11_ok nmX11 (lay_X11 C.hA) rfl (by decide) rfl rfl (nb01 (by decide)) (fb01 (by decide)) g1 (fl_X11_33 C.hA) dX11_image_13 (fun H locs hP => ?_)
  obtain ⟨u_13, eu_13, hP⟩ := Hp.nm hP
  have h := h u_13 eu_13
  exact q_vret C hr hlk hP h (by decide) (by decide) dX11_image_16
-- X11_restore
abbrev rm_X11_restore : Room := { frames := 3, cells := 0, slots := 0, locals := 83 }
theorem hd_X11_restore : yX11_restore.cls ≠ "java/lang/invoke/MethodHandle" ∧ yX11_restore.cls ≠ "java/lang/invoke/VarHandle" ∧ (parseMethodDescriptor yX11_restore.desc).map (fun d => d.parameters.length) = some 0 := by decide +kernel
def V_X11_restore (G : Gx) (p0 : Nat) (u : Mm) (Q : Int32 → Mm → Prop) : Prop :=
  kd G p0 = 11 ∧ (((gI u p0 4) = 0 → ((gI u p0 4) = 0 ∨ (gI u p0 4) = 1) ∧ Q (gI u p0 4) u) ∧ (¬ (gI u p0 4) = 0 → (gR u p0 2) ≠ 0 ∧ (gR u p0 3) ≠ 0 ∧ kd G (gR u p0 2) = 1 ∧ V_X1_copyFrom G (gR u p0 2) (gR u p0 3) u (fun (u_15 : Mm) => ((gI u_15 p0 4) = 0 ∨ (gI u_15 p0 4) = 1) ∧ Q (gI u_15 p0 4) u_15)))
set_option maxHeartbeats 4000000 in
set_option maxRecDepth 100000 in
theorem c_X11_restore {l : Launch} {G : Gx} {p0 : Nat} {u : Mm} {Q : Int32 → Mm → Prop} (h : V_X11_restore G p0 u Q) : Met l yX11_restore [.code yX11_restore cX11_restore 1 (some .boolean)] rm_X11_restore (va_Pc [.ref p0] (Wd G u)) (Ei G Q) 0 0 (ag G) := by
  refine q_met (by decide) (Nat.le_of_ble_eq_true rfl) ?_
  intro p e s m below meth c ls C hr hlk hnm hl hP
  have hl : lv_has ls 1 [(0, .ref p0)] := hl
  generalize ([.ref p0] : List Value).toArray = args
  have hx := C.1
  have hb := C.2.1
  unfold V_X11_restore at h
  refine lv_aload_n hx hb dX11_restore_0 rfl (lv_at hl 0 rfl) ?_
  obtain ⟨g1, h⟩ := h
  refine q_getI C hP (k := 4) (lay_X11 C.hA) rfl (by decide) g1 (fl_X11_33 C.hA) dX11_restore_1 ?_
  refine lv_if_eq (tgt := 18) hx hb dX11_restore_4 (by decide) (fun c4 => ?_) (fun c4 => ?_)
  · have h := h.1 c4
    refine lv_aload_n hx hb dX11_restore_18 rfl (lv_at hl 0 rfl) ?_
    refine q_getI C hP (k := 4) (lay_X11 C.hA) rfl (by decide) g1 (fl_X11_33 C.hA) dX11_restore_19 ?_
    obtain ⟨g2, h⟩ := h
    exact q_zret C hr hlk hP g2 h (by decide) (by decide) dX11_restore_22
  · have h := h.2 c4
    refine lv_aload_n hx hb dX11_restore_7 rfl (lv_at hl 0 rfl) ?_
    obtain ⟨g3, h⟩ := h
    refine q_getR C hP (k := 2) (lay_X11 C.hA) rfl (by decide) g1 g3 (fl_X11_26 C.hA) dX11_restore_8 ?_
    refine lv_aload_n hx hb dX11_restore_11 rfl (lv_at hl 0 rfl) ?_
    obtain ⟨g4, h⟩ := h
    refine q_getR C hP (k := 3) (lay_X11 C.hA) rfl (by decide) g1 g4 (fl_X11_30 C.hA) dX11_restore_12 ?_
    obtain ⟨g5, h⟩ := h
    refine q_calv (q_runVN C hP (c_X1_copyFrom h) (cd_X1_copyFrom C.hA) (ini_X1 C.hA) (mn_X11_347 C.hA) (im_X1_copyFrom C.hA) (sl_X1_copyFrom C.hA) g5 (by decide) rfl hd_X1_copyFrom ⟨rfl, rfl⟩ ⟨Nat.le_of_ble_eq_true rfl, Nat.le_of_ble_eq_true rfl⟩ ⟨Nat.le_of_ble_eq_true rfl, Nat.le_of_ble_eq_true rfl⟩ hl.1 rfl (Nat.le_of_ble_eq_true rfl) dX11_restore_15) hP (fun u_15 H locs h hP => ?_)
    refine lv_aload_n hx hb dX11_restore_18 rfl (lv_at hl 0 rfl) ?_
    refine q_getI C hP (k := 4) (lay_X11 C.hA) rfl (by decide) g1 (fl_X11_33 C.hA) dX11_restore_19 ?_
    obtain ⟨g6, h⟩ := h
    exact q_zret C hr hlk hP g6 h (by decide) (by decide) dX11_restore_22
