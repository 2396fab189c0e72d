-- L_land
abbrev rm_L_land : Room := { frames := 9, cells := 2, slots := 12, locals := 195 }
theorem hd_L_land : yL_land.cls ≠ "java/lang/invoke/MethodHandle" ∧ yL_land.cls ≠ "java/lang/invoke/VarHandle" ∧ (parseMethodDescriptor yL_land.desc).map (fun d => d.parameters.length) = some 4 := by decide +kernel
def V_L_land (G : Gx) (p0 : Nat) (p1 : Int32) (p2 : Int32) (p3 : Nat) (u : Mm) (Q : Int32 → Mm → Prop) : Prop :=
  kd G p0 = 11 ∧ V_X11_land G p0 p1 p2 u (fun (v : Int32) (u1 : Mm) => kd G p3 = 15 ∧ vp_in 0 (ln G p3) ∧ (∀ u2 : Mm, u2 = sL u1 p3 (0 : Int32).toNatClampNeg v.toInt64 → Q 0 u2)) (fun E u1 => (E = "java/util/NoSuchElementException" ∧ Q 1 u1) ∨ (E = "java/lang/IllegalArgumentException" ∧ Q 2 u1))
set_option maxHeartbeats 4000000 in
set_option maxRecDepth 100000 in
theorem c_L_land {l : Launch} (hst : l.stackTraces = false) {G : Gx} {p0 : Nat} {p1 : Int32} {p2 : Int32} {p3 : Nat} {u : Mm} {Q : Int32 → Mm → Prop} (h : V_L_land G p0 p1 p2 p3 u Q) : Met l yL_land [.codeWith yL_land cL_land 5 (some .int) [(0, 10, 13, 13), (0, 10, 17, 15)]] rm_L_land (va_Pc [.ref p0, .int p1, .int p2, .ref p3] (WdL G u)) (Ei G Q) 2 12 (ag G) := by
  refine q_metL (by decide) (Nat.le_of_ble_eq_true rfl) ?_
  intro p e s m below meth c ls C hr hlk htab hN hl hP
  have hl : lv_has ls 5 [(0, .ref p0), (1, .int p1), (2, .int p2), (3, .ref p3)] := hl
  generalize ([.ref p0, .int p1, .int p2, .ref p3] : List Value).toArray = args
  have hx := C.1
  have hb := C.2.1
  unfold V_L_land at h
  refine lv_aload_n hx hb dL_land_0 rfl (lv_at hl 3 rfl) ?_
  refine lv_iconst (v := (0 : Int32)) hx hb dL_land_1 (by decide) ?_
  refine lv_aload_n hx hb dL_land_2 rfl (lv_at hl 0 rfl) ?_
  refine lv_iload_n hx hb dL_land_3 rfl (lv_at hl 1 rfl) ?_
  refine lv_iload_n hx hb dL_land_4 rfl (lv_at hl 2 rfl) ?_
  obtain ⟨g1, h⟩ := h
  refine q_caliH (q_runVX C hP (c_X11_land hst h) (cd_X11_land C.hA) (ini_X11 C.hA) (ml_L_7 C.hA) (im_X11_land C.hA) (sl_X11_land C.hA) g1 (by decide) rfl hd_X11_land ⟨rfl, rfl⟩ ⟨Nat.le_of_ble_eq_true rfl, Nat.le_of_ble_eq_true rfl⟩ ⟨Nat.le_of_ble_eq_true rfl, Nat.le_of_ble_eq_true rfl⟩ hl.1 rfl (Nat.le_of_ble_eq_true rfl) dL_land_5) hP (fun E ce q u1 H locs hX hP e1 e2 e3 => ?_) (fun v u1 H locs h hP => ?_)
  · rcases hX with ⟨rfl, hX⟩ | ⟨rfl, hX⟩
    · skip
      refine vx_catch C.2.2.1 [] ⟨0, 10, 13, 13⟩ [⟨0, 10, 17, 15⟩] (by rw [htab]; rfl) (fun z h => nomatch h) (by decide) (by decide) (cl_L_13 C.hA) (ca_NSE C.hA) e1 e2 e3 ?_
      refine lv_astore (lv' := [(4, .ref q), (0, .ref p0), (1, .int p1), (2, .int p2), (3, .ref p3)]) hx hb dL_land_13 hl (by decide) rfl (fun ls hl => ?_)
      refine lv_iconst (v := (1 : Int32)) hx hb dL_land_15 (by decide) ?_
      exact q_iret C hr hlk hP hX (Nat.le_of_ble_eq_true rfl) (Nat.le_of_ble_eq_true rfl) dL_land_16
    · skip
      refine vx_catch C.2.2.1 [⟨0, 10, 13, 13⟩] ⟨0, 10, 17, 15⟩ [] (by rw [htab]; rfl) (fun z h => by rw [List.mem_singleton.mp h]; exact Or.inr ⟨by decide, "java/util/NoSuchElementException", cl_L_13 C.hA, hN⟩) (by decide) (by decide) (cl_L_15 C.hA) (ca_IAE C.hA) e1 e2 e3 ?_
      refine lv_astore (lv' := [(4, .ref q), (0, .ref p0), (1, .int p1), (2, .int p2), (3, .ref p3)]) hx hb dL_land_17 hl (by decide) rfl (fun ls hl => ?_)
      refine lv_iconst (v := (2 : Int32)) hx hb dL_land_19 (by decide) ?_
      exact q_iret C hr hlk hP hX (Nat.le_of_ble_eq_true rfl) (Nat.le_of_ble_eq_true rfl) dL_land_20
  · obtain ⟨g2, g3, h⟩ := h
    refine lv_i2l (v := v.toInt64) hx hb dL_land_8 rfl ?_
    refine q_last C hP g2 g3 dL_land_9 (fun H locs hP => ?_)
    obtain ⟨u2, eu2, hP⟩ := Hp.nm hP
    have h := h u2 eu2
    refine lv_goto (tgt := 21) hx hb dL_land_10 (by decide) ?_
    refine lv_iconst (v := (0 : Int32)) hx hb dL_land_21 (by decide) ?_
    exact q_iret C hr hlk hP h (Nat.le_of_ble_eq_true rfl) (Nat.le_of_ble_eq_true rfl) dL_land_22
-- L_count
abbrev rm_L_count : Room := { frames := 7, cells := 1, slots := 6, locals := 103 }
theorem hd_L_count : yL_count.cls ≠ "java/lang/invoke/MethodHandle" ∧ yL_count.cls ≠ "java/lang/invoke/VarHandle" ∧ (parseMethodDescriptor yL_count.desc).map (fun d => d.parameters.length) = some 3 := by decide +kernel
def V_L_count (G : Gx) (p0 : Nat) (p1 : Int32) (p2 : Nat) (u : Mm) (Q : Int32 → Mm → Prop) : Prop :=
  kd G p0 = 11 ∧ V_X11_count G p0 p1 u (fun (v : Int32) (u1 : Mm) => kd G p2 = 15 ∧ vp_in 0 (ln G p2) ∧ (∀ u2 : Mm, u2 = sL u1 p2 (0 : Int32).toNatClampNeg v.toInt64 → Q 0 u2)) (fun E u1 => (E = "java/util/NoSuchElementException" ∧ Q 1 u1))
set_option maxHeartbeats 4000000 in
set_option maxRecDepth 100000 in
theorem c_L_count {l : Launch} (hst : l.stackTraces = false) {G : Gx} {p0 : Nat} {p1 : Int32} {p2 : Nat} {u : Mm} {Q : Int32 → Mm → Prop} (h : V_L_count G p0 p1 p2 u Q) : Met l yL_count [.codeWith yL_count cL_count 4 (some .int) [(0, 9, 12, 13)]] rm_L_count (va_Pc [.ref p0, .int p1, .ref p2] (WdL G u)) (Ei G Q) 1 6 (ag G) := by
  refine q_metL (by decide) (Nat.le_of_ble_eq_true rfl) ?_
  intro p e s m below meth c ls C hr hlk htab hN hl hP
  have hl : lv_has ls 4 [(0, .ref p0), (1, .int p1), (2, .ref p2)] := hl
  generalize ([.ref p0, .int p1, .ref p2] : List Value).toArray = args
  have hx := C.1
  have hb := C.2.1
  unfold V_L_count at h
  refine lv_aload_n hx hb dL_count_0 rfl (lv_at hl 2 rfl) ?_
  refine lv_iconst (v := (0 : Int32)) hx hb dL_count_1 (by decide) ?_
  refine lv_aload_n hx hb dL_count_2 rfl (lv_at hl 0 rfl) ?_
  refine lv_iload_n hx hb dL_count_3 rfl (lv_at hl 1 rfl) ?_
  obtain ⟨g1, h⟩ := h
  refine q_caliH (q_runVX C hP (c_X11_count hst h) (cd_X11_count C.hA) (ini_X11 C.hA) (ml_L_17 C.hA) (im_X11_count C.hA) (sl_X11_count C.hA) g1 (by decide) rfl hd_X11_count ⟨rfl, rfl⟩ ⟨Nat.le_of_ble_eq_true rfl, Nat.le_of_ble_eq_true rfl⟩ ⟨Nat.le_of_ble_eq_true rfl, Nat.le_of_ble_eq_true rfl⟩ hl.1 rfl (Nat.le_of_ble_eq_true rfl) dL_count_4) hP (fun E ce q u1 H locs hX hP e1 e2 e3 => ?_) (fun v u1 H locs h hP => ?_)
  · obtain ⟨rfl, hX⟩ := hX
    refine vx_catch C.2.2.1 [] ⟨0, 9, 12, 13⟩ [] (by rw [htab]; rfl) (fun z h => nomatch h) (by decide) (by decide) (cl_L_13 C.hA) (ca_NSE C.hA) e1 e2 e3 ?_
    refine lv_astore_n (lv' := [(3, .ref q), (0, .ref p0), (1, .int p1), (2, .ref p2)]) hx hb dL_count_12 rfl hl (by decide) rfl (fun ls hl => ?_)
    refine lv_iconst (v := (1 : Int32)) hx hb dL_count_13 (by decide) ?_
    exact q_iret C hr hlk hP hX (Nat.le_of_ble_eq_true rfl) (Nat.le_of_ble_eq_true rfl) dL_count_14
  · obtain ⟨g2, g3, h⟩ := h
    refine lv_i2l (v := v.toInt64) hx hb dL_count_7 rfl ?_
    refine q_last C hP g2 g3 dL_count_8 (fun H locs hP => ?_)
    obtain ⟨u2, eu2, hP⟩ := Hp.nm hP
    have h := h u2 eu2
    refine lv_goto (tgt := 15) hx hb dL_count_9 (by decide) ?_
    refine lv_iconst (v := (0 : Int32)) hx hb dL_count_15 (by decide) ?_
    exact q_iret C hr hlk hP h (Nat.le_of_ble_eq_true rfl) (Nat.le_of_ble_eq_true rfl) dL_count_16
-- L_about
abbrev rm_L_about : Room := { frames := 8, cells := 2, slots := 12, locals := 126 }
theorem hd_L_about : yL_about.cls ≠ "java/lang/invoke/MethodHandle" ∧ yL_about.cls ≠ "java/lang/invoke/VarHandle" ∧ (parseMethodDescriptor yL_about.desc).map (fun d => d.parameters.length) = some 4 := by decide +kernel
def V_L_about (G : Gx) (p0 : Nat) (p1 : Int32) (p2 : Int32) (p3 : Nat) (u : Mm) (Q : Int32 → Mm → Prop) : Prop :=
  kd G p0 = 11 ∧ V_X11_about G p0 p1 p2 u (fun (v : Int32) (u1 : Mm) => kd G p3 = 15 ∧ vp_in 0 (ln G p3) ∧ (∀ u2 : Mm, u2 = sL u1 p3 (0 : Int32).toNatClampNeg v.toInt64 → Q 0 u2)) (fun E u1 => (E = "java/util/NoSuchElementException" ∧ Q 1 u1))
set_option maxHeartbeats 4000000 in
set_option maxRecDepth 100000 in
theorem c_L_about {l : Launch} (hst : l.stackTraces = false) {G : Gx} {p0 : Nat} {p1 : Int32} {p2 : Int32} {p3 : Nat} {u : Mm} {Q : Int32 → Mm → Prop} (h : V_L_about G p0 p1 p2 p3 u Q) : Met l yL_about [.codeWith yL_about cL_about 5 (some .int) [(0, 10, 13, 13)]] rm_L_about (va_Pc [.ref p0, .int p1, .int p2, .ref p3] (WdL G u)) (Ei G Q) 2 12 (ag G) := by
  refine q_metL (by decide) (Nat.le_of_ble_eq_true rfl) ?_
  intro p e s m below meth c ls C hr hlk htab hN hl hP
  have hl : lv_has ls 5 [(0, .ref p0), (1, .int p1), (2, .int p2), (3, .ref p3)] := hl
  generalize ([.ref p0, .int p1, .int p2, .ref p3] : List Value).toArray = args
  have hx := C.1
  have hb := C.2.1
  unfold V_L_about at h
  refine lv_aload_n hx hb dL_about_0 rfl (lv_at hl 3 rfl) ?_
  refine lv_iconst (v := (0 : Int32)) hx hb dL_about_1 (by decide) ?_
  refine lv_aload_n hx hb dL_about_2 rfl (lv_at hl 0 rfl) ?_
  refine lv_iload_n hx hb dL_about_3 rfl (lv_at hl 1 rfl) ?_
  refine lv_iload_n hx hb dL_about_4 rfl (lv_at hl 2 rfl) ?_
  obtain ⟨g1, h⟩ := h
  refine q_caliH (q_runVX C hP (c_X11_about hst h) (cd_X11_about C.hA) (ini_X11 C.hA) (ml_L_21 C.hA) (im_X11_about C.hA) (sl_X11_about C.hA) g1 (by decide) rfl hd_X11_about ⟨rfl, rfl⟩ ⟨Nat.le_of_ble_eq_true rfl, Nat.le_of_ble_eq_true rfl⟩ ⟨Nat.le_of_ble_eq_true rfl, Nat.le_of_ble_eq_true rfl⟩ hl.1 rfl (Nat.le_of_ble_eq_true rfl) dL_about_5) hP (fun E ce q u1 H locs hX hP e1 e2 e3 => ?_) (fun v u1 H locs h hP => ?_)
  · obtain ⟨rfl, hX⟩ := hX
    refine vx_catch C.2.2.1 [] ⟨0, 10, 13, 13⟩ [] (by rw [htab]; rfl) (fun z h => nomatch h) (by decide) (by decide) (cl_L_13 C.hA) (ca_NSE C.hA) e1 e2 e3 ?_
    refine lv_astore (lv' := [(4, .ref q), (0, .ref p0), (1, .int p1), (2, .int p2), (3, .ref p3)]) hx hb dL_about_13 hl (by decide) rfl (fun ls hl => ?_)
    refine lv_iconst (v := (1 : Int32)) hx hb dL_about_15 (by decide) ?_
    exact q_iret C hr hlk hP hX (Nat.le_of_ble_eq_true rfl) (Nat.le_of_ble_eq_true rfl) dL_about_16
  · obtain ⟨g2, g3, h⟩ := h
    refine lv_i2l (v := v.toInt64) hx hb dL_about_8 rfl ?_
    refine q_last C hP g2 g3 dL_about_9 (fun H locs hP => ?_)
    obtain ⟨u2, eu2, hP⟩ := Hp.nm hP
    have h := h u2 eu2
    refine lv_goto (tgt := 17) hx hb dL_about_10 (by decide) ?_
    refine lv_iconst (v := (0 : Int32)) hx hb dL_about_17 (by decide) ?_
    exact q_iret C hr hlk hP h (Nat.le_of_ble_eq_true rfl) (Nat.le_of_ble_eq_true rfl) dL_about_18
-- L_clap
abbrev rm_L_clap : Room := { frames := 9, cells := 5, slots := 30, locals := 157 }
theorem hd_L_clap : yL_clap.cls ≠ "java/lang/invoke/MethodHandle" ∧ yL_clap.cls ≠ "java/lang/invoke/VarHandle" ∧ (parseMethodDescriptor yL_clap.desc).map (fun d => d.parameters.length) = some 8 := by decide +kernel
def V_L_clap (G : Gx) (p0 : Nat) (p1 : Int32) (p2 : Int32) (p3 : Int32) (p4 : Int32) (p5 : Int32) (p6 : Int32) (p7 : Nat) (u : Mm) (Q : Int32 → Mm → Prop) : Prop :=
  kd G p0 = 11 ∧ V_X11_clap G p0 p1 p2 p3 p4 p5 p6 u (fun (v : Int32) (u1 : Mm) => kd G p7 = 15 ∧ vp_in 0 (ln G p7) ∧ (∀ u2 : Mm, u2 = sL u1 p7 (0 : Int32).toNatClampNeg v.toInt64 → Q 0 u2)) (fun E u1 => (E = "java/util/NoSuchElementException" ∧ Q 1 u1))
set_option maxHeartbeats 4000000 in
set_option maxRecDepth 100000 in
theorem c_L_clap {l : Launch} (hst : l.stackTraces = false) {G : Gx} {p0 : Nat} {p1 : Int32} {p2 : Int32} {p3 : Int32} {p4 : Int32} {p5 : Int32} {p6 : Int32} {p7 : Nat} {u : Mm} {Q : Int32 → Mm → Prop} (h : V_L_clap G p0 p1 p2 p3 p4 p5 p6 p7 u Q) : Met l yL_clap [.codeWith yL_clap cL_clap 9 (some .int) [(0, 18, 21, 13)]] rm_L_clap (va_Pc [.ref p0, .int p1, .int p2, .int p3, .int p4, .int p5, .int p6, .ref p7] (WdL G u)) (Ei G Q) 5 30 (ag G) := by
  refine q_metL (by decide) (Nat.le_of_ble_eq_true rfl) ?_
  intro p e s m below meth c ls C hr hlk htab hN hl hP
  have hl : lv_has ls 9 [(0, .ref p0), (1, .int p1), (2, .int p2), (3, .int p3), (4, .int p4), (5, .int p5), (6, .int p6), (7, .ref p7)] := hl
  generalize ([.ref p0, .int p1, .int p2, .int p3, .int p4, .int p5, .int p6, .ref p7] : List Value).toArray = args
  have hx := C.1
  have hb := C.2.1
  unfold V_L_clap at h
  refine lv_aload hx hb dL_clap_0 (lv_at hl 7 rfl) ?_
  refine lv_iconst (v := (0 : Int32)) hx hb dL_clap_2 (by decide) ?_
  refine lv_aload_n hx hb dL_clap_3 rfl (lv_at hl 0 rfl) ?_
  refine lv_iload_n hx hb dL_clap_4 rfl (lv_at hl 1 rfl) ?_
  refine lv_iload_n hx hb dL_clap_5 rfl (lv_at hl 2 rfl) ?_
  refine lv_iload_n hx hb dL_clap_6 rfl (lv_at hl 3 rfl) ?_
  refine lv_iload hx hb dL_clap_7 (lv_at hl 4 rfl) ?_
  refine lv_iload hx hb dL_clap_9 (lv_at hl 5 rfl) ?_
  refine lv_iload hx hb dL_clap_11 (lv_at hl 6 rfl) ?_
  obtain ⟨g1, h⟩ := h
  refine q_caliH (q_runVX C hP (c_X11_clap hst h) (cd_X11_clap C.hA) (ini_X11 C.hA) (ml_L_24 C.hA) (im_X11_clap C.hA) (sl_X11_clap C.hA) g1 (by decide) rfl hd_X11_clap ⟨rfl, rfl⟩ ⟨Nat.le_of_ble_eq_true rfl, Nat.le_of_ble_eq_true rfl⟩ ⟨Nat.le_of_ble_eq_true rfl, Nat.le_of_ble_eq_true rfl⟩ hl.1 rfl (Nat.le_of_ble_eq_true rfl) dL_clap_13) hP (fun E ce q u1 H locs hX hP e1 e2 e3 => ?_) (fun v u1 H locs h hP => ?_)
  · obtain ⟨rfl, hX⟩ := hX
    refine vx_catch C.2.2.1 [] ⟨0, 18, 21, 13⟩ [] (by rw [htab]; rfl) (fun z h => nomatch h) (by decide) (by decide) (cl_L_13 C.hA) (ca_NSE C.hA) e1 e2 e3 ?_
    refine lv_astore (lv' := [(8, .ref q), (0, .ref p0), (1, .int p1), (2, .int p2), (3, .int p3), (4, .int p4), (5, .int p5), (6, .int p6), (7, .ref p7)]) hx hb dL_clap_21 hl (by decide) rfl (fun ls hl => ?_)
    refine lv_iconst (v := (1 : Int32)) hx hb dL_clap_23 (by decide) ?_
    exact q_iret C hr hlk hP hX (Nat.le_of_ble_eq_true rfl) (Nat.le_of_ble_eq_true rfl) dL_clap_24
  · obtain ⟨g2, g3, h⟩ := h
    refine lv_i2l (v := v.toInt64) hx hb dL_clap_16 rfl ?_
    refine q_last C hP g2 g3 dL_clap_17 (fun H locs hP => ?_)
    obtain ⟨u2, eu2, hP⟩ := Hp.nm hP
    have h := h u2 eu2
    refine lv_goto (tgt := 25) hx hb dL_clap_18 (by decide) ?_
    refine lv_iconst (v := (0 : Int32)) hx hb dL_clap_25 (by decide) ?_
    exact q_iret C hr hlk hP h (Nat.le_of_ble_eq_true rfl) (Nat.le_of_ble_eq_true rfl) dL_clap_26
-- L_strength
abbrev rm_L_strength : Room := { frames := 9, cells := 5, slots := 30, locals := 156 }
theorem hd_L_strength : yL_strength.cls ≠ "java/lang/invoke/MethodHandle" ∧ yL_strength.cls ≠ "java/lang/invoke/VarHandle" ∧ (parseMethodDescriptor yL_strength.desc).map (fun d => d.parameters.length) = some 8 := by decide +kernel
def V_L_strength (G : Gx) (p0 : Nat) (p1 : Int32) (p2 : Int32) (p3 : Int32) (p4 : Int32) (p5 : Int32) (p6 : Int32) (p7 : Nat) (u : Mm) (Q : Int32 → Mm → Prop) : Prop :=
  kd G p0 = 11 ∧ V_X11_strength G p0 p1 p2 p3 p4 p5 p6 u (fun (v : Int32) (u1 : Mm) => kd G p7 = 15 ∧ vp_in 0 (ln G p7) ∧ (∀ u2 : Mm, u2 = sL u1 p7 (0 : Int32).toNatClampNeg v.toInt64 → Q 0 u2)) (fun E u1 => (E = "java/util/NoSuchElementException" ∧ Q 1 u1))
set_option maxHeartbeats 4000000 in
set_option maxRecDepth 100000 in
theorem c_L_strength {l : Launch} (hst : l.stackTraces = false) {G : Gx} {p0 : Nat} {p1 : Int32} {p2 : Int32} {p3 : Int32} {p4 : Int32} {p5 : Int32} {p6 : Int32} {p7 : Nat} {u : Mm} {Q : Int32 → Mm → Prop} (h : V_L_strength G p0 p1 p2 p3 p4 p5 p6 p7 u Q) : Met l yL_strength [.codeWith yL_strength cL_strength 9 (some .int) [(0, 18, 21, 13)]] rm_L_strength (va_Pc [.ref p0, .int p1, .int p2, .int p3, .int p4, .int p5, .int p6, .ref p7] (WdL G u)) (Ei G Q) 5 30 (ag G) := by
  refine q_metL (by decide) (Nat.le_of_ble_eq_true rfl) ?_
  intro p e s m below meth c ls C hr hlk htab hN hl hP
  have hl : lv_has ls 9 [(0, .ref p0), (1, .int p1), (2, .int p2), (3, .int p3), (4, .int p4), (5, .int p5), (6, .int p6), (7, .ref p7)] := hl
  generalize ([.ref p0, .int p1, .int p2, .int p3, .int p4, .int p5, .int p6, .ref p7] : List Value).toArray = args
  have hx := C.1
  have hb := C.2.1
  unfold V_L_strength at h
  refine lv_aload hx hb dL_strength_0 (lv_at hl 7 rfl) ?_
  refine lv_iconst (v := (0 : Int32)) hx hb dL_strength_2 (by decide) ?_
  refine lv_aload_n hx hb dL_strength_3 rfl (lv_at hl 0 rfl) ?_
  refine lv_iload_n hx hb dL_strength_4 rfl (lv_at hl 1 rfl) ?_
  refine lv_iload_n hx hb dL_strength_5 rfl (lv_at hl 2 rfl) ?_
  refine lv_iload_n hx hb dL_strength_6 rfl (lv_at hl 3 rfl) ?_
  refine lv_iload hx hb dL_strength_7 (lv_at hl 4 rfl) ?_
  refine lv_iload hx hb dL_strength_9 (lv_at hl 5 rfl) ?_
  refine lv_iload hx hb dL_strength_11 (lv_at hl 6 rfl) ?_
  obtain ⟨g1, h⟩ := h
  refine q_caliH (q_runVX C hP (c_X11_strength hst h) (cd_X11_strength C.hA) (ini_X11 C.hA) (ml_L_28 C.hA) (im_X11_strength C.hA) (sl_X11_strength C.hA) g1 (by decide) rfl hd_X11_strength ⟨rfl, rfl⟩ ⟨Nat.le_of_ble_eq_true rfl, Nat.le_of_ble_eq_true rfl⟩ ⟨Nat.le_of_ble_eq_true rfl, Nat.le_of_ble_eq_true rfl⟩ hl.1 rfl (Nat.le_of_ble_eq_true rfl) dL_strength_13) hP (fun E ce q u1 H locs hX hP e1 e2 e3 => ?_) (fun v u1 H locs h hP => ?_)
  · obtain ⟨rfl, hX⟩ := hX
    refine vx_catch C.2.2.1 [] ⟨0, 18, 21, 13⟩ [] (by rw [htab]; rfl) (fun z h => nomatch h) (by decide) (by decide) (cl_L_13 C.hA) (ca_NSE C.hA) e1 e2 e3 ?_
    refine lv_astore (lv' := [(8, .ref q), (0, .ref p0), (1, .int p1), (2, .int p2), (3, .int p3), (4, .int p4), (5, .int p5), (6, .int p6), (7, .ref p7)]) hx hb dL_strength_21 hl (by decide) rfl (fun ls hl => ?_)
    refine lv_iconst (v := (1 : Int32)) hx hb dL_strength_23 (by decide) ?_
    exact q_iret C hr hlk hP hX (Nat.le_of_ble_eq_true rfl) (Nat.le_of_ble_eq_true rfl) dL_strength_24
  · obtain ⟨g2, g3, h⟩ := h
    refine lv_i2l (v := v.toInt64) hx hb dL_strength_16 rfl ?_
    refine q_last C hP g2 g3 dL_strength_17 (fun H locs hP => ?_)
    obtain ⟨u2, eu2, hP⟩ := Hp.nm hP
    have h := h u2 eu2
    refine lv_goto (tgt := 25) hx hb dL_strength_18 (by decide) ?_
    refine lv_iconst (v := (0 : Int32)) hx hb dL_strength_25 (by decide) ?_
    exact q_iret C hr hlk hP h (Nat.le_of_ble_eq_true rfl) (Nat.le_of_ble_eq_true rfl) dL_strength_26
-- L_tick
abbrev rm_L_tick : Room := { frames := 8, cells := 1, slots := 6, locals := 126 }
theorem hd_L_tick : yL_tick.cls ≠ "java/lang/invoke/MethodHandle" ∧ yL_tick.cls ≠ "java/lang/invoke/VarHandle" ∧ (parseMethodDescriptor yL_tick.desc).map (fun d => d.parameters.length) = some 4 := by decide +kernel
def V_L_tick (G : Gx) (p0 : Nat) (p1 : Int32) (p2 : Int32) (p3 : Nat) (u : Mm) (Q : Int32 → Mm → Prop) : Prop :=
  kd G p0 = 11 ∧ V_X11_tick G p0 p1 p2 u (fun (v : Int32) (u1 : Mm) => kd G p3 = 15 ∧ vp_in 0 (ln G p3) ∧ (∀ u2 : Mm, u2 = sL u1 p3 (0 : Int32).toNatClampNeg v.toInt64 → Q 0 u2)) (fun E u1 => (E = "java/util/NoSuchElementException" ∧ Q 1 u1))
set_option maxHeartbeats 4000000 in
set_option maxRecDepth 100000 in
theorem c_L_tick {l : Launch} (hst : l.stackTraces = false) {G : Gx} {p0 : Nat} {p1 : Int32} {p2 : Int32} {p3 : Nat} {u : Mm} {Q : Int32 → Mm → Prop} (h : V_L_tick G p0 p1 p2 p3 u Q) : Met l yL_tick [.codeWith yL_tick cL_tick 5 (some .int) [(0, 10, 13, 13)]] rm_L_tick (va_Pc [.ref p0, .int p1, .int p2, .ref p3] (WdL G u)) (Ei G Q) 1 6 (ag G) := by
  refine q_metL (by decide) (Nat.le_of_ble_eq_true rfl) ?_
  intro p e s m below meth c ls C hr hlk htab hN hl hP
  have hl : lv_has ls 5 [(0, .ref p0), (1, .int p1), (2, .int p2), (3, .ref p3)] := hl
  generalize ([.ref p0, .int p1, .int p2, .ref p3] : List Value).toArray = args
  have hx := C.1
  have hb := C.2.1
  unfold V_L_tick at h
  refine lv_aload_n hx hb dL_tick_0 rfl (lv_at hl 3 rfl) ?_
  refine lv_iconst (v := (0 : Int32)) hx hb dL_tick_1 (by decide) ?_
  refine lv_aload_n hx hb dL_tick_2 rfl (lv_at hl 0 rfl) ?_
  refine lv_iload_n hx hb dL_tick_3 rfl (lv_at hl 1 rfl) ?_
  refine lv_iload_n hx hb dL_tick_4 rfl (lv_at hl 2 rfl) ?_
  obtain ⟨g1, h⟩ := h
  refine q_caliH (q_runVX C hP (c_X11_tick hst h) (cd_X11_tick C.hA) (ini_X11 C.hA) (ml_L_31 C.hA) (im_X11_tick C.hA) (sl_X11_tick C.hA) g1 (by decide) rfl hd_X11_tick ⟨rfl, rfl⟩ ⟨Nat.le_of_ble_eq_true rfl, Nat.le_of_ble_eq_true rfl⟩ ⟨Nat.le_of_ble_eq_true rfl, Nat.le_of_ble_eq_true rfl⟩ hl.1 rfl (Nat.le_of_ble_eq_true rfl) dL_tick_5) hP (fun E ce q u1 H locs hX hP e1 e2 e3 => ?_) (fun v u1 H locs h hP => ?_)
  · obtain ⟨rfl, hX⟩ := hX
    refine vx_catch C.2.2.1 [] ⟨0, 10, 13, 13⟩ [] (by rw [htab]; rfl) (fun z h => nomatch h) (by decide) (by decide) (cl_L_13 C.hA) (ca_NSE C.hA) e1 e2 e3 ?_
    refine lv_astore (lv' := [(4, .ref q), (0, .ref p0), (1, .int p1), (2, .int p2), (3, .ref p3)]) hx hb dL_tick_13 hl (by decide) rfl (fun ls hl => ?_)
    refine lv_iconst (v := (1 : Int32)) hx hb dL_tick_15 (by decide) ?_
    exact q_iret C hr hlk hP hX (Nat.le_of_ble_eq_true rfl) (Nat.le_of_ble_eq_true rfl) dL_tick_16
  · obtain ⟨g2, g3, h⟩ := h
    refine lv_i2l (v := v.toInt64) hx hb dL_tick_8 rfl ?_
    refine q_last C hP g2 g3 dL_tick_9 (fun H locs hP => ?_)
    obtain ⟨u2, eu2, hP⟩ := Hp.nm hP
    have h := h u2 eu2
    refine lv_goto (tgt := 17) hx hb dL_tick_10 (by decide) ?_
    refine lv_iconst (v := (0 : Int32)) hx hb dL_tick_17 (by decide) ?_
    exact q_iret C hr hlk hP h (Nat.le_of_ble_eq_true rfl) (Nat.le_of_ble_eq_true rfl) dL_tick_18
-- L_told
abbrev rm_L_told : Room := { frames := 8, cells := 2, slots := 12, locals := 126 }
theorem hd_L_told : yL_told.cls ≠ "java/lang/invoke/MethodHandle" ∧ yL_told.cls ≠ "java/lang/invoke/VarHandle" ∧ (parseMethodDescriptor yL_told.desc).map (fun d => d.parameters.length) = some 4 := by decide +kernel
def V_L_told (G : Gx) (p0 : Nat) (p1 : Int32) (p2 : Int32) (p3 : Nat) (u : Mm) (Q : Int32 → Mm → Prop) : Prop :=
  kd G p0 = 11 ∧ V_X11_told G p0 p1 p2 u (fun (v : Int32) (u1 : Mm) => kd G p3 = 15 ∧ vp_in 0 (ln G p3) ∧ (∀ u2 : Mm, u2 = sL u1 p3 (0 : Int32).toNatClampNeg v.toInt64 → Q 0 u2)) (fun E u1 => (E = "java/util/NoSuchElementException" ∧ Q 1 u1))
set_option maxHeartbeats 4000000 in
set_option maxRecDepth 100000 in
theorem c_L_told {l : Launch} (hst : l.stackTraces = false) {G : Gx} {p0 : Nat} {p1 : Int32} {p2 : Int32} {p3 : Nat} {u : Mm} {Q : Int32 → Mm → Prop} (h : V_L_told G p0 p1 p2 p3 u Q) : Met l yL_told [.codeWith yL_told cL_told 5 (some .int) [(0, 10, 13, 13)]] rm_L_told (va_Pc [.ref p0, .int p1, .int p2, .ref p3] (WdL G u)) (Ei G Q) 2 12 (ag G) := by
  refine q_metL (by decide) (Nat.le_of_ble_eq_true rfl) ?_
  intro p e s m below meth c ls C hr hlk htab hN hl hP
  have hl : lv_has ls 5 [(0, .ref p0), (1, .int p1), (2, .int p2), (3, .ref p3)] := hl
  generalize ([.ref p0, .int p1, .int p2, .ref p3] : List Value).toArray = args
  have hx := C.1
  have hb := C.2.1
  unfold V_L_told at h
  refine lv_aload_n hx hb dL_told_0 rfl (lv_at hl 3 rfl) ?_
  refine lv_iconst (v := (0 : Int32)) hx hb dL_told_1 (by decide) ?_
  refine lv_aload_n hx hb dL_told_2 rfl (lv_at hl 0 rfl) ?_
  refine lv_iload_n hx hb dL_told_3 rfl (lv_at hl 1 rfl) ?_
  refine lv_iload_n hx hb dL_told_4 rfl (lv_at hl 2 rfl) ?_
  obtain ⟨g1, h⟩ := h
  refine q_caliH (q_runVX C hP (c_X11_told hst h) (cd_X11_told C.hA) (ini_X11 C.hA) (ml_L_34 C.hA) (im_X11_told C.hA) (sl_X11_told C.hA) g1 (by decide) rfl hd_X11_told ⟨rfl, rfl⟩ ⟨Nat.le_of_ble_eq_true rfl, Nat.le_of_ble_eq_true rfl⟩ ⟨Nat.le_of_ble_eq_true rfl, Nat.le_of_ble_eq_true rfl⟩ hl.1 rfl (Nat.le_of_ble_eq_true rfl) dL_told_5) hP (fun E ce q u1 H locs hX hP e1 e2 e3 => ?_) (fun v u1 H locs h hP => ?_)
  · obtain ⟨rfl, hX⟩ := hX
    refine vx_catch C.2.2.1 [] ⟨0, 10, 13, 13⟩ [] (by rw [htab]; rfl) (fun z h => nomatch h) (by decide) (by decide) (cl_L_13 C.hA) (ca_NSE C.hA) e1 e2 e3 ?_
    refine lv_astore (lv' := [(4, .ref q), (0, .ref p0), (1, .int p1), (2, .int p2), (3, .ref p3)]) hx hb dL_told_13 hl (by decide) rfl (fun ls hl => ?_)
    refine lv_iconst (v := (1 : Int32)) hx hb dL_told_15 (by decide) ?_
    exact q_iret C hr hlk hP hX (Nat.le_of_ble_eq_true rfl) (Nat.le_of_ble_eq_true rfl) dL_told_16
  · obtain ⟨g2, g3, h⟩ := h
    refine lv_i2l (v := v.toInt64) hx hb dL_told_8 rfl ?_
    refine q_last C hP g2 g3 dL_told_9 (fun H locs hP => ?_)
    obtain ⟨u2, eu2, hP⟩ := Hp.nm hP
    have h := h u2 eu2
    refine lv_goto (tgt := 17) hx hb dL_told_10 (by decide) ?_
    refine lv_iconst (v := (0 : Int32)) hx hb dL_told_17 (by decide) ?_
    exact q_iret C hr hlk hP h (Nat.le_of_ble_eq_true rfl) (Nat.le_of_ble_eq_true rfl) dL_told_18
-- L_fits
abbrev rm_L_fits : Room := { frames := 8, cells := 2, slots := 12, locals := 172 }
theorem hd_L_fits : yL_fits.cls ≠ "java/lang/invoke/MethodHandle" ∧ yL_fits.cls ≠ "java/lang/invoke/VarHandle" ∧ (parseMethodDescriptor yL_fits.desc).map (fun d => d.parameters.length) = some 4 := by decide +kernel
def V_L_fits (G : Gx) (p0 : Nat) (p1 : Int32) (p2 : Int32) (p3 : Nat) (u : Mm) (Q : Int32 → Mm → Prop) : Prop :=
  kd G p0 = 11 ∧ V_X11_fits G p0 p1 p2 u (fun (v : Int32) (u1 : Mm) => kd G p3 = 15 ∧ vp_in 0 (ln G p3) ∧ ((v = 0 → ∀ u2 : Mm, u2 = sL u1 p3 (0 : Int32).toNatClampNeg 0 → Q 0 u2) ∧ (¬ v = 0 → ∀ u2 : Mm, u2 = sL u1 p3 (0 : Int32).toNatClampNeg 1 → Q 0 u2))) (fun E u1 => (E = "java/util/NoSuchElementException" ∧ Q 1 u1))
set_option maxHeartbeats 4000000 in
set_option maxRecDepth 100000 in
theorem c_L_fits {l : Launch} (hst : l.stackTraces = false) {G : Gx} {p0 : Nat} {p1 : Int32} {p2 : Int32} {p3 : Nat} {u : Mm} {Q : Int32 → Mm → Prop} (h : V_L_fits G p0 p1 p2 p3 u Q) : Met l yL_fits [.codeWith yL_fits cL_fits 5 (some .int) [(0, 17, 20, 13)]] rm_L_fits (va_Pc [.ref p0, .int p1, .int p2, .ref p3] (WdL G u)) (Ei G Q) 2 12 (ag G) := by
  refine q_metL (by decide) (Nat.le_of_ble_eq_true rfl) ?_
  intro p e s m below meth c ls C hr hlk htab hN hl hP
  have hl : lv_has ls 5 [(0, .ref p0), (1, .int p1), (2, .int p2), (3, .ref p3)] := hl
  generalize ([.ref p0, .int p1, .int p2, .ref p3] : List Value).toArray = args
  have hx := C.1
  have hb := C.2.1
  unfold V_L_fits at h
  refine lv_aload_n hx hb dL_fits_0 rfl (lv_at hl 3 rfl) ?_
  refine lv_iconst (v := (0 : Int32)) hx hb dL_fits_1 (by decide) ?_
  refine lv_aload_n hx hb dL_fits_2 rfl (lv_at hl 0 rfl) ?_
  refine lv_iload_n hx hb dL_fits_3 rfl (lv_at hl 1 rfl) ?_
  refine lv_iload_n hx hb dL_fits_4 rfl (lv_at hl 2 rfl) ?_
  obtain ⟨g1, h⟩ := h
  refine q_caliH (q_runVX C hP (c_X11_fits hst h) (cd_X11_fits C.hA) (ini_X11 C.hA) (ml_L_37 C.hA) (im_X11_fits C.hA) (sl_X11_fits C.hA) g1 (by decide) rfl hd_X11_fits ⟨rfl, rfl⟩ ⟨Nat.le_of_ble_eq_true rfl, Nat.le_of_ble_eq_true rfl⟩ ⟨Nat.le_of_ble_eq_true rfl, Nat.le_of_ble_eq_true rfl⟩ hl.1 rfl (Nat.le_of_ble_eq_true rfl) dL_fits_5) hP (fun E ce q u1 H locs hX hP e1 e2 e3 => ?_) (fun v u1 H locs h hP => ?_)
  · obtain ⟨rfl, hX⟩ := hX
    refine vx_catch C.2.2.1 [] ⟨0, 17, 20, 13⟩ [] (by rw [htab]; rfl) (fun z h => nomatch h) (by decide) (by decide) (cl_L_13 C.hA) (ca_NSE C.hA) e1 e2 e3 ?_
    refine lv_astore (lv' := [(4, .ref q), (0, .ref p0), (1, .int p1), (2, .int p2), (3, .ref p3)]) hx hb dL_fits_20 hl (by decide) rfl (fun ls hl => ?_)
    refine lv_iconst (v := (1 : Int32)) hx hb dL_fits_22 (by decide) ?_
    exact q_iret C hr hlk hP hX (Nat.le_of_ble_eq_true rfl) (Nat.le_of_ble_eq_true rfl) dL_fits_23
  · obtain ⟨g2, g3, h⟩ := h
    refine lv_if_eq (tgt := 15) hx hb dL_fits_8 (by decide) (fun c0 => ?_) (fun c0 => ?_)
    · have h := h.1 c0
      refine lv_lconst (v := 0) hx hb dL_fits_15 rfl ?_
      refine q_last C hP g2 g3 dL_fits_16 (fun H locs hP => ?_)
      obtain ⟨u2, eu2, hP⟩ := Hp.nm hP
      have h := h u2 eu2
      refine lv_goto (tgt := 24) hx hb dL_fits_17 (by decide) ?_
      refine lv_iconst (v := (0 : Int32)) hx hb dL_fits_24 (by decide) ?_
      exact q_iret C hr hlk hP h (Nat.le_of_ble_eq_true rfl) (Nat.le_of_ble_eq_true rfl) dL_fits_25
    · have h := h.2 c0
      refine lv_lconst (v := 1) hx hb dL_fits_11 rfl ?_
      refine lv_goto (tgt := 16) hx hb dL_fits_12 (by decide) ?_
      refine q_last C hP g2 g3 dL_fits_16 (fun H locs hP => ?_)
      obtain ⟨u2, eu2, hP⟩ := Hp.nm hP
      have h := h u2 eu2
      refine lv_goto (tgt := 24) hx hb dL_fits_17 (by decide) ?_
      refine lv_iconst (v := (0 : Int32)) hx hb dL_fits_24 (by decide) ?_
      exact q_iret C hr hlk hP h (Nat.le_of_ble_eq_true rfl) (Nat.le_of_ble_eq_true rfl) dL_fits_25
-- L_where
abbrev rm_L_where : Room := { frames := 8, cells := 3, slots := 18, locals := 175 }
theorem hd_L_where : yL_where.cls ≠ "java/lang/invoke/MethodHandle" ∧ yL_where.cls ≠ "java/lang/invoke/VarHandle" ∧ (parseMethodDescriptor yL_where.desc).map (fun d => d.parameters.length) = some 5 := by decide +kernel
def V_L_where (G : Gx) (p0 : Nat) (p1 : Int32) (p2 : Int32) (p3 : Int32) (p4 : Nat) (u : Mm) (Q : Int32 → Mm → Prop) : Prop :=
  kd G p0 = 11 ∧ V_X11_where G p0 p1 p2 p3 u (fun (v : Int32) (u1 : Mm) => kd G p4 = 15 ∧ vp_in 0 (ln G p4) ∧ (∀ u2 : Mm, u2 = sL u1 p4 (0 : Int32).toNatClampNeg v.toInt64 → Q 0 u2)) (fun E u1 => (E = "java/util/NoSuchElementException" ∧ Q 1 u1))
set_option maxHeartbeats 4000000 in
set_option maxRecDepth 100000 in
theorem c_L_where {l : Launch} (hst : l.stackTraces = false) {G : Gx} {p0 : Nat} {p1 : Int32} {p2 : Int32} {p3 : Int32} {p4 : Nat} {u : Mm} {Q : Int32 → Mm → Prop} (h : V_L_where G p0 p1 p2 p3 p4 u Q) : Met l yL_where [.codeWith yL_where cL_where 6 (some .int) [(0, 12, 15, 13)]] rm_L_where (va_Pc [.ref p0, .int p1, .int p2, .int p3, .ref p4] (WdL G u)) (Ei G Q) 3 18 (ag G) := by
  refine q_metL (by decide) (Nat.le_of_ble_eq_true rfl) ?_
  intro p e s m below meth c ls C hr hlk htab hN hl hP
  have hl : lv_has ls 6 [(0, .ref p0), (1, .int p1), (2, .int p2), (3, .int p3), (4, .ref p4)] := hl
  generalize ([.ref p0, .int p1, .int p2, .int p3, .ref p4] : List Value).toArray = args
  have hx := C.1
  have hb := C.2.1
  unfold V_L_where at h
  refine lv_aload hx hb dL_where_0 (lv_at hl 4 rfl) ?_
  refine lv_iconst (v := (0 : Int32)) hx hb dL_where_2 (by decide) ?_
  refine lv_aload_n hx hb dL_where_3 rfl (lv_at hl 0 rfl) ?_
  refine lv_iload_n hx hb dL_where_4 rfl (lv_at hl 1 rfl) ?_
  refine lv_iload_n hx hb dL_where_5 rfl (lv_at hl 2 rfl) ?_
  refine lv_iload_n hx hb dL_where_6 rfl (lv_at hl 3 rfl) ?_
  obtain ⟨g1, h⟩ := h
  refine q_caliH (q_runVX C hP (c_X11_where hst h) (cd_X11_where C.hA) (ini_X11 C.hA) (ml_L_41 C.hA) (im_X11_where C.hA) (sl_X11_where C.hA) g1 (by decide) rfl hd_X11_where ⟨rfl, rfl⟩ ⟨Nat.le_of_ble_eq_true rfl, Nat.le_of_ble_eq_true rfl⟩ ⟨Nat.le_of_ble_eq_true rfl, Nat.le_of_ble_eq_true rfl⟩ hl.1 rfl (Nat.le_of_ble_eq_true rfl) dL_where_7) hP (fun E ce q u1 H locs hX hP e1 e2 e3 => ?_) (fun v u1 H locs h hP => ?_)
  · obtain ⟨rfl, hX⟩ := hX
    refine vx_catch C.2.2.1 [] ⟨0, 12, 15, 13⟩ [] (by rw [htab]; rfl) (fun z h => nomatch h) (by decide) (by decide) (cl_L_13 C.hA) (ca_NSE C.hA) e1 e2 e3 ?_
    refine lv_astore (lv' := [(5, .ref q), (0, .ref p0), (1, .int p1), (2, .int p2), (3, .int p3), (4, .ref p4)]) hx hb dL_where_15 hl (by decide) rfl (fun ls hl => ?_)
    refine lv_iconst (v := (1 : Int32)) hx hb dL_where_17 (by decide) ?_
    exact q_iret C hr hlk hP hX (Nat.le_of_ble_eq_true rfl) (Nat.le_of_ble_eq_true rfl) dL_where_18
  · obtain ⟨g2, g3, h⟩ := h
    refine lv_i2l (v := v.toInt64) hx hb dL_where_10 rfl ?_
    refine q_last C hP g2 g3 dL_where_11 (fun H locs hP => ?_)
    obtain ⟨u2, eu2, hP⟩ := Hp.nm hP
    have h := h u2 eu2
    refine lv_goto (tgt := 19) hx hb dL_where_12 (by decide) ?_
    refine lv_iconst (v := (0 : Int32)) hx hb dL_where_19 (by decide) ?_
    exact q_iret C hr hlk hP h (Nat.le_of_ble_eq_true rfl) (Nat.le_of_ble_eq_true rfl) dL_where_20
-- L_airs
abbrev rm_L_airs : Room := { frames := 9, cells := 4, slots := 24, locals := 155 }
theorem hd_L_airs : yL_airs.cls ≠ "java/lang/invoke/MethodHandle" ∧ yL_airs.cls ≠ "java/lang/invoke/VarHandle" ∧ (parseMethodDescriptor yL_airs.desc).map (fun d => d.parameters.length) = some 5 := by decide +kernel
def V_L_airs (G : Gx) (p0 : Nat) (p1 : Int32) (p2 : Int32) (p3 : Int32) (p4 : Nat) (u : Mm) (Q : Int32 → Mm → Prop) : Prop :=
  kd G p0 = 11 ∧ V_X11_airs G p0 p1 p2 p3 u (fun (v : Int32) (u1 : Mm) => kd G p4 = 15 ∧ vp_in 0 (ln G p4) ∧ (∀ u2 : Mm, u2 = sL u1 p4 (0 : Int32).toNatClampNeg v.toInt64 → Q 0 u2)) (fun E u1 => (E = "java/util/NoSuchElementException" ∧ Q 1 u1))
set_option maxHeartbeats 4000000 in
set_option maxRecDepth 100000 in
theorem c_L_airs {l : Launch} (hst : l.stackTraces = false) {G : Gx} {p0 : Nat} {p1 : Int32} {p2 : Int32} {p3 : Int32} {p4 : Nat} {u : Mm} {Q : Int32 → Mm → Prop} (h : V_L_airs G p0 p1 p2 p3 p4 u Q) : Met l yL_airs [.codeWith yL_airs cL_airs 6 (some .int) [(0, 12, 15, 13)]] rm_L_airs (va_Pc [.ref p0, .int p1, .int p2, .int p3, .ref p4] (WdL G u)) (Ei G Q) 4 24 (ag G) := by
  refine q_metL (by decide) (Nat.le_of_ble_eq_true rfl) ?_
  intro p e s m below meth c ls C hr hlk htab hN hl hP
  have hl : lv_has ls 6 [(0, .ref p0), (1, .int p1), (2, .int p2), (3, .int p3), (4, .ref p4)] := hl
  generalize ([.ref p0, .int p1, .int p2, .int p3, .ref p4] : List Value).toArray = args
  have hx := C.1
  have hb := C.2.1
  unfold V_L_airs at h
  refine lv_aload hx hb dL_airs_0 (lv_at hl 4 rfl) ?_
  refine lv_iconst (v := (0 : Int32)) hx hb dL_airs_2 (by decide) ?_
  refine lv_aload_n hx hb dL_airs_3 rfl (lv_at hl 0 rfl) ?_
  refine lv_iload_n hx hb dL_airs_4 rfl (lv_at hl 1 rfl) ?_
  refine lv_iload_n hx hb dL_airs_5 rfl (lv_at hl 2 rfl) ?_
  refine lv_iload_n hx hb dL_airs_6 rfl (lv_at hl 3 rfl) ?_
  obtain ⟨g1, h⟩ := h
  refine q_caliH (q_runVX C hP (c_X11_airs hst h) (cd_X11_airs C.hA) (ini_X11 C.hA) (ml_L_45 C.hA) (im_X11_airs C.hA) (sl_X11_airs C.hA) g1 (by decide) rfl hd_X11_airs ⟨rfl, rfl⟩ ⟨Nat.le_of_ble_eq_true rfl, Nat.le_of_ble_eq_true rfl⟩ ⟨Nat.le_of_ble_eq_true rfl, Nat.le_of_ble_eq_true rfl⟩ hl.1 rfl (Nat.le_of_ble_eq_true rfl) dL_airs_7) hP (fun E ce q u1 H locs hX hP e1 e2 e3 => ?_) (fun v u1 H locs h hP => ?_)
  · obtain ⟨rfl, hX⟩ := hX
    refine vx_catch C.2.2.1 [] ⟨0, 12, 15, 13⟩ [] (by rw [htab]; rfl) (fun z h => nomatch h) (by decide) (by decide) (cl_L_13 C.hA) (ca_NSE C.hA) e1 e2 e3 ?_
    refine lv_astore (lv' := [(5, .ref q), (0, .ref p0), (1, .int p1), (2, .int p2), (3, .int p3), (4, .ref p4)]) hx hb dL_airs_15 hl (by decide) rfl (fun ls hl => ?_)
    refine lv_iconst (v := (1 : Int32)) hx hb dL_airs_17 (by decide) ?_
    exact q_iret C hr hlk hP hX (Nat.le_of_ble_eq_true rfl) (Nat.le_of_ble_eq_true rfl) dL_airs_18
  · obtain ⟨g2, g3, h⟩ := h
    refine lv_i2l (v := v.toInt64) hx hb dL_airs_10 rfl ?_
    refine q_last C hP g2 g3 dL_airs_11 (fun H locs hP => ?_)
    obtain ⟨u2, eu2, hP⟩ := Hp.nm hP
    have h := h u2 eu2
    refine lv_goto (tgt := 19) hx hb dL_airs_12 (by decide) ?_
    refine lv_iconst (v := (0 : Int32)) hx hb dL_airs_19 (by decide) ?_
    exact q_iret C hr hlk hP h (Nat.le_of_ble_eq_true rfl) (Nat.le_of_ble_eq_true rfl) dL_airs_20
-- L_whose
abbrev rm_L_whose : Room := { frames := 9, cells := 5, slots := 30, locals := 152 }
theorem hd_L_whose : yL_whose.cls ≠ "java/lang/invoke/MethodHandle" ∧ yL_whose.cls ≠ "java/lang/invoke/VarHandle" ∧ (parseMethodDescriptor yL_whose.desc).map (fun d => d.parameters.length) = some 6 := by decide +kernel
def V_L_whose (G : Gx) (p0 : Nat) (p1 : Int32) (p2 : Int32) (p3 : Int32) (p4 : Int32) (p5 : Nat) (u : Mm) (Q : Int32 → Mm → Prop) : Prop :=
  kd G p0 = 11 ∧ V_X11_whose G p0 p1 p2 p3 p4 u (fun (v : Int32) (u1 : Mm) => kd G p5 = 15 ∧ vp_in 0 (ln G p5) ∧ (∀ u2 : Mm, u2 = sL u1 p5 (0 : Int32).toNatClampNeg v.toInt64 → Q 0 u2)) (fun E u1 => (E = "java/util/NoSuchElementException" ∧ Q 1 u1))
set_option maxHeartbeats 4000000 in
set_option maxRecDepth 100000 in
theorem c_L_whose {l : Launch} (hst : l.stackTraces = false) {G : Gx} {p0 : Nat} {p1 : Int32} {p2 : Int32} {p3 : Int32} {p4 : Int32} {p5 : Nat} {u : Mm} {Q : Int32 → Mm → Prop} (h : V_L_whose G p0 p1 p2 p3 p4 p5 u Q) : Met l yL_whose [.codeWith yL_whose cL_whose 7 (some .int) [(0, 14, 17, 13)]] rm_L_whose (va_Pc [.ref p0, .int p1, .int p2, .int p3, .int p4, .ref p5] (WdL G u)) (Ei G Q) 5 30 (ag G) := by
  refine q_metL (by decide) (Nat.le_of_ble_eq_true rfl) ?_
  intro p e s m below meth c ls C hr hlk htab hN hl hP
  have hl : lv_has ls 7 [(0, .ref p0), (1, .int p1), (2, .int p2), (3, .int p3), (4, .int p4), (5, .ref p5)] := hl
  generalize ([.ref p0, .int p1, .int p2, .int p3, .int p4, .ref p5] : List Value).toArray = args
  have hx := C.1
  have hb := C.2.1
  unfold V_L_whose at h
  refine lv_aload hx hb dL_whose_0 (lv_at hl 5 rfl) ?_
  refine lv_iconst (v := (0 : Int32)) hx hb dL_whose_2 (by decide) ?_
  refine lv_aload_n hx hb dL_whose_3 rfl (lv_at hl 0 rfl) ?_
  refine lv_iload_n hx hb dL_whose_4 rfl (lv_at hl 1 rfl) ?_
  refine lv_iload_n hx hb dL_whose_5 rfl (lv_at hl 2 rfl) ?_
  refine lv_iload_n hx hb dL_whose_6 rfl (lv_at hl 3 rfl) ?_
  refine lv_iload hx hb dL_whose_7 (lv_at hl 4 rfl) ?_
  obtain ⟨g1, h⟩ := h
  refine q_caliH (q_runVX C hP (c_X11_whose hst h) (cd_X11_whose C.hA) (ini_X11 C.hA) (ml_L_48 C.hA) (im_X11_whose C.hA) (sl_X11_whose C.hA) g1 (by decide) rfl hd_X11_whose ⟨rfl, rfl⟩ ⟨Nat.le_of_ble_eq_true rfl, Nat.le_of_ble_eq_true rfl⟩ ⟨Nat.le_of_ble_eq_true rfl, Nat.le_of_ble_eq_true rfl⟩ hl.1 rfl (Nat.le_of_ble_eq_true rfl) dL_whose_9) hP (fun E ce q u1 H locs hX hP e1 e2 e3 => ?_) (fun v u1 H locs h hP => ?_)
  · obtain ⟨rfl, hX⟩ := hX
    refine vx_catch C.2.2.1 [] ⟨0, 14, 17, 13⟩ [] (by rw [htab]; rfl) (fun z h => nomatch h) (by decide) (by decide) (cl_L_13 C.hA) (ca_NSE C.hA) e1 e2 e3 ?_
    refine lv_astore (lv' := [(6, .ref q), (0, .ref p0), (1, .int p1), (2, .int p2), (3, .int p3), (4, .int p4), (5, .ref p5)]) hx hb dL_whose_17 hl (by decide) rfl (fun ls hl => ?_)
    refine lv_iconst (v := (1 : Int32)) hx hb dL_whose_19 (by decide) ?_
    exact q_iret C hr hlk hP hX (Nat.le_of_ble_eq_true rfl) (Nat.le_of_ble_eq_true rfl) dL_whose_20
  · obtain ⟨g2, g3, h⟩ := h
    refine lv_i2l (v := v.toInt64) hx hb dL_whose_12 rfl ?_
    refine q_last C hP g2 g3 dL_whose_13 (fun H locs hP => ?_)
    obtain ⟨u2, eu2, hP⟩ := Hp.nm hP
    have h := h u2 eu2
    refine lv_goto (tgt := 21) hx hb dL_whose_14 (by decide) ?_
    refine lv_iconst (v := (0 : Int32)) hx hb dL_whose_21 (by decide) ?_
    exact q_iret C hr hlk hP h (Nat.le_of_ble_eq_true rfl) (Nat.le_of_ble_eq_true rfl) dL_whose_22
-- L_gone
abbrev rm_L_gone : Room := { frames := 8, cells := 2, slots := 12, locals := 179 }
theorem hd_L_gone : yL_gone.cls ≠ "java/lang/invoke/MethodHandle" ∧ yL_gone.cls ≠ "java/lang/invoke/VarHandle" ∧ (parseMethodDescriptor yL_gone.desc).map (fun d => d.parameters.length) = some 4 := by decide +kernel
def V_L_gone (G : Gx) (p0 : Nat) (p1 : Int32) (p2 : Int32) (p3 : Nat) (u : Mm) (Q : Int32 → Mm → Prop) : Prop :=
  kd G p0 = 11 ∧ V_X11_gone G p0 p1 p2 u (fun (v : Int32) (u1 : Mm) => kd G p3 = 15 ∧ vp_in 0 (ln G p3) ∧ (∀ u2 : Mm, u2 = sL u1 p3 (0 : Int32).toNatClampNeg v.toInt64 → Q 0 u2)) (fun E u1 => (E = "java/util/NoSuchElementException" ∧ Q 1 u1))
set_option maxHeartbeats 4000000 in
set_option maxRecDepth 100000 in
theorem c_L_gone {l : Launch} (hst : l.stackTraces = false) {G : Gx} {p0 : Nat} {p1 : Int32} {p2 : Int32} {p3 : Nat} {u : Mm} {Q : Int32 → Mm → Prop} (h : V_L_gone G p0 p1 p2 p3 u Q) : Met l yL_gone [.codeWith yL_gone cL_gone 5 (some .int) [(0, 10, 13, 13)]] rm_L_gone (va_Pc [.ref p0, .int p1, .int p2, .ref p3] (WdL G u)) (Ei G Q) 2 12 (ag G) := by
  refine q_metL (by decide) (Nat.le_of_ble_eq_true rfl) ?_
  intro p e s m below meth c ls C hr hlk htab hN hl hP
  have hl : lv_has ls 5 [(0, .ref p0), (1, .int p1), (2, .int p2), (3, .ref p3)] := hl
  generalize ([.ref p0, .int p1, .int p2, .ref p3] : List Value).toArray = args
  have hx := C.1
  have hb := C.2.1
  unfold V_L_gone at h
  refine lv_aload_n hx hb dL_gone_0 rfl (lv_at hl 3 rfl) ?_
  refine lv_iconst (v := (0 : Int32)) hx hb dL_gone_1 (by decide) ?_
  refine lv_aload_n hx hb dL_gone_2 rfl (lv_at hl 0 rfl) ?_
  refine lv_iload_n hx hb dL_gone_3 rfl (lv_at hl 1 rfl) ?_
  refine lv_iload_n hx hb dL_gone_4 rfl (lv_at hl 2 rfl) ?_
  obtain ⟨g1, h⟩ := h
  refine q_caliH (q_runVX C hP (c_X11_gone hst h) (cd_X11_gone C.hA) (ini_X11 C.hA) (ml_L_52 C.hA) (im_X11_gone C.hA) (sl_X11_gone C.hA) g1 (by decide) rfl hd_X11_gone ⟨rfl, rfl⟩ ⟨Nat.le_of_ble_eq_true rfl, Nat.le_of_ble_eq_true rfl⟩ ⟨Nat.le_of_ble_eq_true rfl, Nat.le_of_ble_eq_true rfl⟩ hl.1 rfl (Nat.le_of_ble_eq_true rfl) dL_gone_5) hP (fun E ce q u1 H locs hX hP e1 e2 e3 => ?_) (fun v u1 H locs h hP => ?_)
  · obtain ⟨rfl, hX⟩ := hX
    refine vx_catch C.2.2.1 [] ⟨0, 10, 13, 13⟩ [] (by rw [htab]; rfl) (fun z h => nomatch h) (by decide) (by decide) (cl_L_13 C.hA) (ca_NSE C.hA) e1 e2 e3 ?_
    refine lv_astore (lv' := [(4, .ref q), (0, .ref p0), (1, .int p1), (2, .int p2), (3, .ref p3)]) hx hb dL_gone_13 hl (by decide) rfl (fun ls hl => ?_)
    refine lv_iconst (v := (1 : Int32)) hx hb dL_gone_15 (by decide) ?_
    exact q_iret C hr hlk hP hX (Nat.le_of_ble_eq_true rfl) (Nat.le_of_ble_eq_true rfl) dL_gone_16
  · obtain ⟨g2, g3, h⟩ := h
    refine lv_i2l (v := v.toInt64) hx hb dL_gone_8 rfl ?_
    refine q_last C hP g2 g3 dL_gone_9 (fun H locs hP => ?_)
    obtain ⟨u2, eu2, hP⟩ := Hp.nm hP
    have h := h u2 eu2
    refine lv_goto (tgt := 17) hx hb dL_gone_10 (by decide) ?_
    refine lv_iconst (v := (0 : Int32)) hx hb dL_gone_17 (by decide) ?_
    exact q_iret C hr hlk hP h (Nat.le_of_ble_eq_true rfl) (Nat.le_of_ble_eq_true rfl) dL_gone_18
-- L_plans
abbrev rm_L_plans : Room := { frames := 8, cells := 2, slots := 12, locals := 146 }
theorem hd_L_plans : yL_plans.cls ≠ "java/lang/invoke/MethodHandle" ∧ yL_plans.cls ≠ "java/lang/invoke/VarHandle" ∧ (parseMethodDescriptor yL_plans.desc).map (fun d => d.parameters.length) = some 5 := by decide +kernel
def V_L_plans (G : Gx) (p0 : Nat) (p1 : Int32) (p2 : Int32) (p3 : Int32) (p4 : Nat) (u : Mm) (Q : Int32 → Mm → Prop) : Prop :=
  kd G p0 = 11 ∧ V_X11_plans G p0 p1 p2 p3 u (fun (v : Int32) (u1 : Mm) => kd G p4 = 15 ∧ vp_in 0 (ln G p4) ∧ (∀ u2 : Mm, u2 = sL u1 p4 (0 : Int32).toNatClampNeg v.toInt64 → Q 0 u2)) (fun E u1 => (E = "java/util/NoSuchElementException" ∧ Q 1 u1) ∨ (E = "java/lang/IllegalArgumentException" ∧ Q 2 u1))
set_option maxHeartbeats 4000000 in
set_option maxRecDepth 100000 in
theorem c_L_plans {l : Launch} (hst : l.stackTraces = false) {G : Gx} {p0 : Nat} {p1 : Int32} {p2 : Int32} {p3 : Int32} {p4 : Nat} {u : Mm} {Q : Int32 → Mm → Prop} (h : V_L_plans G p0 p1 p2 p3 p4 u Q) : Met l yL_plans [.codeWith yL_plans cL_plans 6 (some .int) [(0, 12, 15, 13), (0, 12, 19, 15)]] rm_L_plans (va_Pc [.ref p0, .int p1, .int p2, .int p3, .ref p4] (WdL G u)) (Ei G Q) 2 12 (ag G) := by
  refine q_metL (by decide) (Nat.le_of_ble_eq_true rfl) ?_
  intro p e s m below meth c ls C hr hlk htab hN hl hP
  have hl : lv_has ls 6 [(0, .ref p0), (1, .int p1), (2, .int p2), (3, .int p3), (4, .ref p4)] := hl
  generalize ([.ref p0, .int p1, .int p2, .int p3, .ref p4] : List Value).toArray = args
  have hx := C.1
  have hb := C.2.1
  unfold V_L_plans at h
  refine lv_aload hx hb dL_plans_0 (lv_at hl 4 rfl) ?_
  refine lv_iconst (v := (0 : Int32)) hx hb dL_plans_2 (by decide) ?_
  refine lv_aload_n hx hb dL_plans_3 rfl (lv_at hl 0 rfl) ?_
  refine lv_iload_n hx hb dL_plans_4 rfl (lv_at hl 1 rfl) ?_
  refine lv_iload_n hx hb dL_plans_5 rfl (lv_at hl 2 rfl) ?_
  refine lv_iload_n hx hb dL_plans_6 rfl (lv_at hl 3 rfl) ?_
  obtain ⟨g1, h⟩ := h
  refine q_caliH (q_runVX C hP (c_X11_plans hst h) (cd_X11_plans C.hA) (ini_X11 C.hA) (ml_L_55 C.hA) (im_X11_plans C.hA) (sl_X11_plans C.hA) g1 (by decide) rfl hd_X11_plans ⟨rfl, rfl⟩ ⟨Nat.le_of_ble_eq_true rfl, Nat.le_of_ble_eq_true rfl⟩ ⟨Nat.le_of_ble_eq_true rfl, Nat.le_of_ble_eq_true rfl⟩ hl.1 rfl (Nat.le_of_ble_eq_true rfl) dL_plans_7) hP (fun E ce q u1 H locs hX hP e1 e2 e3 => ?_) (fun v u1 H locs h hP => ?_)
  · rcases hX with ⟨rfl, hX⟩ | ⟨rfl, hX⟩
    · skip
      refine vx_catch C.2.2.1 [] ⟨0, 12, 15, 13⟩ [⟨0, 12, 19, 15⟩] (by rw [htab]; rfl) (fun z h => nomatch h) (by decide) (by decide) (cl_L_13 C.hA) (ca_NSE C.hA) e1 e2 e3 ?_
      refine lv_astore (lv' := [(5, .ref q), (0, .ref p0), (1, .int p1), (2, .int p2), (3, .int p3), (4, .ref p4)]) hx hb dL_plans_15 hl (by decide) rfl (fun ls hl => ?_)
      refine lv_iconst (v := (1 : Int32)) hx hb dL_plans_17 (by decide) ?_
      exact q_iret C hr hlk hP hX (Nat.le_of_ble_eq_true rfl) (Nat.le_of_ble_eq_true rfl) dL_plans_18
    · skip
      refine vx_catch C.2.2.1 [⟨0, 12, 15, 13⟩] ⟨0, 12, 19, 15⟩ [] (by rw [htab]; rfl) (fun z h => by rw [List.mem_singleton.mp h]; exact Or.inr ⟨by decide, "java/util/NoSuchElementException", cl_L_13 C.hA, hN⟩) (by decide) (by decide) (cl_L_15 C.hA) (ca_IAE C.hA) e1 e2 e3 ?_
      refine lv_astore (lv' := [(5, .ref q), (0, .ref p0), (1, .int p1), (2, .int p2), (3, .int p3), (4, .ref p4)]) hx hb dL_plans_19 hl (by decide) rfl (fun ls hl => ?_)
      refine lv_iconst (v := (2 : Int32)) hx hb dL_plans_21 (by decide) ?_
      exact q_iret C hr hlk hP hX (Nat.le_of_ble_eq_true rfl) (Nat.le_of_ble_eq_true rfl) dL_plans_22
  · obtain ⟨g2, g3, h⟩ := h
    refine lv_i2l (v := v.toInt64) hx hb dL_plans_10 rfl ?_
    refine q_last C hP g2 g3 dL_plans_11 (fun H locs hP => ?_)
    obtain ⟨u2, eu2, hP⟩ := Hp.nm hP
    have h := h u2 eu2
    refine lv_goto (tgt := 23) hx hb dL_plans_12 (by decide) ?_
    refine lv_iconst (v := (0 : Int32)) hx hb dL_plans_23 (by decide) ?_
    exact q_iret C hr hlk hP h (Nat.le_of_ble_eq_true rfl) (Nat.le_of_ble_eq_true rfl) dL_plans_24
-- L_next
abbrev rm_L_next : Room := { frames := 8, cells := 3, slots := 18, locals := 151 }
theorem hd_L_next : yL_next.cls ≠ "java/lang/invoke/MethodHandle" ∧ yL_next.cls ≠ "java/lang/invoke/VarHandle" ∧ (parseMethodDescriptor yL_next.desc).map (fun d => d.parameters.length) = some 6 := by decide +kernel
def V_L_next (G : Gx) (p0 : Nat) (p1 : Int32) (p2 : Int32) (p3 : Int32) (p4 : Int32) (p5 : Nat) (u : Mm) (Q : Int32 → Mm → Prop) : Prop :=
  kd G p0 = 11 ∧ V_X11_next G p0 p1 p2 p3 p4 u (fun (v : Int32) (u1 : Mm) => kd G p5 = 15 ∧ vp_in 0 (ln G p5) ∧ (∀ u2 : Mm, u2 = sL u1 p5 (0 : Int32).toNatClampNeg v.toInt64 → Q 0 u2)) (fun E u1 => (E = "java/util/NoSuchElementException" ∧ Q 1 u1) ∨ (E = "java/lang/IllegalArgumentException" ∧ Q 2 u1))
set_option maxHeartbeats 4000000 in
set_option maxRecDepth 100000 in
theorem c_L_next {l : Launch} (hst : l.stackTraces = false) {G : Gx} {p0 : Nat} {p1 : Int32} {p2 : Int32} {p3 : Int32} {p4 : Int32} {p5 : Nat} {u : Mm} {Q : Int32 → Mm → Prop} (h : V_L_next G p0 p1 p2 p3 p4 p5 u Q) : Met l yL_next [.codeWith yL_next cL_next 7 (some .int) [(0, 14, 17, 13), (0, 14, 21, 15)]] rm_L_next (va_Pc [.ref p0, .int p1, .int p2, .int p3, .int p4, .ref p5] (WdL G u)) (Ei G Q) 3 18 (ag G) := by
  refine q_metL (by decide) (Nat.le_of_ble_eq_true rfl) ?_
  intro p e s m below meth c ls C hr hlk htab hN hl hP
  have hl : lv_has ls 7 [(0, .ref p0), (1, .int p1), (2, .int p2), (3, .int p3), (4, .int p4), (5, .ref p5)] := hl
  generalize ([.ref p0, .int p1, .int p2, .int p3, .int p4, .ref p5] : List Value).toArray = args
  have hx := C.1
  have hb := C.2.1
  unfold V_L_next at h
  refine lv_aload hx hb dL_next_0 (lv_at hl 5 rfl) ?_
  refine lv_iconst (v := (0 : Int32)) hx hb dL_next_2 (by decide) ?_
  refine lv_aload_n hx hb dL_next_3 rfl (lv_at hl 0 rfl) ?_
  refine lv_iload_n hx hb dL_next_4 rfl (lv_at hl 1 rfl) ?_
  refine lv_iload_n hx hb dL_next_5 rfl (lv_at hl 2 rfl) ?_
  refine lv_iload_n hx hb dL_next_6 rfl (lv_at hl 3 rfl) ?_
  refine lv_iload hx hb dL_next_7 (lv_at hl 4 rfl) ?_
  obtain ⟨g1, h⟩ := h
  refine q_caliH (q_runVX C hP (c_X11_next hst h) (cd_X11_next C.hA) (ini_X11 C.hA) (ml_L_58 C.hA) (im_X11_next C.hA) (sl_X11_next C.hA) g1 (by decide) rfl hd_X11_next ⟨rfl, rfl⟩ ⟨Nat.le_of_ble_eq_true rfl, Nat.le_of_ble_eq_true rfl⟩ ⟨Nat.le_of_ble_eq_true rfl, Nat.le_of_ble_eq_true rfl⟩ hl.1 rfl (Nat.le_of_ble_eq_true rfl) dL_next_9) hP (fun E ce q u1 H locs hX hP e1 e2 e3 => ?_) (fun v u1 H locs h hP => ?_)
  · rcases hX with ⟨rfl, hX⟩ | ⟨rfl, hX⟩
    · skip
      refine vx_catch C.2.2.1 [] ⟨0, 14, 17, 13⟩ [⟨0, 14, 21, 15⟩] (by rw [htab]; rfl) (fun z h => nomatch h) (by decide) (by decide) (cl_L_13 C.hA) (ca_NSE C.hA) e1 e2 e3 ?_
      refine lv_astore (lv' := [(6, .ref q), (0, .ref p0), (1, .int p1), (2, .int p2), (3, .int p3), (4, .int p4), (5, .ref p5)]) hx hb dL_next_17 hl (by decide) rfl (fun ls hl => ?_)
      refine lv_iconst (v := (1 : Int32)) hx hb dL_next_19 (by decide) ?_
      exact q_iret C hr hlk hP hX (Nat.le_of_ble_eq_true rfl) (Nat.le_of_ble_eq_true rfl) dL_next_20
    · skip
      refine vx_catch C.2.2.1 [⟨0, 14, 17, 13⟩] ⟨0, 14, 21, 15⟩ [] (by rw [htab]; rfl) (fun z h => by rw [List.mem_singleton.mp h]; exact Or.inr ⟨by decide, "java/util/NoSuchElementException", cl_L_13 C.hA, hN⟩) (by decide) (by decide) (cl_L_15 C.hA) (ca_IAE C.hA) e1 e2 e3 ?_
      refine lv_astore (lv' := [(6, .ref q), (0, .ref p0), (1, .int p1), (2, .int p2), (3, .int p3), (4, .int p4), (5, .ref p5)]) hx hb dL_next_21 hl (by decide) rfl (fun ls hl => ?_)
      refine lv_iconst (v := (2 : Int32)) hx hb dL_next_23 (by decide) ?_
      exact q_iret C hr hlk hP hX (Nat.le_of_ble_eq_true rfl) (Nat.le_of_ble_eq_true rfl) dL_next_24
  · obtain ⟨g2, g3, h⟩ := h
    refine lv_i2l (v := v.toInt64) hx hb dL_next_12 rfl ?_
    refine q_last C hP g2 g3 dL_next_13 (fun H locs hP => ?_)
    obtain ⟨u2, eu2, hP⟩ := Hp.nm hP
    have h := h u2 eu2
    refine lv_goto (tgt := 25) hx hb dL_next_14 (by decide) ?_
    refine lv_iconst (v := (0 : Int32)) hx hb dL_next_25 (by decide) ?_
    exact q_iret C hr hlk hP h (Nat.le_of_ble_eq_true rfl) (Nat.le_of_ble_eq_true rfl) dL_next_26
-- L_knows
abbrev rm_L_knows : Room := { frames := 8, cells := 3, slots := 18, locals := 176 }
theorem hd_L_knows : yL_knows.cls ≠ "java/lang/invoke/MethodHandle" ∧ yL_knows.cls ≠ "java/lang/invoke/VarHandle" ∧ (parseMethodDescriptor yL_knows.desc).map (fun d => d.parameters.length) = some 7 := by decide +kernel
def V_L_knows (G : Gx) (p0 : Nat) (p1 : Int32) (p2 : Int32) (p3 : Int32) (p4 : Int32) (p5 : Int32) (p6 : Nat) (u : Mm) (Q : Int32 → Mm → Prop) : Prop :=
  kd G p0 = 11 ∧ V_X11_knows G p0 p1 p2 p3 p4 p5 u (fun (v : Int32) (u1 : Mm) => kd G p6 = 15 ∧ vp_in 0 (ln G p6) ∧ (∀ u2 : Mm, u2 = sL u1 p6 (0 : Int32).toNatClampNeg v.toInt64 → Q 0 u2)) (fun E u1 => (E = "java/util/NoSuchElementException" ∧ Q 1 u1))
set_option maxHeartbeats 4000000 in
set_option maxRecDepth 100000 in
theorem c_L_knows {l : Launch} (hst : l.stackTraces = false) {G : Gx} {p0 : Nat} {p1 : Int32} {p2 : Int32} {p3 : Int32} {p4 : Int32} {p5 : Int32} {p6 : Nat} {u : Mm} {Q : Int32 → Mm → Prop} (h : V_L_knows G p0 p1 p2 p3 p4 p5 p6 u Q) : Met l yL_knows [.codeWith yL_knows cL_knows 8 (some .int) [(0, 16, 19, 13)]] rm_L_knows (va_Pc [.ref p0, .int p1, .int p2, .int p3, .int p4, .int p5, .ref p6] (WdL G u)) (Ei G Q) 3 18 (ag G) := by
  refine q_metL (by decide) (Nat.le_of_ble_eq_true rfl) ?_
  intro p e s m below meth c ls C hr hlk htab hN hl hP
  have hl : lv_has ls 8 [(0, .ref p0), (1, .int p1), (2, .int p2), (3, .int p3), (4, .int p4), (5, .int p5), (6, .ref p6)] := hl
  generalize ([.ref p0, .int p1, .int p2, .int p3, .int p4, .int p5, .ref p6] : List Value).toArray = args
  have hx := C.1
  have hb := C.2.1
  unfold V_L_knows at h
  refine lv_aload hx hb dL_knows_0 (lv_at hl 6 rfl) ?_
  refine lv_iconst (v := (0 : Int32)) hx hb dL_knows_2 (by decide) ?_
  refine lv_aload_n hx hb dL_knows_3 rfl (lv_at hl 0 rfl) ?_
  refine lv_iload_n hx hb dL_knows_4 rfl (lv_at hl 1 rfl) ?_
  refine lv_iload_n hx hb dL_knows_5 rfl (lv_at hl 2 rfl) ?_
  refine lv_iload_n hx hb dL_knows_6 rfl (lv_at hl 3 rfl) ?_
  refine lv_iload hx hb dL_knows_7 (lv_at hl 4 rfl) ?_
  refine lv_iload hx hb dL_knows_9 (lv_at hl 5 rfl) ?_
  obtain ⟨g1, h⟩ := h
  refine q_caliH (q_runVX C hP (c_X11_knows hst h) (cd_X11_knows C.hA) (ini_X11 C.hA) (ml_L_61 C.hA) (im_X11_knows C.hA) (sl_X11_knows C.hA) g1 (by decide) rfl hd_X11_knows ⟨rfl, rfl⟩ ⟨Nat.le_of_ble_eq_true rfl, Nat.le_of_ble_eq_true rfl⟩ ⟨Nat.le_of_ble_eq_true rfl, Nat.le_of_ble_eq_true rfl⟩ hl.1 rfl (Nat.le_of_ble_eq_true rfl) dL_knows_11) hP (fun E ce q u1 H locs hX hP e1 e2 e3 => ?_) (fun v u1 H locs h hP => ?_)
  · obtain ⟨rfl, hX⟩ := hX
    refine vx_catch C.2.2.1 [] ⟨0, 16, 19, 13⟩ [] (by rw [htab]; rfl) (fun z h => nomatch h) (by decide) (by decide) (cl_L_13 C.hA) (ca_NSE C.hA) e1 e2 e3 ?_
    refine lv_astore (lv' := [(7, .ref q), (0, .ref p0), (1, .int p1), (2, .int p2), (3, .int p3), (4, .int p4), (5, .int p5), (6, .ref p6)]) hx hb dL_knows_19 hl (by decide) rfl (fun ls hl => ?_)
    refine lv_iconst (v := (1 : Int32)) hx hb dL_knows_21 (by decide) ?_
    exact q_iret C hr hlk hP hX (Nat.le_of_ble_eq_true rfl) (Nat.le_of_ble_eq_true rfl) dL_knows_22
  · obtain ⟨g2, g3, h⟩ := h
    refine lv_i2l (v := v.toInt64) hx hb dL_knows_14 rfl ?_
    refine q_last C hP g2 g3 dL_knows_15 (fun H locs hP => ?_)
    obtain ⟨u2, eu2, hP⟩ := Hp.nm hP
    have h := h u2 eu2
    refine lv_goto (tgt := 23) hx hb dL_knows_16 (by decide) ?_
    refine lv_iconst (v := (0 : Int32)) hx hb dL_knows_23 (by decide) ?_
    exact q_iret C hr hlk hP h (Nat.le_of_ble_eq_true rfl) (Nat.le_of_ble_eq_true rfl) dL_knows_24
-- L_word
abbrev rm_L_word : Room := { frames := 8, cells := 3, slots := 18, locals := 133 }
theorem hd_L_word : yL_word.cls ≠ "java/lang/invoke/MethodHandle" ∧ yL_word.cls ≠ "java/lang/invoke/VarHandle" ∧ (parseMethodDescriptor yL_word.desc).map (fun d => d.parameters.length) = some 6 := by decide +kernel
def V_L_word (G : Gx) (p0 : Nat) (p1 : Int32) (p2 : Int32) (p3 : Int32) (p4 : Int32) (p5 : Nat) (u : Mm) (Q : Int32 → Mm → Prop) : Prop :=
  kd G p0 = 11 ∧ V_X11_word G p0 p1 p2 p3 p4 u (fun (v : Int32) (u1 : Mm) => kd G p5 = 15 ∧ vp_in 0 (ln G p5) ∧ (∀ u2 : Mm, u2 = sL u1 p5 (0 : Int32).toNatClampNeg v.toInt64 → Q 0 u2)) (fun E u1 => (E = "java/util/NoSuchElementException" ∧ Q 1 u1))
set_option maxHeartbeats 4000000 in
set_option maxRecDepth 100000 in
theorem c_L_word {l : Launch} (hst : l.stackTraces = false) {G : Gx} {p0 : Nat} {p1 : Int32} {p2 : Int32} {p3 : Int32} {p4 : Int32} {p5 : Nat} {u : Mm} {Q : Int32 → Mm → Prop} (h : V_L_word G p0 p1 p2 p3 p4 p5 u Q) : Met l yL_word [.codeWith yL_word cL_word 7 (some .int) [(0, 14, 17, 13)]] rm_L_word (va_Pc [.ref p0, .int p1, .int p2, .int p3, .int p4, .ref p5] (WdL G u)) (Ei G Q) 3 18 (ag G) := by
  refine q_metL (by decide) (Nat.le_of_ble_eq_true rfl) ?_
  intro p e s m below meth c ls C hr hlk htab hN hl hP
  have hl : lv_has ls 7 [(0, .ref p0), (1, .int p1), (2, .int p2), (3, .int p3), (4, .int p4), (5, .ref p5)] := hl
  generalize ([.ref p0, .int p1, .int p2, .int p3, .int p4, .ref p5] : List Value).toArray = args
  have hx := C.1
  have hb := C.2.1
  unfold V_L_word at h
  refine lv_aload hx hb dL_word_0 (lv_at hl 5 rfl) ?_
  refine lv_iconst (v := (0 : Int32)) hx hb dL_word_2 (by decide) ?_
  refine lv_aload_n hx hb dL_word_3 rfl (lv_at hl 0 rfl) ?_
  refine lv_iload_n hx hb dL_word_4 rfl (lv_at hl 1 rfl) ?_
  refine lv_iload_n hx hb dL_word_5 rfl (lv_at hl 2 rfl) ?_
  refine lv_iload_n hx hb dL_word_6 rfl (lv_at hl 3 rfl) ?_
  refine lv_iload hx hb dL_word_7 (lv_at hl 4 rfl) ?_
  obtain ⟨g1, h⟩ := h
  refine q_caliH (q_runVX C hP (c_X11_word hst h) (cd_X11_word C.hA) (ini_X11 C.hA) (ml_L_65 C.hA) (im_X11_word C.hA) (sl_X11_word C.hA) g1 (by decide) rfl hd_X11_word ⟨rfl, rfl⟩ ⟨Nat.le_of_ble_eq_true rfl, Nat.le_of_ble_eq_true rfl⟩ ⟨Nat.le_of_ble_eq_true rfl, Nat.le_of_ble_eq_true rfl⟩ hl.1 rfl (Nat.le_of_ble_eq_true rfl) dL_word_9) hP (fun E ce q u1 H locs hX hP e1 e2 e3 => ?_) (fun v u1 H locs h hP => ?_)
  · obtain ⟨rfl, hX⟩ := hX
    refine vx_catch C.2.2.1 [] ⟨0, 14, 17, 13⟩ [] (by rw [htab]; rfl) (fun z h => nomatch h) (by decide) (by decide) (cl_L_13 C.hA) (ca_NSE C.hA) e1 e2 e3 ?_
    refine lv_astore (lv' := [(6, .ref q), (0, .ref p0), (1, .int p1), (2, .int p2), (3, .int p3), (4, .int p4), (5, .ref p5)]) hx hb dL_word_17 hl (by decide) rfl (fun ls hl => ?_)
    refine lv_iconst (v := (1 : Int32)) hx hb dL_word_19 (by decide) ?_
    exact q_iret C hr hlk hP hX (Nat.le_of_ble_eq_true rfl) (Nat.le_of_ble_eq_true rfl) dL_word_20
  · obtain ⟨g2, g3, h⟩ := h
    refine lv_i2l (v := v.toInt64) hx hb dL_word_12 rfl ?_
    refine q_last C hP g2 g3 dL_word_13 (fun H locs hP => ?_)
    obtain ⟨u2, eu2, hP⟩ := Hp.nm hP
    have h := h u2 eu2
    refine lv_goto (tgt := 21) hx hb dL_word_14 (by decide) ?_
    refine lv_iconst (v := (0 : Int32)) hx hb dL_word_21 (by decide) ?_
    exact q_iret C hr hlk hP h (Nat.le_of_ble_eq_true rfl) (Nat.le_of_ble_eq_true rfl) dL_word_22
