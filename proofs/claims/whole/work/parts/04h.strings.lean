/-! texts, arrays of arrays, copies of arrays -/
section QS
variable {G : Gx} {u : Mm} {p : Program} {l : Launch} {e : Env} {R : Room} {s : State} {m : MethodId} {args : Array Value} {below : List Frame} {meth : Method} {c : Code} {H : Heap} {locs : List Loc} {cells slots : Nat} {Q : State → Prop}
variable {cc : ByteArray} {own : String} {nL pc mc ms : Nat} {ls : Array Slot} {rest : List Value}
theorem q_lds (C : Cx G p s m c cc own nL) (i : Nat) (hi : i < 36) {is : Nat} (ho : kOwn i = own) (hj : kIdx i = is) (hdg : decode cc pc = .ok (.ldc is, 2))
    (kk : W p l e R s m args below meth c H locs cells slots Q (F0 m (pc + 2) ls (.ref (gS G i) :: rest))) : W p l e R s m args below meth c H locs cells slots Q (F0 m pc ls rest) := by
  have h1 := (C.2.2.2.2.2.2.1 i hi).1
  rw [ho, hj] at h1
  intro T hT X
  obtain ⟨t, a1, b1⟩ := kk T hT X
  exact ⟨t, X.ldcString C.1 (own := own) (text := kTxt i) (index := is) (a := gS G i) C.2.2.1 h1.1 h1.2 (g := F0 m pc ls rest) rfl (by rw [C.2.1]; exact hdg) _ a1, b1⟩
theorem q_ldsw (C : Cx G p s m c cc own nL) (i : Nat) (hi : i < 36) {is : Nat} (ho : kOwn i = own) (hj : kIdx i = is) (hdg : decode cc pc = .ok (.ldc_w is, 3))
    (kk : W p l e R s m args below meth c H locs cells slots Q (F0 m (pc + 3) ls (.ref (gS G i) :: rest))) : W p l e R s m args below meth c H locs cells slots Q (F0 m pc ls rest) := by
  have h1 := (C.2.2.2.2.2.2.1 i hi).1
  rw [ho, hj] at h1
  intro T hT X
  obtain ⟨t, a1, b1⟩ := kk T hT X
  exact ⟨t, X.ldcStringW C.1 (own := own) (text := kTxt i) (index := is) (a := gS G i) C.2.2.1 h1.1 h1.2 (g := F0 m pc ls rest) rfl (by rw [C.2.1]; exact hdg) _ a1, b1⟩
theorem q_aaldA (C : Cx G p s m c cc own nL) (hP : Hp G u s H locs) {a : Nat} {i : Int32} (hk : kd G a = 22) (hin : vp_in i (ln G a)) (hn : gR u a i.toNatClampNeg ≠ 0) (hdg : decode cc pc = .ok (.aaload, 1))
    (kk : W p l e R s m args below meth c H locs cells slots Q (F0 m (pc + 1) ls (.ref (gR u a i.toNatClampNeg) :: rest))) : W p l e R s m args below meth c H locs cells slots Q (F0 m pc ls (.int i :: .ref a :: rest)) := by
  obtain ⟨hx, hb, hown, -, -, hK, -, -, hly, -⟩ := C
  have he := wl_at hly (u := u) (a := a) (by omega)
  rw [ce_r hk (by decide) (by decide)] at he
  have hlt : i.toNatClampNeg < ln G a := Nat.not_le.mp fun q => hin (Or.inr q)
  refine W.aald (v := va_rf (fr (u.2.1 a i.toNatClampNeg))) (ty := .array .int) hx hb (hP.1 _ _ he) ((hK.2 9 (gA G 22, .array .int) rfl).1 (ln G a) (fun j => va_rf (fr (u.2.1 a j)))) rfl (fun q => by cases q) (by show ¬ (i < 0 ∨ (arrV _ _ _).slots.size ≤ _); rw [arrV_size]; exact hin) (by show (arrV _ _ _).slots[_]? = _; rw [arrV_read _ _ hlt]) rfl rfl hdg ?_
  rw [show va_rf (fr (u.2.1 a i.toNatClampNeg)) = .ref (gR u a i.toNatClampNeg) from fr_ne hn]
  exact kk
theorem q_copy (C : Cx G p s m c cc own nL) (hP : Hp G u s H locs) (hl : ls.size = c.maxLocals) {a b index : Nat} {sp dp n : Int32} (hlink : (Cond.methodLink own index arraycopyName).before args s = true) (hka : kd G a = 13) (hkb : kd G b = 13) (hok : cpOk G a sp b dp n) (hfr : 1 ≤ R.frames) (hlo : (rest.map fun v => v.category).sum + (nativeFrameWords "java/lang/System" "arraycopy" 5 + 11) ≤ R.locals) (hdg : decode cc pc = .ok (.invokestatic index, 3))
    (kk : ∀ (H1 : Heap) (locs1 : List Loc), Hp G (sC u a sp.toNatClampNeg b dp.toNatClampNeg n.toNatClampNeg) s H1 locs1 → W p l e R s m args below meth c H1 locs1 cells slots Q (F0 m (pc + 3) ls rest)) : W p l e R s m args below meth c H locs cells slots Q (F0 m pc ls (.int n :: .int dp :: .ref b :: .int sp :: .ref a :: rest)) := by
  have hA := C.hA
  obtain ⟨hx, hb, hown, -, -, hK, -, -, hly, -⟩ := C
  have he := wl_at hly (u := u) (a := a) (by omega)
  rw [ce_i hka] at he
  have he2 := wl_at hly (u := u) (a := b) (by omega)
  rw [ce_i hkb] at he2
  obtain ⟨o1, o2, o3, o4, o5⟩ := hok
  refine va_copyi hx hb hl.symm hown hlink (nat_J10_arraycopy_Ljava_lang_Object_ILjava_lang_Object_II_V hA) (st_J10_arraycopy_Ljava_lang_Object_ILjava_lang_Object_II_V hA) (ini_J10 hA) hK hP.1 (wl_D G u) hP.2 (a - gz G) (b - gz G) 0 0 he he2 rfl rfl rfl o1 o2 o3 o4 o5 (fun _ _ => rfl) hfr hlo hdg (fun H1 locs1 h1 h2 h3 => ?_)
  rw [wl_set (u' := sC u a sp.toNatClampNeg b dp.toNatClampNeg n.toNatClampNeg) (hly b (by omega)).1 (hly b (by omega)).2 (by rw [ce_i hkb, show va_cpy (u.1 a) (u.1 b) sp.toNatClampNeg dp.toNatClampNeg n.toNatClampNeg = (sC u a sp.toNatClampNeg b dp.toNatClampNeg n.toNatClampNeg).1 b by funext j; simp [va_cpy, sC]]) (fun b hb => sC_ne hb)] at h1
  exact kk H1 locs1 ⟨h1, h3⟩
variable {y : MethodName} {bytes : ByteArray} {maxL n index : Nat} {ret : Option FieldType} {rm' : Room} {Qc : Array Value → State → Outcome → State → Prop} {As st0 : List Value} {b : Nat}
theorem Cx.recvS (C : Cx G p s m c cc own nL) (hP : Hp G u s H locs) {i : Nat} (hi : i < 36) : ∃ cell : Cell, H[gS G i]? = some cell ∧ cell.vm.isStatics = false ∧ s.vm.findClass "java/lang/String" = some cell.cls := by
  obtain ⟨cell, h1, h2, h3, -⟩ := (C.2.2.2.2.2.2.1 i hi).2.1.kept hP.2.2.1
  exact ⟨cell, h1, h2, h3⟩
theorem q_runVs (C : Cx G p s m c cc own nL) (hP : Hp G u s H locs) {i : Nat} (hi : i < 36) (hM : Met l y [.code y bytes maxL ret] rm' (va_Pc (.ref (gS G i) :: As) (Wd G u)) Qc mc ms (ag G))
    (w1 : (Cond.code y bytes maxL ret).before args s = true) (w2 : (Cond.initialized y.cls).before args s = true) (w3 : (Cond.methodLink own index y).before args s = true) (w4 : (Cond.instanceMethod y).before args s = true) (w5 : (Cond.selects "java/lang/String" y y).before args s = true)
    (hd : y.cls ≠ "java/lang/invoke/MethodHandle" ∧ y.cls ≠ "java/lang/invoke/VarHandle" ∧ (parseMethodDescriptor y.desc).map (fun d => d.parameters.length) = some As.length)
    (hm : rm'.cells = mc ∧ rm'.slots = ms) (hR : rm'.frames + 1 ≤ R.frames ∧ 8 + (maxL + 11) + rm'.locals ≤ R.locals) (hf : cells + mc ≤ R.cells ∧ slots + ms ≤ R.slots) (hl : ls.size = nL) (hs : st0 = As.reverse ++ .ref (gS G i) :: rest) (hW : (rest.map fun v => v.category).sum ≤ 8) (hdg : decode cc pc = .ok (.invokevirtual index, 3)) :
    va_Run p l e R s m args below meth c H locs cells slots mc ms (F0 m pc ls st0) rest (Qc (Value.ref (gS G i) :: As).toArray) (ag G) := by
  refine va_runV (Ts := []) (C := "java/lang/String") (bytes := bytes) (maxL := maxL) (ret := ret) (n := As.length) (index := index) (own := own) (cc := cc) (nL := nL) ⟨C.1, C.2.1, C.2.2.2.1, C.2.2.1, fun w h => nomatch h⟩ hM ⟨⟨hm.1, hm.2, hR.1, hR.2, q_ws C rfl w1, List.mem_singleton.mpr rfl, w1, w2, ⟨hd.1, hd.2.1⟩, fun sig h => ?_, w3⟩, w4, w5⟩ ⟨Wd.fb, C.recvS hP hi, fun U hU hW => ⟨rfl, hP.to C.2.2.2.2 hU hW⟩⟩ rfl rfl hl hs (lv_room hW) hdg hf
  have h2 := hd.2.2
  rw [h] at h2
  exact (Option.some.inj h2).symm
theorem q_nret (C : Cx G p s m c cc own nL) {ty : FieldType} (hr : meth.sig.returnType = some ty) (hlk : meth.locks = false) (hP : Hp G u s H locs) {Qx : Int32 → Mm → Prop} {v : Int32} (hn : narrow ty (.int v) = .int v) (hq : Qx v u) (hc : cells ≤ mc) (hs : slots ≤ ms) (hdg : decode cc pc = .ok (.ireturn, 1)) : W p l e R s m args below meth c H locs cells slots (MQ below (Ei G Qx) args s mc ms (ag G)) (F0 m pc ls [.int v]) := by
  refine W.widen hc hs ?_
  exact W.zret C.1 C.2.1 hr hn (fun t ht hW => ⟨⟨v, u, rfl, hq, hP.wp ht⟩, hP.2.F ht⟩) hP.2.2.2 hdg hlk
end QS
theorem hd_J0_coder : yJ0_coder_7d493.cls ≠ "java/lang/invoke/MethodHandle" ∧ yJ0_coder_7d493.cls ≠ "java/lang/invoke/VarHandle" ∧ (parseMethodDescriptor yJ0_coder_7d493.desc).map (fun d => d.parameters.length) = some 0 := by decide +kernel
theorem hd_J0_isLatin1 : yJ0_isLatin1_aae02.cls ≠ "java/lang/invoke/MethodHandle" ∧ yJ0_isLatin1_aae02.cls ≠ "java/lang/invoke/VarHandle" ∧ (parseMethodDescriptor yJ0_isLatin1_aae02.desc).map (fun d => d.parameters.length) = some 0 := by decide +kernel
theorem hd_J0_length : yJ0_length_8abf5.cls ≠ "java/lang/invoke/MethodHandle" ∧ yJ0_length_8abf5.cls ≠ "java/lang/invoke/VarHandle" ∧ (parseMethodDescriptor yJ0_length_8abf5.desc).map (fun d => d.parameters.length) = some 0 := by decide +kernel
theorem hd_J0_charAt : yJ0_charAt_5068e.cls ≠ "java/lang/invoke/MethodHandle" ∧ yJ0_charAt_5068e.cls ≠ "java/lang/invoke/VarHandle" ∧ (parseMethodDescriptor yJ0_charAt_5068e.desc).map (fun d => d.parameters.length) = some 1 := by decide +kernel
theorem hd_J0_checkIndex : yJ0_checkIndex_df160.cls ≠ "java/lang/invoke/MethodHandle" ∧ yJ0_checkIndex_df160.cls ≠ "java/lang/invoke/VarHandle" ∧ (parseMethodDescriptor yJ0_checkIndex_df160.desc).map (fun d => d.parameters.length) = some 2 := by decide +kernel
theorem hd_J1_charAt : yJ1_charAt_3b067.cls ≠ "java/lang/invoke/MethodHandle" ∧ yJ1_charAt_3b067.cls ≠ "java/lang/invoke/VarHandle" ∧ (parseMethodDescriptor yJ1_charAt_3b067.desc).map (fun d => d.parameters.length) = some 2 := by decide +kernel
theorem hd_J3_checkIndex : yJ3_checkIndex_8e157.cls ≠ "java/lang/invoke/MethodHandle" ∧ yJ3_checkIndex_8e157.cls ≠ "java/lang/invoke/VarHandle" ∧ (parseMethodDescriptor yJ3_checkIndex_8e157.desc).map (fun d => d.parameters.length) = some 3 := by decide +kernel
abbrev rm_J0_0 : Room := { frames := 0, cells := 0, slots := 0, locals := 0 }
abbrev rm_J0_1 : Room := { frames := 1, cells := 0, slots := 0, locals := 22 }
abbrev rm_J1_c : Room := { frames := 2, cells := 0, slots := 0, locals := 43 }
abbrev rm_J0_c : Room := { frames := 3, cells := 0, slots := 0, locals := 64 }
theorem c_J0_coder {l : Launch} {G : Gx} {i : Nat} (hi : i < 36) {u : Mm} {Q : Int32 → Mm → Prop} (h : Q 0 u) : Met l yJ0_coder_7d493 [.code yJ0_coder_7d493 cJ0_coder_7d493 1 (some .byte)] rm_J0_0 (va_Pc [.ref (gS G i)] (Wd G u)) (Ei G Q) 0 0 (ag G) := by
  refine q_met (by decide) (Nat.le_of_ble_eq_true rfl) ?_
  intro p e s m below meth c ls C hr hlk hnm hl hP
  have hl : lv_has ls 1 [(0, .ref (gS G i))] := hl
  generalize ([.ref (gS G i)] : List Value).toArray = args
  have hx := C.1
  have hb := C.2.1
  have hst := C.2.2.2.2.2.2.1 i hi
  have hex := C.2.2.2.2.2.2.2.1
  refine va_gets hx hb hex.2.2.1 hP.2 C.2.2.1 (fl_J0_38 C.hA) (fun _ h => h) dJ0_coder_7d493_0 ?_
  refine lv_if_eq (tgt := 13) hx hb dJ0_coder_7d493_3 (by decide) (fun c => absurd c (by decide)) (fun _ => ?_)
  refine lv_aload_n hx hb dJ0_coder_7d493_6 rfl (lv_at hl 0 rfl) ?_
  refine vk_getf hx hb hst.2.2.1 hP.2 C.2.2.1 (fl_J0_15 C.hA) (fun _ h => h) dJ0_coder_7d493_7 ?_
  refine lv_goto (tgt := 14) hx hb dJ0_coder_7d493_10 (by decide) ?_
  exact q_nret C hr hlk hP rfl h (by decide) (by decide) dJ0_coder_7d493_14
theorem c_J0_isLatin1 {l : Launch} {G : Gx} {i : Nat} (hi : i < 36) {u : Mm} {Q : Int32 → Mm → Prop} (h : Q 1 u) : Met l yJ0_isLatin1_aae02 [.code yJ0_isLatin1_aae02 cJ0_isLatin1_aae02 1 (some .boolean)] rm_J0_0 (va_Pc [.ref (gS G i)] (Wd G u)) (Ei G Q) 0 0 (ag G) := by
  refine q_met (by decide) (Nat.le_of_ble_eq_true rfl) ?_
  intro p e s m below meth c ls C hr hlk hnm hl hP
  have hl : lv_has ls 1 [(0, .ref (gS G i))] := hl
  generalize ([.ref (gS G i)] : List Value).toArray = args
  have hx := C.1
  have hb := C.2.1
  have hst := C.2.2.2.2.2.2.1 i hi
  have hex := C.2.2.2.2.2.2.2.1
  refine va_gets hx hb hex.2.2.1 hP.2 C.2.2.1 (fl_J0_38 C.hA) (fun _ h => h) dJ0_isLatin1_aae02_0 ?_
  refine lv_if_eq (tgt := 17) hx hb dJ0_isLatin1_aae02_3 (by decide) (fun c => absurd c (by decide)) (fun _ => ?_)
  refine lv_aload_n hx hb dJ0_isLatin1_aae02_6 rfl (lv_at hl 0 rfl) ?_
  refine vk_getf hx hb hst.2.2.1 hP.2 C.2.2.1 (fl_J0_15 C.hA) (fun _ h => h) dJ0_isLatin1_aae02_7 ?_
  refine lv_if_ne (tgt := 17) hx hb dJ0_isLatin1_aae02_10 (by decide) (fun c => absurd rfl c) (fun _ => ?_)
  refine lv_iconst (v := (1 : Int32)) hx hb dJ0_isLatin1_aae02_13 (by decide) ?_
  refine lv_goto (tgt := 18) hx hb dJ0_isLatin1_aae02_14 (by decide) ?_
  exact q_nret C hr hlk hP rfl h (by decide) (by decide) dJ0_isLatin1_aae02_18
theorem c_J3_checkIndex {l : Launch} {G : Gx} {p0 p1 : Int32} {v : Value} (hv : v = .null ∨ ∃ t : Nat, v = .ref t) {u : Mm} {Q : Int32 → Mm → Prop} (h0 : ¬ p0 < 0) (h1 : p0 < p1) (h : Q p0 u) : Met l yJ3_checkIndex_8e157 [.code yJ3_checkIndex_8e157 cJ3_checkIndex_8e157 3 (some .int)] rm_J0_0 (va_Pc [.int p0, .int p1, v] (Wd G u)) (Ei G Q) 0 0 (ag G) := by
  refine q_met (by decide) (by rcases hv with q | ⟨t, q⟩ <;> (subst q; exact Nat.le_of_ble_eq_true rfl)) ?_
  intro p e s m below meth c ls C hr hlk hnm hl hP
  have hl : lv_has ls 3 [(0, .int p0), (1, .int p1), (2, v)] := hl
  generalize ([.int p0, .int p1, v] : List Value).toArray = args
  have hx := C.1
  have hb := C.2.1
  refine lv_iload_n hx hb dJ3_checkIndex_8e157_0 rfl (lv_at hl 0 rfl) ?_
  refine lv_if_lt (tgt := 9) hx hb dJ3_checkIndex_8e157_1 (by decide) (fun c => absurd c h0) (fun _ => ?_)
  refine lv_iload_n hx hb dJ3_checkIndex_8e157_4 rfl (lv_at hl 0 rfl) ?_
  refine lv_iload_n hx hb dJ3_checkIndex_8e157_5 rfl (lv_at hl 1 rfl) ?_
  refine lv_icmp_lt (tgt := 16) hx hb dJ3_checkIndex_8e157_6 (by decide) (fun _ => ?_) (fun c => absurd h1 c)
  refine lv_iload_n hx hb dJ3_checkIndex_8e157_16 rfl (lv_at hl 0 rfl) ?_
  exact q_iret C hr hlk hP h (by decide) (by decide) dJ3_checkIndex_8e157_17
theorem c_J0_checkIndex {l : Launch} {G : Gx} {p0 p1 : Int32} {u : Mm} {Q : Mm → Prop} (h0 : ¬ p0 < 0) (h1 : p0 < p1) (h : Q u) : Met l yJ0_checkIndex_df160 [.code yJ0_checkIndex_df160 cJ0_checkIndex_df160 2 none] rm_J0_1 (va_Pc [.int p0, .int p1] (Wd G u)) (Ev G Q) 0 0 (ag G) := by
  refine q_met (by decide) (Nat.le_of_ble_eq_true rfl) ?_
  intro p e s m below meth c ls C hr hlk hnm hl hP
  have hl : lv_has ls 2 [(0, .int p0), (1, .int p1)] := hl
  generalize ([.int p0, .int p1] : List Value).toArray = args
  have hx := C.1
  have hb := C.2.1
  have hex := C.2.2.2.2.2.2.2.1
  refine lv_iload_n hx hb dJ0_checkIndex_df160_0 rfl (lv_at hl 0 rfl) ?_
  refine lv_iload_n hx hb dJ0_checkIndex_df160_1 rfl (lv_at hl 1 rfl) ?_
  have fin : ∀ v : Value, (v = .null ∨ ∃ t : Nat, v = .ref t) → W p l e rm_J0_1 s m args below meth c s.heap [] 0 0 (MQ below (Ev G Q) args s 0 0 (ag G)) (F0 m 5 ls [v, .int p1, .int p0]) := by
    intro v hv
    refine q_cali (q_runS C hP (c_J3_checkIndex (Q := fun r u' => u' = u) hv h0 h1 rfl) (cd_J3_checkIndex_8e157 C.hA) (ini_J3 C.hA) (ml_J0_1059 C.hA) (st_J3_checkIndex_8e157 C.hA) hd_J3_checkIndex ⟨rfl, rfl⟩ ⟨Nat.le_of_ble_eq_true rfl, Nat.le_of_ble_eq_true rfl⟩ ⟨Nat.le_of_ble_eq_true rfl, Nat.le_of_ble_eq_true rfl⟩ hl.1 rfl (Nat.le_of_ble_eq_true rfl) dJ0_checkIndex_df160_5) hP (fun r u' H locs e2 hQ1 => ?_)
    subst e2
    refine lv_pop hx hb dJ0_checkIndex_df160_8 rfl ?_
    exact q_vret C hr hlk hQ1 h (by decide) (by decide) dJ0_checkIndex_df160_9
  rcases hex.2.2.2 with q | ⟨t, q⟩
  · exact va_gets hx hb q hP.2 C.2.2.1 (fl_J0_1053 C.hA) (fun _ h => h) dJ0_checkIndex_df160_2 (fin _ (Or.inl rfl))
  · exact va_gets hx hb q hP.2 C.2.2.1 (fl_J0_1053 C.hA) (fun _ h => h) dJ0_checkIndex_df160_2 (fin _ (Or.inr ⟨t, rfl⟩))
theorem kByt_ok : ∀ i, i < 36 → ∀ j, j < kLen i → ((((kByt i).getD j 0) &&& (255 : Int32)).toUInt32 % 65536).toInt32 = (kByt i).getD j 0 := by decide +kernel
theorem kLen_ok : ∀ i, i < 36 → kLen i < 100 := by decide +kernel
theorem vp_in_pos {x : Int32} {n : Nat} (h : vp_in x n) : ¬ x < 0 := fun q => h (Or.inl q)
theorem vp_in_lt {x : Int32} {n : Nat} (h : vp_in x n) : x.toNatClampNeg < n := Nat.not_le.mp fun q => h (Or.inr q)
theorem vp_in_cmp {x : Int32} {n : Nat} (h : vp_in x n) (hn : n < 2 ^ 31) : x < nI n := by
  obtain ⟨j, hj, rfl⟩ := vp_in_of h hn
  exact nI_lt hj hn
theorem c_J1_charAt {l : Launch} {G : Gx} {i : Nat} (hi : i < 36) {p1 : Int32} {u : Mm} {Q : Int32 → Mm → Prop} (hin : vp_in p1 (kLen i)) (h : Q ((kByt i).getD p1.toNatClampNeg 0) u) : Met l yJ1_charAt_3b067 [.code yJ1_charAt_3b067 cJ1_charAt_3b067 2 (some .char)] rm_J1_c (va_Pc [.ref (gV G i), .int p1] (Wd G u)) (Ei G Q) 0 0 (ag G) := by
  refine q_met (by decide) (Nat.le_of_ble_eq_true rfl) ?_
  intro p e s m below meth c ls C hr hlk hnm hl hP
  have hl : lv_has ls 2 [(0, .ref (gV G i)), (1, .int p1)] := hl
  generalize ([.ref (gV G i), .int p1] : List Value).toArray = args
  have hx := C.1
  have hb := C.2.1
  have hT := (C.2.2.2.2.2.2.1 i hi).2.2.2.2
  refine lv_iload_n hx hb dJ1_charAt_3b067_0 rfl (lv_at hl 1 rfl) ?_
  refine lv_aload_n hx hb dJ1_charAt_3b067_1 rfl (lv_at hl 0 rfl) ?_
  refine va_tlen hx hb hT hP.2 rfl dJ1_charAt_3b067_2 ?_
  refine q_calv (q_runS C hP (c_J0_checkIndex (p1 := nI (kLen i)) (Q := fun u' => u' = u) (vp_in_pos hin) (vp_in_cmp hin (by have := kLen_ok i hi; omega)) rfl) (cd_J0_checkIndex_df160 C.hA) (ini_J0 C.hA) (ml_J1_9 C.hA) (st_J0_checkIndex_df160 C.hA) hd_J0_checkIndex ⟨rfl, rfl⟩ ⟨Nat.le_of_ble_eq_true rfl, Nat.le_of_ble_eq_true rfl⟩ ⟨Nat.le_of_ble_eq_true rfl, Nat.le_of_ble_eq_true rfl⟩ hl.1 rfl (Nat.le_of_ble_eq_true rfl) dJ1_charAt_3b067_3) hP (fun u' H locs e2 hQ1 => ?_)
  subst e2
  refine lv_aload_n hx hb dJ1_charAt_3b067_6 rfl (lv_at hl 0 rfl) ?_
  refine lv_iload_n hx hb dJ1_charAt_3b067_7 rfl (lv_at hl 1 rfl) ?_
  refine va_tb hx hb hT hQ1.2 hin rfl dJ1_charAt_3b067_8 ?_
  refine lv_sipush (v := (255 : Int32)) hx hb dJ1_charAt_3b067_9 (by decide) ?_
  refine lv_iand hx hb dJ1_charAt_3b067_12 ?_
  refine lv_i2c hx hb dJ1_charAt_3b067_13 rfl ?_
  exact q_nret C hr hlk hQ1 (pk_nc _) (by rw [kByt_ok i hi _ (vp_in_lt hin)]; exact h) (by decide) (by decide) dJ1_charAt_3b067_14
def V_J0_length (G : Gx) (p0 : Nat) (u : Mm) (Q : Int32 → Mm → Prop) : Prop := ∃ i : Nat, i < 36 ∧ p0 = gS G i ∧ Q (nI (kLen i)) u
def V_J0_charAt (G : Gx) (p0 : Nat) (p1 : Int32) (u : Mm) (Q : Int32 → Mm → Prop) : Prop := ∃ i : Nat, i < 36 ∧ p0 = gS G i ∧ vp_in p1 (kLen i) ∧ Q ((kByt i).getD p1.toNatClampNeg 0) u
theorem c_J0_charAt {l : Launch} {G : Gx} {i : Nat} (hi : i < 36) {p1 : Int32} {u : Mm} {Q : Int32 → Mm → Prop} (hin : vp_in p1 (kLen i)) (h : Q ((kByt i).getD p1.toNatClampNeg 0) u) : Met l yJ0_charAt_5068e [.code yJ0_charAt_5068e cJ0_charAt_5068e 2 (some .char)] rm_J0_c (va_Pc [.ref (gS G i), .int p1] (Wd G u)) (Ei G Q) 0 0 (ag G) := by
  refine q_met (by decide) (Nat.le_of_ble_eq_true rfl) ?_
  intro p e s m below meth c ls C hr hlk hnm hl hP
  have hl : lv_has ls 2 [(0, .ref (gS G i)), (1, .int p1)] := hl
  generalize ([.ref (gS G i), .int p1] : List Value).toArray = args
  have hx := C.1
  have hb := C.2.1
  have hst := C.2.2.2.2.2.2.1 i hi
  refine lv_aload_n hx hb dJ0_charAt_5068e_0 rfl (lv_at hl 0 rfl) ?_
  refine q_cali (q_runVs C hP hi (c_J0_isLatin1 hi (Q := fun v u' => v = 1 ∧ u' = u) ⟨rfl, rfl⟩) (cd_J0_isLatin1_aae02 C.hA) (ini_J0 C.hA) (ml_J0_492 C.hA) (im_J0_isLatin1_aae02 C.hA) (sl_J0_isLatin1_aae02 C.hA) hd_J0_isLatin1 ⟨rfl, rfl⟩ ⟨Nat.le_of_ble_eq_true rfl, Nat.le_of_ble_eq_true rfl⟩ ⟨Nat.le_of_ble_eq_true rfl, Nat.le_of_ble_eq_true rfl⟩ hl.1 rfl (Nat.le_of_ble_eq_true rfl) dJ0_charAt_5068e_1) hP (fun v u' H locs e2 hQ1 => ?_)
  obtain ⟨e1, e2⟩ := e2
  subst e1; subst e2
  refine lv_if_eq (tgt := 16) hx hb dJ0_charAt_5068e_4 (by decide) (fun c => absurd c (by decide)) (fun _ => ?_)
  refine lv_aload_n hx hb dJ0_charAt_5068e_7 rfl (lv_at hl 0 rfl) ?_
  refine vk_getf hx hb hst.2.2.2.1 hQ1.2 C.2.2.1 (fl_J0_9 C.hA) (fun _ h => h) dJ0_charAt_5068e_8 ?_
  refine lv_iload_n hx hb dJ0_charAt_5068e_11 rfl (lv_at hl 1 rfl) ?_
  refine q_cali (q_runS C hQ1 (c_J1_charAt hi (Q := fun v u'' => v = (kByt i).getD p1.toNatClampNeg 0 ∧ u'' = u') hin ⟨rfl, rfl⟩) (cd_J1_charAt_3b067 C.hA) (ini_J1 C.hA) (ml_J0_495 C.hA) (st_J1_charAt_3b067 C.hA) hd_J1_charAt ⟨rfl, rfl⟩ ⟨Nat.le_of_ble_eq_true rfl, Nat.le_of_ble_eq_true rfl⟩ ⟨Nat.le_of_ble_eq_true rfl, Nat.le_of_ble_eq_true rfl⟩ hl.1 rfl (Nat.le_of_ble_eq_true rfl) dJ0_charAt_5068e_12) hQ1 (fun v u'' H locs e2 hQ2 => ?_)
  obtain ⟨e1, e2⟩ := e2
  subst e1; subst e2
  exact q_nret C hr hlk hQ2 (by rw [← kByt_ok i hi _ (vp_in_lt hin)]; exact pk_nc _) h (by decide) (by decide) dJ0_charAt_5068e_15
theorem c_J0_length {l : Launch} {G : Gx} {i : Nat} (hi : i < 36) {u : Mm} {Q : Int32 → Mm → Prop} (h : Q (nI (kLen i)) u) : Met l yJ0_length_8abf5 [.code yJ0_length_8abf5 cJ0_length_8abf5 1 (some .int)] rm_J0_1 (va_Pc [.ref (gS G i)] (Wd G u)) (Ei G Q) 0 0 (ag G) := by
  refine q_met (by decide) (Nat.le_of_ble_eq_true rfl) ?_
  intro p e s m below meth c ls C hr hlk hnm hl hP
  have hl : lv_has ls 1 [(0, .ref (gS G i))] := hl
  generalize ([.ref (gS G i)] : List Value).toArray = args
  have hx := C.1
  have hb := C.2.1
  have hst := C.2.2.2.2.2.2.1 i hi
  refine lv_aload_n hx hb dJ0_length_8abf5_0 rfl (lv_at hl 0 rfl) ?_
  refine vk_getf hx hb hst.2.2.2.1 hP.2 C.2.2.1 (fl_J0_9 C.hA) (fun _ h => h) dJ0_length_8abf5_1 ?_
  refine va_tlen hx hb hst.2.2.2.2 hP.2 rfl dJ0_length_8abf5_4 ?_
  refine lv_aload_n hx hb dJ0_length_8abf5_5 rfl (lv_at hl 0 rfl) ?_
  refine q_cali (q_runVs C hP hi (c_J0_coder hi (Q := fun v u' => v = 0 ∧ u' = u) ⟨rfl, rfl⟩) (cd_J0_coder_7d493 C.hA) (ini_J0 C.hA) (ml_J0_335 C.hA) (im_J0_coder_7d493 C.hA) (sl_J0_coder_7d493 C.hA) hd_J0_coder ⟨rfl, rfl⟩ ⟨Nat.le_of_ble_eq_true rfl, Nat.le_of_ble_eq_true rfl⟩ ⟨Nat.le_of_ble_eq_true rfl, Nat.le_of_ble_eq_true rfl⟩ hl.1 rfl (Nat.le_of_ble_eq_true rfl) dJ0_length_8abf5_6) hP (fun v u' H locs e2 hQ1 => ?_)
  obtain ⟨e1, e2⟩ := e2
  subst e1; subst e2
  refine lv_ishr hx hb dJ0_length_8abf5_9 ?_
  rw [show (Int32.ofNat (kLen i)) >>> ((0 : Int32) &&& 31) = nI (kLen i) by rw [show ((0 : Int32) &&& 31) = 0 by decide]; exact Int32.shiftRight_zero]
  exact q_iret C hr hlk hQ1 h (by decide) (by decide) dJ0_length_8abf5_10
theorem cs_J0_length {l : Launch} {G : Gx} {p0 : Nat} {u : Mm} {Q : Int32 → Mm → Prop} (h : V_J0_length G p0 u Q) : ∃ i : Nat, i < 36 ∧ p0 = gS G i ∧ Met l yJ0_length_8abf5 [.code yJ0_length_8abf5 cJ0_length_8abf5 1 (some .int)] rm_J0_1 (va_Pc [.ref (gS G i)] (Wd G u)) (Ei G Q) 0 0 (ag G) := by
  obtain ⟨i, hi, e, h⟩ := h
  exact ⟨i, hi, e, c_J0_length hi h⟩
theorem cs_J0_charAt {l : Launch} {G : Gx} {p0 : Nat} {p1 : Int32} {u : Mm} {Q : Int32 → Mm → Prop} (h : V_J0_charAt G p0 p1 u Q) : ∃ i : Nat, i < 36 ∧ p0 = gS G i ∧ Met l yJ0_charAt_5068e [.code yJ0_charAt_5068e cJ0_charAt_5068e 2 (some .char)] rm_J0_c (va_Pc [.ref (gS G i), .int p1] (Wd G u)) (Ei G Q) 0 0 (ag G) := by
  obtain ⟨i, hi, e, hin, h⟩ := h
  exact ⟨i, hi, e, c_J0_charAt hi hin h⟩
