/-! methods that may throw: X E u is what holds where an exception of the class E leaves -/
section QX
variable {G : Gx} {u : Mm} {p : Program} {l : Launch} {e : Env} {R : Room} {s : State} {m : MethodId} {args : Array Value} {below : List Frame} {meth : Method} {c : Code} {H : Heap} {locs : List Loc} {cells slots : Nat} {Q : State → Prop}
variable {cc : ByteArray} {own : String} {nL pc mc ms : Nat} {ls : Array Slot} {rest : List Value}
def Xe (G : Gx) (X : String → Mm → Prop) : String → State → State → Prop := vx_X (fun w : String × Mm => X w.1 w.2) (fun E w t => E = w.1 ∧ Wp G w.2 t) (ag G)
theorem va_P_grow {D : va_G} {cl : List vw_C} {ws : va_W} {H H1 : Heap} (h : va_P D cl ws H) (hq : ∀ q : Nat, q < H.size → H1[q]? = H[q]?) : va_P D cl ws H1 := fun k q hk => (h k q hk).kept (hq _ (h k q hk).lt)
def nmsE : List String := ["java/lang/RuntimeException", "java/lang/Exception"]
variable {y : MethodName} {bytes : ByteArray} {maxL n index : Nat} {ret : Option FieldType} {rm' : Room} {Qc : Array Value → State → Outcome → State → Prop} {XC : String → State → State → Prop} {As st0 : List Value} {b ci : Nat} {r : vw_C} {host : String} {X : String → Mm → Prop}
theorem q_runVX (C : Cx G p s m c cc own nL) (hP : Hp G u s H locs) (hM : vx_Met l y [.code y bytes maxL ret] rm' (va_Pc (.ref b :: As) (Wd G u)) Qc XC mc ms (ag G))
    (w1 : (Cond.code y bytes maxL ret).before args s = true) (w2 : (Cond.initialized y.cls).before args s = true) (w3 : (Cond.methodLink own index y).before args s = true) (w4 : (Cond.instanceMethod y).before args s = true) (w5 : (Cond.selects r.1 y y).before args s = true)
    (hb : kd G b = ci) (hci : ci < 13) (hc : vwCl[ci]? = some r) (hd : y.cls ≠ "java/lang/invoke/MethodHandle" ∧ y.cls ≠ "java/lang/invoke/VarHandle" ∧ (parseMethodDescriptor y.desc).map (fun d => d.parameters.length) = some As.length)
    (hm : rm'.cells = mc ∧ rm'.slots = ms) (hR : rm'.frames + 1 ≤ R.frames ∧ 8 + (maxL + 11) + rm'.locals ≤ R.locals) (hf : cells + mc ≤ R.cells ∧ slots + ms ≤ R.slots) (hl : ls.size = nL) (hs : st0 = As.reverse ++ .ref b :: rest) (hW : (rest.map fun v => v.category).sum ≤ 8) (hdg : decode cc pc = .ok (.invokevirtual index, 3)) :
    vx_Run p l e R s m args below meth c H locs cells slots mc ms (F0 m pc ls st0) rest (Qc (Value.ref b :: As).toArray) XC (ag G) := by
  refine vx_runV (Ts := []) (C := r.1) (bytes := bytes) (maxL := maxL) (ret := ret) (n := As.length) (index := index) (own := own) (cc := cc) (nL := nL) ⟨C.1, C.2.1, C.2.2.2.1, C.2.2.1, fun w h => nomatch h⟩ hM ⟨⟨hm.1, hm.2, hR.1, hR.2, q_ws C rfl w1, List.mem_singleton.mpr rfl, w1, w2, ⟨hd.1, hd.2.1⟩, fun sig h => ?_, w3⟩, w4, w5⟩ ⟨Wd.fb, C.recv hP hb hci hc, fun U hU hW => ⟨rfl, hP.to C.2.2.2.2 hU hW⟩⟩ rfl rfl hl hs (lv_room hW) hdg hf
  have h2 := hd.2.2
  rw [h] at h2
  exact (Option.some.inj h2).symm
theorem q_runSX (C : Cx G p s m c cc own nL) (hP : Hp G u s H locs) (hM : vx_Met l y [.code y bytes maxL ret] rm' (va_Pc As (Wd G u)) Qc XC mc ms (ag G))
    (w1 : (Cond.code y bytes maxL ret).before args s = true) (w2 : (Cond.initialized y.cls).before args s = true) (w3 : (Cond.methodLink own index y).before args s = true) (w4 : (Cond.static y).before args s = true)
    (hd : y.cls ≠ "java/lang/invoke/MethodHandle" ∧ y.cls ≠ "java/lang/invoke/VarHandle" ∧ (parseMethodDescriptor y.desc).map (fun d => d.parameters.length) = some As.length)
    (hm : rm'.cells = mc ∧ rm'.slots = ms) (hR : rm'.frames + 1 ≤ R.frames ∧ 8 + (maxL + 11) + rm'.locals ≤ R.locals) (hf : cells + mc ≤ R.cells ∧ slots + ms ≤ R.slots) (hl : ls.size = nL) (hs : st0 = As.reverse ++ rest) (hW : (rest.map fun v => v.category).sum ≤ 8) (hdg : decode cc pc = .ok (.invokestatic index, 3)) :
    vx_Run p l e R s m args below meth c H locs cells slots mc ms (F0 m pc ls st0) rest (Qc As.toArray) XC (ag G) := by
  refine vx_runS (Ts := []) (bytes := bytes) (maxL := maxL) (ret := ret) (n := As.length) (index := index) (own := own) (cc := cc) (nL := nL) ⟨C.1, C.2.1, C.2.2.2.1, C.2.2.1, fun w h => nomatch h⟩ hM ⟨⟨hm.1, hm.2, hR.1, hR.2, q_ws C rfl w1, List.mem_singleton.mpr rfl, w1, w2, ⟨hd.1, hd.2.1⟩, fun sig h => ?_, w3⟩, w4⟩ ⟨Wd.fb, fun U hU hW => ⟨rfl, hP.to C.2.2.2.2 hU hW⟩⟩ rfl rfl hl hs (lv_room hW) hdg hf
  have h2 := hd.2.2
  rw [h] at h2
  exact (Option.some.inj h2).symm
/-- not caught: out -/
theorem q_out {E : String} {ce : Cell} {q : Addr} {mc' ms' : Nat} (hxt : ∀ x ∈ c.exceptionTable.toList, False) (hlk : meth.locks = false) (hP : Hp G u s H locs) (hx : X E u) (hcell : H[q]? = some ce) (hv : ce.vm = .none) (hcl : s.vm.findClass E = some ce.cls) (hc : cells ≤ mc') (hs : slots ≤ ms') :
    vx_W p l e R s m args below meth c H locs cells slots (vx_MQ below Qc (Xe G X) args s mc' ms' (ag G)) (F0 m pc ls rest) q :=
  vx_out (fun x h => (hxt x h).elim) hlk hcell hv hcl (fun t ht _ => ⟨(E, u), hx, ⟨rfl, hP.wp ht⟩, hP.2.F ht⟩) hP.2.2.2 hc hs
variable {Q' : Array Value → State → Outcome → State → Prop} {mc' ms' : Nat}
theorem q_caliX {a : Array Value} {Qx : Int32 → Mm → Prop} (hxt : ∀ x ∈ c.exceptionTable.toList, False) (hlk : meth.locks = false) (hr : vx_Run p l e R s m args below meth c H locs cells slots mc ms (F0 m pc ls st0) rest (Ei G Qx a) (Xe G X) (ag G)) (hP : Hp G u s H locs) (hc : cells + mc ≤ mc') (hs : slots + ms ≤ ms')
    (kk : ∀ (v : Int32) (u' : Mm) (H1 : Heap) (locs1 : List Loc), Qx v u' → Hp G u' s H1 locs1 → W p l e R s m args below meth c H1 locs1 (cells + mc) (slots + ms) (vx_MQ below Q' (Xe G X) args s mc' ms' (ag G)) (F0 m (pc + 3) ls (.int v :: rest))) : W p l e R s m args below meth c H locs cells slots (vx_MQ below Q' (Xe G X) args s mc' ms' (ag G)) (F0 m pc ls st0) :=
  vx_calli hr hP.2 (fun _ _ h => h) (fun _ h => h) (fun _ _ h => h)
    (fun E ce q9 w t H1 locs1 ht hvm hw hB hz hk hS h1 h2 h3 => q_out (u := w.2) hxt hlk ⟨by rw [← ht]; exact hB.2, hS⟩ (by rw [hB.1]; exact hw) h1 h2 h3 hc hs)
    (fun v u' t H1 locs1 ht hvm hw hB hz hk hS => kk v u' H1 locs1 hw ⟨by rw [← ht]; exact hB, hS⟩)
theorem q_calvX {a : Array Value} {Qx : Mm → Prop} (hxt : ∀ x ∈ c.exceptionTable.toList, False) (hlk : meth.locks = false) (hr : vx_Run p l e R s m args below meth c H locs cells slots mc ms (F0 m pc ls st0) rest (Ev G Qx a) (Xe G X) (ag G)) (hP : Hp G u s H locs) (hc : cells + mc ≤ mc') (hs : slots + ms ≤ ms')
    (kk : ∀ (u' : Mm) (H1 : Heap) (locs1 : List Loc), Qx u' → Hp G u' s H1 locs1 → W p l e R s m args below meth c H1 locs1 (cells + mc) (slots + ms) (vx_MQ below Q' (Xe G X) args s mc' ms' (ag G)) (F0 m (pc + 3) ls rest)) : W p l e R s m args below meth c H locs cells slots (vx_MQ below Q' (Xe G X) args s mc' ms' (ag G)) (F0 m pc ls st0) :=
  vx_callv hr hP.2 (fun _ _ h => h) (fun _ h => h) (fun _ _ h => h)
    (fun E ce q9 w t H1 locs1 ht hvm hw hB hz hk hS h1 h2 h3 => q_out (u := w.2) hxt hlk ⟨by rw [← ht]; exact hB.2, hS⟩ (by rw [hB.1]; exact hw) h1 h2 h3 hc hs)
    (fun u' t H1 locs1 ht hvm hw hB hz hk hS => kk u' H1 locs1 hw ⟨by rw [← ht]; exact hB, hS⟩)
theorem q_callrX {S SX : Type} {A0 A1 AX : Nat → Prop} {H0 : Heap} {free : Addr → Prop} {a : Array Value} {post : S → Prop} {px : SX → Prop} {B : S → Nat → State → Prop} {BX : String → SX → State → Prop} (hr : vx_Run p l e R s m args below meth c H locs cells slots mc ms (F0 m pc ls st0) rest (va_Qr post B A1 a) (vx_X px BX AX) free) (hS : va_S A0 H0 H locs) (hA : ∀ q, q < H.size → A1 q → A0 q) (hf : ∀ q, free q → A0 q) (hAX : ∀ q, q < H.size → AX q → A0 q)
    (kx : ∀ (E : String) (ce : Cell) (q9 : Addr) (u : SX) (t : State) (H1 : Heap) (locs1 : List Loc), t.heap = H1 → s.vm.Alike t.vm → px u → BX E u t → H.size ≤ H1.size → (∀ q : Nat, q < H.size → ¬ AX q → H1[q]? = H[q]?) → va_S A0 H0 H1 locs1 → H1[q9]? = some ce → ce.vm = .none → s.vm.findClass E = some ce.cls → vx_W p l e R s m args below meth c H1 locs1 (cells + mc) (slots + ms) Q (F0 m pc ls rest) q9)
    (kk : ∀ (u : S) (ra : Nat) (t : State) (H1 : Heap) (locs1 : List Loc), t.heap = H1 → s.vm.Alike t.vm → post u → B u ra t → H.size ≤ H1.size → (∀ q : Nat, q < H.size → ¬ A1 q → H1[q]? = H[q]?) → va_S A0 H0 H1 locs1 → W p l e R s m args below meth c H1 locs1 (cells + mc) (slots + ms) Q (F0 m (pc + 3) ls (.ref ra :: rest))) : W p l e R s m args below meth c H locs cells slots Q (F0 m pc ls st0) := by
  intro T hT X
  rcases hr T hT X with ⟨v, st₀, t, T', L, h0, X', hL, e1, e2, ⟨⟨w, ra, hv, hp, hb⟩, hF⟩, st⟩ | ⟨q, st₀, t, T', L, E, ce, h0, X', hL, e1, e2, ⟨w, hp, hb, hF⟩, hce, hcv, hcl, st⟩
  · cases hv
    obtain ⟨k1, k2, k3⟩ := vx_keep h0 e1 hS hA hf hL hF
    obtain ⟨t2, a1, b1⟩ := kk w ra t T'.heap (locs ++ L) e1.symm (by rw [← e2]; exact X'.warmed.alike) hp hb k1 k2 k3 T' rfl X'
    exact ⟨t2, st t2 a1, b1⟩
  · obtain ⟨k1, k2, k3⟩ := vx_keep h0 e1 hS hAX hf hL hF
    obtain ⟨t2, a1, b1⟩ := kx E ce q w t T'.heap (locs ++ L) e1.symm (by rw [← e2]; exact X'.warmed.alike) hp hb k1 k2 k3 (by rw [e1]; exact hce) hcv hcl T' rfl X'
    exact ⟨t2, st.trans a1, b1⟩
theorem q_calrX {a : Array Value} {Qx : Nat → Mm → Prop} (hxt : ∀ x ∈ c.exceptionTable.toList, False) (hlk : meth.locks = false) (hr : vx_Run p l e R s m args below meth c H locs cells slots mc ms (F0 m pc ls st0) rest (Er G Qx a) (Xe G X) (ag G)) (hP : Hp G u s H locs) (hc : cells + mc ≤ mc') (hs : slots + ms ≤ ms')
    (kk : ∀ (v : Nat) (u' : Mm) (H1 : Heap) (locs1 : List Loc), Qx v u' → Hp G u' s H1 locs1 → W p l e R s m args below meth c H1 locs1 (cells + mc) (slots + ms) (vx_MQ below Q' (Xe G X) args s mc' ms' (ag G)) (F0 m (pc + 3) ls (.ref v :: rest))) : W p l e R s m args below meth c H locs cells slots (vx_MQ below Q' (Xe G X) args s mc' ms' (ag G)) (F0 m pc ls st0) :=
  q_callrX hr hP.2 (fun _ _ h => h) (fun _ h => h) (fun _ _ h => h)
    (fun E ce q9 w t H1 locs1 ht hvm hw hB hz hk hS h1 h2 h3 => q_out (u := w.2) hxt hlk ⟨by rw [← ht]; exact hB.2, hS⟩ (by rw [hB.1]; exact hw) h1 h2 h3 hc hs)
    (fun w v t H1 locs1 ht hvm hw hB hz hk hS => kk v w.2 H1 locs1 (by rw [hB.1]; exact hw) ⟨by rw [← ht]; exact hB.2, hS⟩)
theorem q_throw (C : Cx G p s m c cc own nL) (hst : l.stackTraces = false) (hxt : ∀ x ∈ c.exceptionTable.toList, False) (hlk : meth.locks = false) (hP : Hp G u s H locs) {cls : String} {ik is ic : Nat} (i : Nat) (hi : i < 36) (ho : kOwn i = own) (hj : kIdx i = is) (hcls : Bundle.fit cls = true) (hk : (Cond.classLink own ik cls).before args s = true) (hini : (Cond.initialized cls).before args s = true) (hat : ∀ w ∈ vx_atS own ic cls nmsE, w.before args s = true) (hgood : ∀ w ∈ Cond.classLink own ik cls :: Cond.initialized cls :: vx_atS own ic cls nmsE, vx_ot w = true) (hl : ls.size = nL) (hx : X cls u)
    (d0 : decode cc pc = .ok (.new ik, 3)) (d3 : decode cc (pc + 3) = .ok (.dup, 1)) (d4 : decode cc (pc + 4) = .ok (.ldc is, 2)) (d6 : decode cc (pc + 6) = .ok (.invokespecial ic, 3)) (d9 : decode cc (pc + 9) = .ok (.athrow, 1))
    (hR : 5 < R.frames ∧ (rest.map fun v => v.category).sum + 82 ≤ R.locals ∧ cells + 1 ≤ R.cells ∧ slots + 6 ≤ R.slots) (hc : cells + 1 ≤ mc) (hs : slots + 6 ≤ ms) :
    W p l e R s m args below meth c H locs cells slots (vx_MQ below Qc (Xe G X) args s mc ms (ag G)) (F0 m pc ls rest) := by
  obtain ⟨hex, hb, hown, hml, -, hK, hstr, hex2, hly, -⟩ := C
  have h1 := (hstr i hi).1
  rw [ho, hj] at h1
  exact vx_throwS hex hb hst (names := nmsE) hown hcls (by decide) hk hini h1 hat hgood hex2.1 hex2.2.1 hP.2 (hl.trans hml.symm) d0 d3 d4 d6 d9 (fun x h => (hxt x h).elim) hR.1 hR.2.1 hR.2.2.1 hR.2.2.2 hlk
    (fun t _ hz hq => ⟨(cls, u), hx, ⟨rfl, va_P_grow hP.1 hq⟩, Nat.le_trans hP.2.1 hz, fun q h1 h2 => (hq q (Nat.lt_of_lt_of_le h1 hP.2.1)).trans (hP.2.2.1 q h1 h2)⟩) hP.2.2.2 hc hs
theorem q_throwW (C : Cx G p s m c cc own nL) (hst : l.stackTraces = false) (hxt : ∀ x ∈ c.exceptionTable.toList, False) (hlk : meth.locks = false) (hP : Hp G u s H locs) {cls : String} {ik is ic : Nat} (i : Nat) (hi : i < 36) (ho : kOwn i = own) (hj : kIdx i = is) (hcls : Bundle.fit cls = true) (hk : (Cond.classLink own ik cls).before args s = true) (hini : (Cond.initialized cls).before args s = true) (hat : ∀ w ∈ vx_atS own ic cls nmsE, w.before args s = true) (hgood : ∀ w ∈ Cond.classLink own ik cls :: Cond.initialized cls :: vx_atS own ic cls nmsE, vx_ot w = true) (hl : ls.size = nL) (hx : X cls u)
    (d0 : decode cc pc = .ok (.new ik, 3)) (d3 : decode cc (pc + 3) = .ok (.dup, 1)) (d4 : decode cc (pc + 4) = .ok (.ldc_w is, 3)) (d7 : decode cc (pc + 7) = .ok (.invokespecial ic, 3)) (d10 : decode cc (pc + 10) = .ok (.athrow, 1))
    (hR : 5 < R.frames ∧ (rest.map fun v => v.category).sum + 82 ≤ R.locals ∧ cells + 1 ≤ R.cells ∧ slots + 6 ≤ R.slots) (hc : cells + 1 ≤ mc) (hs : slots + 6 ≤ ms) :
    W p l e R s m args below meth c H locs cells slots (vx_MQ below Qc (Xe G X) args s mc ms (ag G)) (F0 m pc ls rest) := by
  obtain ⟨hex, hb, hown, hml, -, hK, hstr, hex2, hly, -⟩ := C
  have h1 := (hstr i hi).1
  rw [ho, hj] at h1
  exact vx_throwSW hex hb hst (names := nmsE) hown hcls (by decide) hk hini h1 hat hgood hex2.1 hex2.2.1 hP.2 (hl.trans hml.symm) d0 d3 d4 d7 d10 (fun x h => (hxt x h).elim) hR.1 hR.2.1 hR.2.2.1 hR.2.2.2 hlk
    (fun t _ hz hq => ⟨(cls, u), hx, ⟨rfl, va_P_grow hP.1 hq⟩, Nat.le_trans hP.2.1 hz, fun q h1 h2 => (hq q (Nat.lt_of_lt_of_le h1 hP.2.1)).trans (hP.2.2.1 q h1 h2)⟩) hP.2.2.2 hc hs
/-- a contract out of a body that may throw -/
theorem q_metX {ty : Option FieldType} {rm : Room} {av : List Value} (hy : plainName y.cls = true) (hn : (lg_sl av).length ≤ maxL)
    (body : ∀ (p : Program) (e : Env) (s : State) (m : MethodId) (below : List Frame) (meth : Method) (c : Code) (ls : Array Slot), Cx G p s m c bytes y.cls maxL → meth.sig.returnType = ty → meth.locks = false → meth.name = y.name → (∀ x ∈ c.exceptionTable.toList, False) → lv_has ls maxL (lv_args 0 av) → Hp G u s s.heap [] →
      W p l e rm s m av.toArray below meth c s.heap [] 0 0 (vx_MQ below Qc XC av.toArray s mc ms (ag G)) (F0 m 0 ls [])) : vx_Met l y [.code y bytes maxL ty] rm (va_Pc av (Wd G u)) Qc XC mc ms (ag G) := by
  refine vx_ofW (cc := bytes) (maxL := maxL) (ret := ty) hy rfl ?_
  intro p e s m args below meth c s₁ B hml hxt hv
  obtain ⟨rfl, hP, hF⟩ := hv
  rw [lg_entry_eq]
  exact body p e s m below meth c _ ⟨B.exec, B.bytes, findClass_of_methodNamed B.named, hml, hF⟩ B.returns B.notSynchronized (name_of_methodNamed B.named B.method).1 hxt (lv_entry av hn) ⟨hP, va_S.rf⟩
end QX
/-- the words of a throw in ClapValley -/
theorem thI_m : ∀ w ∈ vx_atS RX11 92 "java/lang/IllegalArgumentException" nmsE, w ∈ lw_tbl ∧ okN w = true := by decide +kernel
theorem thI {U : State} (h : AllW U) {A : Array Value} : ∀ w ∈ vx_atS RX11 92 "java/lang/IllegalArgumentException" nmsE, w.before A U = true := fun w hw => h.use (thI_m w hw).1 (thI_m w hw).2
theorem thI_g : ∀ w ∈ Cond.classLink RX11 88 "java/lang/IllegalArgumentException" :: Cond.initialized "java/lang/IllegalArgumentException" :: vx_atS RX11 92 "java/lang/IllegalArgumentException" nmsE, vx_ot w = true := by decide +kernel
