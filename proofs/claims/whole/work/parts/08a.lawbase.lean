/-! the law's own methods: they catch -/
theorem ca_NSE {U : State} (h : AllW U) {A : Array Value} : (Cond.castable "java/util/NoSuchElementException" "java/util/NoSuchElementException").before A U = true := h.use (mw_3 (List.mem_of_getElem? (i := 80) rfl)) rfl
theorem ca_IAE {U : State} (h : AllW U) {A : Array Value} : (Cond.castable "java/lang/IllegalArgumentException" "java/lang/IllegalArgumentException").before A U = true := h.use (mw_3 (List.mem_of_getElem? (i := 146) rfl)) rfl
def ncE (U : State) : Prop := va_Nc "java/lang/IllegalArgumentException" "java/util/NoSuchElementException" U
def WdL (G : Gx) (u : Mm) (U : State) : Prop := Wd G u U ∧ ncE U
section QL
variable {G : Gx} {u : Mm} {p : Program} {l : Launch} {e : Env} {R : Room} {s : State} {m : MethodId} {args : Array Value} {below : List Frame} {meth : Method} {c : Code} {H : Heap} {locs : List Loc} {cells slots : Nat} {Q : State → Prop}
variable {cc : ByteArray} {own : String} {nL pc mc ms : Nat} {ls : Array Slot} {rest : List Value}
variable {y : MethodName} {bytes : ByteArray} {maxL n index : Nat} {ret : Option FieldType} {rm' : Room} {Qc : Array Value → State → Outcome → State → Prop} {XC : String → State → State → Prop} {As st0 : List Value} {b ci : Nat} {r : vw_C} {hh : List (Nat × Nat × Nat × Nat)} {X : String → Mm → Prop}
theorem WdL.fb {av : List Value} {u : Mm} : FrameBlind (va_Pc av (WdL G u)) := fun a U g mk h => ⟨h.1, h.2.1.blind g mk a, va_Nc.moved (u := U) (U := U.calling g mk a) (Vm.Alike.refl U.vm) h.2.2⟩
theorem q_metL {ty : Option FieldType} {rm : Room} {av : List Value} (hy : plainName y.cls = true) (hn : (lg_sl av).length ≤ maxL)
    (body : ∀ (p : Program) (e : Env) (s : State) (m : MethodId) (below : List Frame) (meth : Method) (c : Code) (ls : Array Slot), Cx G p s m c bytes y.cls maxL → meth.sig.returnType = ty → meth.locks = false → c.exceptionTable.toList = tableOf hh → ncE s → lv_has ls maxL (lv_args 0 av) → Hp G u s s.heap [] →
      W p l e rm s m av.toArray below meth c s.heap [] 0 0 (MQ below Qc av.toArray s mc ms (ag G)) (F0 m 0 ls [])) : Met l y [.codeWith y bytes maxL ty hh] rm (va_Pc av (WdL G u)) Qc mc ms (ag G) := by
  refine MetFree.of_bodyS (code := bytes) (maxLocals := maxL) (ret := ty) hy ?_ ?_
  · intro args s m h hn
    obtain ⟨m9, meth, c, hn9, h1, h2, h3, h4, -, h5, h6, -⟩ := Cond.codeWith_spec (atoms_spec (ws := [Cond.codeWith y bytes maxL ty hh]) h _ List.mem_cons_self)
    cases hn.symm.trans hn9
    exact ⟨meth, c, h1, h2, h3, h4, h5, h6⟩
  · intro p e s m args below meth c s₁ B hml hv _
    have hh0 : s₁.heap = s.heap := by rw [B.state]; rfl
    obtain ⟨rfl, ⟨hP, hF⟩, hN⟩ := hv
    have htab := vx_table (x := y) B (atoms_spec (ws := [Cond.codeWith y bytes maxL ty hh]) B.pre _ List.mem_cons_self)
    have K := body p e s m below meth c _ ⟨B.exec, B.bytes, findClass_of_methodNamed B.named, hml, hF⟩ B.returns B.notSynchronized htab hN (lv_entry av hn) ⟨hP, va_S.rf⟩
    rw [← lg_entry_eq] at K
    obtain ⟨t, a1, o, b1, b2, b3⟩ := K s₁ hh0 (Stand.of_body B)
    exact ⟨t, o, a1, b1, b2, ⟨b3.1, b3.2⟩⟩
theorem q_caliH {a : Array Value} {Qx : Int32 → Mm → Prop} (hr : vx_Run p l e R s m args below meth c H locs cells slots mc ms (F0 m pc ls st0) rest (Ei G Qx a) (Xe G X) (ag G)) (hP : Hp G u s H locs)
    (kx : ∀ (E : String) (ce : Cell) (q : Addr) (u' : Mm) (H1 : Heap) (locs1 : List Loc), X E u' → Hp G u' s H1 locs1 → H1[q]? = some ce → ce.vm = .none → s.vm.findClass E = some ce.cls → vx_W p l e R s m args below meth c H1 locs1 (cells + mc) (slots + ms) Q (F0 m pc ls rest) q)
    (kk : ∀ (v : Int32) (u' : Mm) (H1 : Heap) (locs1 : List Loc), Qx v u' → Hp G u' s H1 locs1 → W p l e R s m args below meth c H1 locs1 (cells + mc) (slots + ms) Q (F0 m (pc + 3) ls (.int v :: rest))) : W p l e R s m args below meth c H locs cells slots Q (F0 m pc ls st0) :=
  vx_calli hr hP.2 (fun _ _ h => h) (fun _ h => h) (fun _ _ h => h)
    (fun E ce q9 w t H1 locs1 ht hvm hw hB hz hk hS h1 h2 h3 => kx E ce q9 w.2 H1 locs1 (by rw [hB.1]; exact hw) ⟨by rw [← ht]; exact hB.2, hS⟩ h1 h2 h3)
    (fun v u' t H1 locs1 ht hvm hw hB hz hk hS => kk v u' H1 locs1 hw ⟨by rw [← ht]; exact hB, hS⟩)
theorem q_runSL (C : Cx G p s m c cc own nL) (hN : ncE s) (hP : Hp G u s H locs) (hM : Met l y [.codeWith y bytes maxL ret hh] rm' (va_Pc As (WdL G u)) Qc mc ms (ag G)) (hg : okN (Cond.codeWith y bytes maxL ret hh) = true)
    (w1 : (Cond.codeWith y bytes maxL ret hh).before args s = true) (w2 : (Cond.initialized y.cls).before args s = true) (w3 : (Cond.methodLink own index y).before args s = true) (w4 : (Cond.static y).before args s = true)
    (hd : y.cls ≠ "java/lang/invoke/MethodHandle" ∧ y.cls ≠ "java/lang/invoke/VarHandle" ∧ (parseMethodDescriptor y.desc).map (fun d => d.parameters.length) = some As.length)
    (hm : rm'.cells = mc ∧ rm'.slots = ms) (hR : rm'.frames + 1 ≤ R.frames ∧ 8 + (maxL + 11) + rm'.locals ≤ R.locals) (hf : cells + mc ≤ R.cells ∧ slots + ms ≤ R.slots) (hl : ls.size = nL) (hs : st0 = As.reverse ++ rest) (hW : (rest.map fun v => v.category).sum ≤ 8) (hdg : decode cc pc = .ok (.invokestatic index, 3)) :
    va_Run p l e R s m args below meth c H locs cells slots mc ms (F0 m pc ls st0) rest (Qc As.toArray) (ag G) := by
  refine vx_runSW (Ts := []) (bytes := bytes) (maxL := maxL) (ret := ret) (hh := hh) (n := As.length) (index := index) (own := own) (cc := cc) (nL := nL) ⟨C.1, C.2.1, C.2.2.2.1, C.2.2.1, fun w h => nomatch h⟩ hM ⟨⟨hm.1, hm.2, hR.1, hR.2, fun w hw a' U hW => by rw [List.mem_singleton.mp hw]; exact okN_to hg hW w1, List.mem_singleton.mpr rfl⟩, w1, w2, ⟨hd.1, hd.2.1⟩, fun sig h => ?_, w3, w4⟩ ⟨WdL.fb, fun U hU hW => ⟨rfl, hP.to C.2.2.2.2 hU hW, va_Nc.moved hW.alike hN⟩⟩ rfl rfl hl hs (lv_room hW) hdg hf
  have h2 := hd.2.2
  rw [h] at h2
  exact (Option.some.inj h2).symm
/-- calls that make cells -/
theorem q_calim {a : Array Value} {Qx : Int32 → Mm → Prop} (hr : va_Run p l e R s m args below meth c H locs cells slots mc ms (F0 m pc ls st0) rest (Ei G Qx a) (ag G)) (hP : Hp G u s H locs)
    (kk : ∀ (v : Int32) (u' : Mm) (H1 : Heap) (locs1 : List Loc), Qx v u' → Hp G u' s H1 locs1 → W p l e R s m args below meth c H1 locs1 (cells + mc) (slots + ms) Q (F0 m (pc + 3) ls (.int v :: rest))) : W p l e R s m args below meth c H locs cells slots Q (F0 m pc ls st0) :=
  va_calli hr hP.2 (fun _ _ h => h) (fun _ h => h) (fun v u' t H1 locs1 ht hvm hw hB hz hk hS => kk v u' H1 locs1 hw ⟨by rw [← ht]; exact hB, hS⟩)
end QL
