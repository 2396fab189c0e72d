/-! ends and calls -/
section QC
variable {G : Gx} {u : Mm} {p : Program} {l : Launch} {e : Env} {R : Room} {s : State} {m : MethodId} {args : Array Value} {below : List Frame} {meth : Method} {c : Code} {H : Heap} {locs : List Loc} {cells slots : Nat} {Q : State → Prop}
variable {cc : ByteArray} {own : String} {nL pc mc ms : Nat} {ls : Array Slot} {rest : List Value}
/-- the contracts' ends: the memory behind them -/
def Wp (G : Gx) (u : Mm) (t : State) : Prop := va_P (gD G) vwCl (wl G u) t.heap
abbrev Ei (G : Gx) (Qx : Int32 → Mm → Prop) : Array Value → State → Outcome → State → Prop := va_Qi Qx (Wp G) (ag G)
abbrev Ev (G : Gx) (Qx : Mm → Prop) : Array Value → State → Outcome → State → Prop := va_Qv Qx (Wp G) (ag G)
abbrev Er (G : Gx) (Qx : Nat → Mm → Prop) : Array Value → State → Outcome → State → Prop := va_Qr (fun w : Nat × Mm => Qx w.1 w.2) (fun w a t => a = w.1 ∧ Wp G w.2 t) (ag G)
theorem Hp.wp {t : State} (hP : Hp G u s H locs) (ht : t.heap = H) : Wp G u t := by unfold Wp; rw [ht]; exact hP.1
theorem q_iret (C : Cx G p s m c cc own nL) (hr : meth.sig.returnType = some .int) (hlk : meth.locks = false) (hP : Hp G u s H locs) {Qx : Int32 → Mm → Prop} {v : Int32} (hq : Qx v u) (hc : cells ≤ mc) (hs : slots ≤ ms) (hdg : decode cc pc = .ok (.ireturn, 1)) : W p l e R s m args below meth c H locs cells slots (MQ below (Ei G Qx) args s mc ms (ag G)) (F0 m pc ls [.int v]) := by
  refine W.widen hc hs ?_
  exact W.iret C.1 C.2.1 hr (fun t ht hW => ⟨⟨v, u, rfl, hq, hP.wp ht⟩, hP.2.F ht⟩) hP.2.2.2 hdg hlk
theorem nb01 {v : Int32} (h : v = 0 ∨ v = 1) : narrow .boolean (.int v) = .int v := by rcases h with h | h <;> (subst h; rfl)
theorem fb01 {v : Int32} (h : v = 0 ∨ v = 1) : fits .boolean (.int v) = true := by rcases h with h | h <;> (subst h; rfl)
theorem q_zret (C : Cx G p s m c cc own nL) (hr : meth.sig.returnType = some .boolean) (hlk : meth.locks = false) (hP : Hp G u s H locs) {Qx : Int32 → Mm → Prop} {v : Int32} (hb : v = 0 ∨ v = 1) (hq : Qx v u) (hc : cells ≤ mc) (hs : slots ≤ ms) (hdg : decode cc pc = .ok (.ireturn, 1)) : W p l e R s m args below meth c H locs cells slots (MQ below (Ei G Qx) args s mc ms (ag G)) (F0 m pc ls [.int v]) := by
  refine W.widen hc hs ?_
  exact W.zret C.1 C.2.1 hr (nb01 hb) (fun t ht hW => ⟨⟨v, u, rfl, hq, hP.wp ht⟩, hP.2.F ht⟩) hP.2.2.2 hdg hlk
theorem q_vret (C : Cx G p s m c cc own nL) (hr : meth.sig.returnType = none) (hlk : meth.locks = false) (hP : Hp G u s H locs) {Qx : Mm → Prop} (hq : Qx u) (hc : cells ≤ mc) (hs : slots ≤ ms) (hdg : decode cc pc = .ok (.return_, 1)) : W p l e R s m args below meth c H locs cells slots (MQ below (Ev G Qx) args s mc ms (ag G)) (F0 m pc ls []) := by
  refine W.widen hc hs ?_
  exact W.vret C.1 C.2.1 hr (fun t ht hW => ⟨⟨u, rfl, hq, hP.wp ht⟩, hP.2.F ht⟩) hP.2.2.2 hdg hlk
theorem q_aret (C : Cx G p s m c cc own nL) {cn : String} (hr : meth.sig.returnType = some (.object cn)) (hlk : meth.locks = false) (hP : Hp G u s H locs) {Qx : Nat → Mm → Prop} {v : Nat} (hq : Qx v u) (hc : cells ≤ mc) (hs : slots ≤ ms) (hdg : decode cc pc = .ok (.areturn, 1)) : W p l e R s m args below meth c H locs cells slots (MQ below (Er G Qx) args s mc ms (ag G)) (F0 m pc ls [.ref v]) := by
  refine W.widen hc hs ?_
  exact W.aret C.1 C.2.1 hr (Or.inl ⟨_, rfl⟩) (Or.inr ⟨_, rfl⟩) (fun t ht hW => ⟨⟨(v, u), v, rfl, hq, rfl, hP.wp ht⟩, hP.2.F ht⟩) hP.2.2.2 hdg hlk
theorem Wd.fb {av : List Value} {u : Mm} : FrameBlind (va_Pc av (Wd G u)) := fun a U g mk h => ⟨h.1, h.2.blind g mk a⟩
theorem Hp.to {U : State} (hP : Hp G u s H locs) (hF : fxG G s) (hU : U.heap = H) (hW : s.WarmedH U.vm) : Wd G u U := hP.end hF hU hW
theorem Cx.recv (C : Cx G p s m c cc own nL) (hP : Hp G u s H locs) {b ci : Nat} {r : vw_C} (hb : kd G b = ci) (hci : ci < 13) (hc : vwCl[ci]? = some r) : ∃ cell : Cell, H[b]? = some cell ∧ cell.vm.isStatics = false ∧ s.vm.findClass r.1 = some cell.cls := by
  have he := wl_at C.2.2.2.2.2.2.2.2.1 (u := u) (a := b) (by omega)
  rw [ce_o hb hci] at he
  exact va_recv C.2.2.2.2.2.1 hP.1 hc he
variable {y : MethodName} {bytes : ByteArray} {maxL n index : Nat} {ret : Option FieldType} {rm' : Room} {Qc : Array Value → State → Outcome → State → Prop} {As st0 : List Value} {b ci : Nat} {r : vw_C} {host : String}
theorem q_ws (C : Cx G p s m c cc own nL) (hw : okN (Cond.code y bytes maxL ret) = true) (w1 : (Cond.code y bytes maxL ret).before args s = true) : ∀ w ∈ [Cond.code y bytes maxL ret], ∀ (a' : Array Value) (U : State), s.WarmedH U.vm → w.before a' U = true := by
  intro w h a' U hW
  rw [List.mem_singleton.mp h]
  exact okN_to hw hW w1
theorem q_runV (C : Cx G p s m c cc own nL) (hP : Hp G u s H locs) (hM : Met l y [.code y bytes maxL ret] rm' (va_Pc (.ref b :: As) (Wd G u)) Qc mc ms (ag G))
    (w1 : (Cond.code y bytes maxL ret).before args s = true) (w2 : (Cond.initialized y.cls).before args s = true) (w3 : (Cond.methodLink own index y).before args s = true) (w4 : (Cond.instanceMethod y).before args s = true) (w5 : (Cond.selects r.1 y y).before args s = true)
    (hb : kd G b = ci) (hci : ci < 13) (hc : vwCl[ci]? = some r) (hd : y.cls ≠ "java/lang/invoke/MethodHandle" ∧ y.cls ≠ "java/lang/invoke/VarHandle" ∧ (parseMethodDescriptor y.desc).map (fun d => d.parameters.length) = some As.length)
    (hm : rm'.cells = mc ∧ rm'.slots = ms) (hR : rm'.frames + 1 ≤ R.frames ∧ 8 + (maxL + 11) + rm'.locals ≤ R.locals) (hf : cells + mc ≤ R.cells ∧ slots + ms ≤ R.slots) (hl : ls.size = nL) (hs : st0 = As.reverse ++ .ref b :: rest) (hW : (rest.map fun v => v.category).sum ≤ 8) (hdg : decode cc pc = .ok (.invokevirtual index, 3)) :
    va_Run p l e R s m args below meth c H locs cells slots mc ms (F0 m pc ls st0) rest (Qc (Value.ref b :: As).toArray) (ag G) := by
  refine va_runV (Ts := []) (C := r.1) (bytes := bytes) (maxL := maxL) (ret := ret) (n := As.length) (index := index) (own := own) (cc := cc) (nL := nL) ⟨C.1, C.2.1, C.2.2.2.1, C.2.2.1, fun w h => nomatch h⟩ hM ⟨⟨hm.1, hm.2, hR.1, hR.2, q_ws C rfl w1, List.mem_singleton.mpr rfl, w1, w2, ⟨hd.1, hd.2.1⟩, fun sig h => ?_, w3⟩, w4, w5⟩ ⟨Wd.fb, C.recv hP hb hci hc, fun U hU hW => ⟨rfl, hP.to C.2.2.2.2 hU hW⟩⟩ rfl rfl hl hs (lv_room hW) hdg hf
  have h2 := hd.2.2
  rw [h] at h2
  exact (Option.some.inj h2).symm
theorem q_runVN (C : Cx G p s m c cc own nL) (hP : Hp G u s H locs) (hM : Met l y [.code y bytes maxL ret] rm' (va_Pc (.ref b :: As) (Wd G u)) Qc mc ms (ag G))
    (w1 : (Cond.code y bytes maxL ret).before args s = true) (w2 : (Cond.initialized y.cls).before args s = true) (w3 : (Cond.methodLinkNest own index y host).before args s = true) (w4 : (Cond.instanceMethod y).before args s = true) (w5 : (Cond.selects r.1 y y).before args s = true)
    (hb : kd G b = ci) (hci : ci < 13) (hc : vwCl[ci]? = some r) (hd : y.cls ≠ "java/lang/invoke/MethodHandle" ∧ y.cls ≠ "java/lang/invoke/VarHandle" ∧ (parseMethodDescriptor y.desc).map (fun d => d.parameters.length) = some As.length)
    (hm : rm'.cells = mc ∧ rm'.slots = ms) (hR : rm'.frames + 1 ≤ R.frames ∧ 8 + (maxL + 11) + rm'.locals ≤ R.locals) (hf : cells + mc ≤ R.cells ∧ slots + ms ≤ R.slots) (hl : ls.size = nL) (hs : st0 = As.reverse ++ .ref b :: rest) (hW : (rest.map fun v => v.category).sum ≤ 8) (hdg : decode cc pc = .ok (.invokevirtual index, 3)) :
    va_Run p l e R s m args below meth c H locs cells slots mc ms (F0 m pc ls st0) rest (Qc (Value.ref b :: As).toArray) (ag G) := by
  refine va_runVN (Ts := []) (C := r.1) (bytes := bytes) (maxL := maxL) (ret := ret) (n := As.length) (index := index) (own := own) (cc := cc) (nL := nL) (host := host) ⟨C.1, C.2.1, C.2.2.2.1, C.2.2.1, fun w h => nomatch h⟩ hM ⟨⟨⟨hm.1, hm.2, hR.1, hR.2, q_ws C rfl w1, List.mem_singleton.mpr rfl⟩, w1, w2, ⟨hd.1, hd.2.1⟩, fun sig h => ?_, w3⟩, w4, w5⟩ ⟨Wd.fb, C.recv hP hb hci hc, fun U hU hW => ⟨rfl, hP.to C.2.2.2.2 hU hW⟩⟩ rfl rfl hl hs (lv_room hW) hdg hf
  have h2 := hd.2.2
  rw [h] at h2
  exact (Option.some.inj h2).symm
theorem q_runS (C : Cx G p s m c cc own nL) (hP : Hp G u s H locs) (hM : Met l y [.code y bytes maxL ret] rm' (va_Pc As (Wd G u)) Qc mc ms (ag G))
    (w1 : (Cond.code y bytes maxL ret).before args s = true) (w2 : (Cond.initialized y.cls).before args s = true) (w3 : (Cond.methodLink own index y).before args s = true) (w4 : (Cond.static y).before args s = true)
    (hd : y.cls ≠ "java/lang/invoke/MethodHandle" ∧ y.cls ≠ "java/lang/invoke/VarHandle" ∧ (parseMethodDescriptor y.desc).map (fun d => d.parameters.length) = some As.length)
    (hm : rm'.cells = mc ∧ rm'.slots = ms) (hR : rm'.frames + 1 ≤ R.frames ∧ 8 + (maxL + 11) + rm'.locals ≤ R.locals) (hf : cells + mc ≤ R.cells ∧ slots + ms ≤ R.slots) (hl : ls.size = nL) (hs : st0 = As.reverse ++ rest) (hW : (rest.map fun v => v.category).sum ≤ 8) (hdg : decode cc pc = .ok (.invokestatic index, 3)) :
    va_Run p l e R s m args below meth c H locs cells slots mc ms (F0 m pc ls st0) rest (Qc As.toArray) (ag G) := by
  refine va_runS (Ts := []) (bytes := bytes) (maxL := maxL) (ret := ret) (n := As.length) (index := index) (own := own) (cc := cc) (nL := nL) ⟨C.1, C.2.1, C.2.2.2.1, C.2.2.1, fun w h => nomatch h⟩ hM ⟨⟨hm.1, hm.2, hR.1, hR.2, q_ws C rfl w1, List.mem_singleton.mpr rfl, w1, w2, ⟨hd.1, hd.2.1⟩, fun sig h => ?_, w3⟩, w4⟩ ⟨Wd.fb, fun U hU hW => ⟨rfl, hP.to C.2.2.2.2 hU hW⟩⟩ rfl rfl hl hs (lv_room hW) hdg hf
  have h2 := hd.2.2
  rw [h] at h2
  exact (Option.some.inj h2).symm
theorem q_runSN (C : Cx G p s m c cc own nL) (hP : Hp G u s H locs) (hM : Met l y [.code y bytes maxL ret] rm' (va_Pc As (Wd G u)) Qc mc ms (ag G))
    (w1 : (Cond.code y bytes maxL ret).before args s = true) (w2 : (Cond.initialized y.cls).before args s = true) (w3 : (Cond.methodLinkNest own index y host).before args s = true) (w4 : (Cond.static y).before args s = true)
    (hd : y.cls ≠ "java/lang/invoke/MethodHandle" ∧ y.cls ≠ "java/lang/invoke/VarHandle" ∧ (parseMethodDescriptor y.desc).map (fun d => d.parameters.length) = some As.length)
    (hm : rm'.cells = mc ∧ rm'.slots = ms) (hR : rm'.frames + 1 ≤ R.frames ∧ 8 + (maxL + 11) + rm'.locals ≤ R.locals) (hf : cells + mc ≤ R.cells ∧ slots + ms ≤ R.slots) (hl : ls.size = nL) (hs : st0 = As.reverse ++ rest) (hW : (rest.map fun v => v.category).sum ≤ 8) (hdg : decode cc pc = .ok (.invokestatic index, 3)) :
    va_Run p l e R s m args below meth c H locs cells slots mc ms (F0 m pc ls st0) rest (Qc As.toArray) (ag G) := by
  refine va_runSN (Ts := []) (bytes := bytes) (maxL := maxL) (ret := ret) (n := As.length) (index := index) (own := own) (cc := cc) (nL := nL) (host := host) ⟨C.1, C.2.1, C.2.2.2.1, C.2.2.1, fun w h => nomatch h⟩ hM ⟨⟨⟨hm.1, hm.2, hR.1, hR.2, q_ws C rfl w1, List.mem_singleton.mpr rfl⟩, w1, w2, ⟨hd.1, hd.2.1⟩, fun sig h => ?_, w3⟩, w4, trivial⟩ ⟨Wd.fb, fun U hU hW => ⟨rfl, hP.to C.2.2.2.2 hU hW⟩⟩ rfl rfl hl hs (lv_room hW) hdg hf
  have h2 := hd.2.2
  rw [h] at h2
  exact (Option.some.inj h2).symm
theorem q_cali {a : Array Value} {Qx : Int32 → Mm → Prop} (hr : va_Run p l e R s m args below meth c H locs cells slots 0 0 (F0 m pc ls st0) rest (Ei G Qx a) (ag G)) (hP : Hp G u s H locs)
    (kk : ∀ (v : Int32) (u' : Mm) (H1 : Heap) (locs1 : List Loc), Qx v u' → Hp G u' s H1 locs1 → W p l e R s m args below meth c H1 locs1 cells slots Q (F0 m (pc + 3) ls (.int v :: rest))) : W p l e R s m args below meth c H locs cells slots Q (F0 m pc ls st0) :=
  va_calli hr hP.2 (fun _ _ h => h) (fun _ h => h) (fun v u' t H1 locs1 ht hvm hw hB hz hk hS => kk v u' H1 locs1 hw ⟨by rw [← ht]; exact hB, hS⟩)
theorem q_calv {a : Array Value} {Qx : Mm → Prop} (hr : va_Run p l e R s m args below meth c H locs cells slots 0 0 (F0 m pc ls st0) rest (Ev G Qx a) (ag G)) (hP : Hp G u s H locs)
    (kk : ∀ (u' : Mm) (H1 : Heap) (locs1 : List Loc), Qx u' → Hp G u' s H1 locs1 → W p l e R s m args below meth c H1 locs1 cells slots Q (F0 m (pc + 3) ls rest)) : W p l e R s m args below meth c H locs cells slots Q (F0 m pc ls st0) :=
  va_callv hr hP.2 (fun _ _ h => h) (fun _ h => h) (fun u' t H1 locs1 ht hvm hw hB hz hk hS => kk u' H1 locs1 hw ⟨by rw [← ht]; exact hB, hS⟩)
theorem q_calr {a : Array Value} {Qx : Nat → Mm → Prop} (hr : va_Run p l e R s m args below meth c H locs cells slots 0 0 (F0 m pc ls st0) rest (Er G Qx a) (ag G)) (hP : Hp G u s H locs)
    (kk : ∀ (v : Nat) (u' : Mm) (H1 : Heap) (locs1 : List Loc), Qx v u' → Hp G u' s H1 locs1 → W p l e R s m args below meth c H1 locs1 cells slots Q (F0 m (pc + 3) ls (.ref v :: rest))) : W p l e R s m args below meth c H locs cells slots Q (F0 m pc ls st0) :=
  va_callr hr hP.2 (fun _ _ h => h) (fun _ h => h) (fun w v t H1 locs1 ht hvm hw hB hz hk hS => kk v w.2 H1 locs1 (by rw [hB.1]; exact hw) ⟨by rw [← ht]; exact hB.2, hS⟩)
/-- a method's contract out of its body -/
theorem q_met {ty : Option FieldType} {rm : Room} {av : List Value} (hy : plainName y.cls = true) (hn : (lg_sl av).length ≤ maxL)
    (body : ∀ (p : Program) (e : Env) (s : State) (m : MethodId) (below : List Frame) (meth : Method) (c : Code) (ls : Array Slot), Cx G p s m c bytes y.cls maxL → meth.sig.returnType = ty → meth.locks = false → meth.name = y.name → lv_has ls maxL (lv_args 0 av) → Hp G u s s.heap [] →
      W p l e rm s m av.toArray below meth c s.heap [] 0 0 (MQ below Qc av.toArray s mc ms (ag G)) (F0 m 0 ls [])) : Met l y [.code y bytes maxL ty] rm (va_Pc av (Wd G u)) Qc mc ms (ag G) := by
  refine Met.ofW (cc := bytes) (maxL := maxL) (ret := ty) hy rfl ?_
  intro p e s m args below meth c s₁ B hml hv
  obtain ⟨rfl, hP, hF⟩ := hv
  rw [lg_entry_eq]
  exact body p e s m below meth c _ ⟨B.exec, B.bytes, findClass_of_methodNamed B.named, hml, hF⟩ B.returns B.notSynchronized (name_of_methodNamed B.named B.method).1 (lv_entry av hn) ⟨hP, va_S.rf⟩
end QC
