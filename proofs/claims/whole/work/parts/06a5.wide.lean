/-! a call with more on the stack below it than the kit's rows allow -/
section QW
variable {G : Gx} {u : Mm} {p : Program} {l : Launch} {e : Env} {R : Room} {s : State} {m : MethodId} {args : Array Value} {below : List Frame} {meth : Method} {c : Code} {H : Heap} {locs : List Loc} {cells slots : Nat} {Q : State → Prop}
variable {cc : ByteArray} {own : String} {nL pc mc ms : Nat} {ls : Array Slot} {rest : List Value}
variable {y : MethodName} {bytes : ByteArray} {maxL n index : Nat} {ret : Option FieldType} {rm' : Room} {Qc : Array Value → State → Outcome → State → Prop} {As st0 : List Value} {b ci : Nat} {r : vw_C} {host : String}
theorem q_runVw (C : Cx G p s m c cc own nL) (hP : Hp G u s H locs) (hM : Met l y [.code y bytes maxL ret] rm' (va_Pc (.ref b :: As) (Wd G u)) Qc mc ms (ag G))
    (w1 : (Cond.code y bytes maxL ret).before args s = true) (w2 : (Cond.initialized y.cls).before args s = true) (w3 : (Cond.methodLink own index y).before args s = true) (w4 : (Cond.instanceMethod y).before args s = true) (w5 : (Cond.selects r.1 y y).before args s = true)
    (hb : kd G b = ci) (hci : ci < 13) (hc : vwCl[ci]? = some r) (hd : y.cls ≠ "java/lang/invoke/MethodHandle" ∧ y.cls ≠ "java/lang/invoke/VarHandle" ∧ (parseMethodDescriptor y.desc).map (fun d => d.parameters.length) = some As.length)
    (hm : rm'.cells = mc ∧ rm'.slots = ms) (hR : rm'.frames + 1 ≤ R.frames ∧ 16 + (maxL + 11) + rm'.locals ≤ R.locals) (hf : cells + mc ≤ R.cells ∧ slots + ms ≤ R.slots) (hl : ls.size = nL) (hs : st0 = As.reverse ++ .ref b :: rest) (hW : (rest.map fun v => v.category).sum ≤ 16) (hdg : decode cc pc = .ok (.invokevirtual index, 3)) :
    va_Run p l e R s m args below meth c H locs cells slots mc ms (F0 m pc ls st0) rest (Qc (Value.ref b :: As).toArray) (ag G) := by
  have hK : Back l R p e below s args y 3 16 (PreOf R mc ms (va_Pc (.ref b :: As) (Wd G u))) (PostOf Qc mc ms (ag G)) := back_of (bytes := bytes) (maxL := maxL) (ret := ret) hM Wd.fb hm.1 hm.2 hR.1 hR.2 (q_ws C rfl w1) (List.mem_singleton.mpr rfl) (fun a' U hW => word_at hW (Or.inl (by first | rfl | simp [Cond.onTables, Cond.keeps, Cond.steady])) w2)
  obtain ⟨cellB, hcB, hoB, hclB⟩ := C.recv hP hb hci hc
  have hF := C.2.2.2.2
  obtain ⟨hx, hb1, ho, hml, -⟩ := C
  intro T hT X
  obtain ⟨v, vm₁, ⟨U', l2, c2, s2⟩, hW₁, X', ⟨g', mk, t, L, e1, e2, hq, h1, hL, h2, h3⟩, st⟩ := callV X hx (C := r.1) (bytes := bytes) (maxL := maxL) (ret := ret) ho w3 w4 w5 w1 ⟨hd.1, hd.2.1⟩ hK (by rw [hT]; exact hcB) hoB hclB (g := F0 m pc ls st0) rfl (hl.trans hml.symm) (argsL := As) (rest := rest) (fun sig h => by have h2 := hd.2.2; rw [h] at h2; exact (Option.some.inj h2).symm) hs (show 2 * 0 + _ ≤ 16 by omega) (by rw [hb1]; exact hdg)
    (fun vm₁ hW₁ => ⟨hf.1, hf.2, rfl, hP.to hF (U := T.setVm vm₁) hT hW₁⟩)
  dsimp only [Pt.U, Pt.locs, Pt.cells, Pt.slots] at X' e1 e2 h1 h2 h3 st
  subst h1; subst h2; subst h3
  exact ⟨v, (T.setVm vm₁).calling g' mk (Value.ref b :: As).toArray, t, U', L, hT, X', hL, e1, e2, hq, st⟩
end QW
