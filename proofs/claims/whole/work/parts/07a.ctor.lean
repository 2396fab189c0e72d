/-! WHILE THE WORLD IS MADE: only the first n cells of the layout are there -/
def cut (G : Gx) (n : Nat) : Gx := (gz G, n, gA G, gD G, fun a => if a < gz G + n then G.2.2.2.2.1 a else (99, 0), gS G, gV G)
def bsG (G : Gx) : Prop := ∀ a, kd G a < 24 → gz G ≤ a
def blk (u : Mm) (a : Nat) : Prop := ∀ j, gI u a j = 0 ∧ gR u a j = 0 ∧ gL u a j = 0
theorem kd_cut {G : Gx} {n a : Nat} (h : a < gz G + n) : kd (cut G n) a = kd G a := by simp [kd, cut, h]
theorem ln_cut {G : Gx} {n a : Nat} (h : a < gz G + n) : ln (cut G n) a = ln G a := by simp [ln, cut, h]
theorem kd_cut_ge {G : Gx} {n a : Nat} (h : ¬ a < gz G + n) : kd (cut G n) a = 99 := by simp [kd, cut, h]
theorem kd_of {G : Gx} {n a k : Nat} (h : a < gz G + n) (hk : kd G a = k) : kd (cut G n) a = k := (kd_cut h).trans hk
theorem lyC {G : Gx} (hB : bsG G) (n : Nat) : lyG (cut G n) := by
  intro a h
  by_cases q : a < gz G + n
  · exact ⟨hB a (by rwa [kd_cut q] at h), q⟩
  · rw [kd_cut_ge q] at h; omega
theorem ce_cut {G : Gx} {n a : Nat} {u : Mm} (h : a < gz G + n) : ce (cut G n) u a = ce G u a := by
  unfold ce
  rw [kd_cut h, ln_cut h]
  rfl
theorem wl_cut {G : Gx} {n : Nat} {u : Mm} : wl (cut G n) u = (List.range n).map fun k => (gz G + k, ce G u (gz G + k)) := by
  unfold wl
  show (List.range n).map _ = _
  apply List.map_congr_left
  intro k hk
  have hk := List.mem_range.mp hk
  show (gz G + k, ce (cut G n) u (gz G + k)) = _
  rw [ce_cut (by omega)]
theorem wl_succ {G : Gx} {n : Nat} {u : Mm} : wl (cut G (n + 1)) u = wl (cut G n) u ++ [(gz G + n, ce G u (gz G + n))] := by
  rw [wl_cut, wl_cut, List.range_succ, List.map_append]
  rfl
section QK
variable {G : Gx} {u : Mm} {p : Program} {l : Launch} {e : Env} {R : Room} {s : State} {m : MethodId} {args : Array Value} {below : List Frame} {meth : Method} {c : Code} {H : Heap} {locs : List Loc} {cells slots : Nat} {Q : State → Prop}
variable {cc : ByteArray} {own : String} {nL pc mc ms n n0 cn : Nat} {ls : Array Slot} {rest : List Value}
theorem Cx.cut (C : Cx (cut G n) p s m c cc own nL) (hB : bsG G) (k : Nat) : Cx (cut G k) p s m c cc own nL := by
  obtain ⟨a1, a2, a3, a4, b1, b2, b3, b4, b5, b6, b7⟩ := C
  exact ⟨a1, a2, a3, a4, b1, b2, b3, b4, lyC hB k, b6, b7⟩
/-- the heap is as large as the cells that were made -/
theorem q_size (hB : bsG G) (hP : Hp (cut G (n0 + cn)) u s H locs) (hn0 : s.heap.size = gz G + n0) (kk : H.size = gz G + (n0 + cn) → W p l e R s m args below meth c H locs cn slots Q (F0 m pc ls rest)) : W p l e R s m args below meth c H locs cn slots Q (F0 m pc ls rest) := by
  intro T hT X
  have h1 : H.size ≤ s.heap.size + cn := by rw [← hT]; exact X.same.2.2.1
  have h2 : gz G + (n0 + cn) ≤ H.size := by
    rcases Nat.eq_zero_or_pos (n0 + cn) with q | q
    · have := hP.2.1
      omega
    · have he : (wl (cut G (n0 + cn)) u)[n0 + cn - 1]? = some (gz G + (n0 + cn - 1), ce G u (gz G + (n0 + cn - 1))) := by
        rw [wl_cut, List.getElem?_map, List.getElem?_range (by omega)]
        rfl
      have := (hP.1 _ _ he).lt
      simp only at this
      omega
  exact kk (by omega) T hT X
theorem q_grow {n : Nat} (hP : Hp (cut G n) u s H locs) (hz : H.size = gz G + n) {H1 : Heap} (z1 : H1.size = H.size + 1) (o1 : ∀ q : Nat, q < H.size → H1[q]? = H[q]?) (hc : va_at (gD G) vwCl (gz G + n, ce G u (gz G + n)) H1) : Hp (cut G (n + 1)) u s H1 locs := by
  refine ⟨?_, Nat.le_trans hP.2.1 (by omega), fun q h1 h2 => (o1 q (Nat.lt_of_lt_of_le h1 hP.2.1)).trans (hP.2.2.1 q h1 h2), hP.2.2.2⟩
  rw [wl_succ]
  have hk : ∀ (k : Nat) (x : Nat × va_E), (wl (cut G n) u)[k]? = some x → H1[x.1]? = H[x.1]? := fun k x hx => o1 x.1 ((hP.1 k x hx).lt)
  refine (va_P.kept hP.1 hk).app (fun k x hx => ?_)
  have hz : k < 1 := (List.getElem?_eq_some_iff.mp hx).1
  rw [show k = 0 by omega] at hx
  cases hx
  exact hc
theorem blk_flds {ci a : Nat} (hb : blk u a) {j : Nat} (hj : j < nf ci) : vp_V (flds ci u a) j = if rf ci j then .null else .int 0 := by
  unfold vp_V
  rw [List.getD_eq_getElem?_getD, flds_get hj]
  have h := hb j
  simp only [gI, gR] at h
  rw [h.1, h.2.1]
  by_cases q : rf ci j <;> simp [q, fr, va_rf]
theorem q_new (hB : bsG G) (C : Cx (cut G n) p s m c cc own nL) (hP : Hp (cut G n) u s H locs) (hz : H.size = gz G + n) {ci index N : Nat} {Cn : String} {T : u_T} {ty : Nat → FieldType} (hty : ∀ k, k < N → parseFieldDescriptor (T k).2.2.1 = some (ty k)) (hL : ∀ w ∈ u_ws Cn T N, w.before args s = true) (hc : vwCl[ci]? = some (Cn, T, N)) (hf : nf ci = N ∧ ci < 13) (hdf : ∀ j, j < N → defaultValue (ty j) = if rf ci j then .null else .int 0) (hcl : (Cond.classLink own index Cn).before args s = true) (hinst : (Cond.instantiable Cn N).before args s = true) (hini : (Cond.initialized Cn).before args s = true) (hk : kd G (gz G + n) = ci) (hbl : blk u (gz G + n)) (hcells : cells + 1 ≤ R.cells) (hslots : slots + N ≤ R.slots) (hdg : decode cc pc = .ok (.new index, 3))
    (kk : ∀ H1 : Heap, Hp (cut G (n + 1)) u s H1 locs → W p l e R s m args below meth c H1 locs (cells + 1) (slots + N) Q (F0 m (pc + 3) ls (.ref (gz G + n) :: rest))) : W p l e R s m args below meth c H locs cells slots Q (F0 m pc ls rest) := by
  obtain ⟨hx, hb, hown, -, -, hK, -⟩ := C
  have hKn := hK.1 ci _ hc
  refine W.newcK hx hb hown hcl hinst hini rfl hdg hcells hslots hKn.2.1 hz fun H1 kC hkC e1 z1 o1 => ?_
  refine kk H1 (q_grow hP hz (by omega) (fun q hq => o1 q (by omega)) ?_)
  rw [ce_o hk hf.2]
  exact ⟨_, hc, (u_born ty hL (fun _ h => h) hKn hkC e1 hty).to (fun j hj => by rw [hdf j hj, blk_flds hbl (by omega)])⟩
theorem q_newi (C : Cx (cut G n) p s m c cc own nL) (hP : Hp (cut G n) u s H locs) (hz : H.size = gz G + n) {x : Int32} {N : Nat} (hx0 : ¬ x < 0) (hN : x.toNatClampNeg = N) (hk : kd G (gz G + n) = 13) (hl : ln G (gz G + n) = N) (hbl : blk u (gz G + n)) (hby : N * componentBytes (newarray.typeOf .int) ≤ 536870912) (hcells : cells + 1 ≤ R.cells) (hslots : slots + N ≤ R.slots) (hdg : decode cc pc = .ok (.newarray .int, 2))
    (kk : ∀ H1 : Heap, Hp (cut G (n + 1)) u s H1 locs → W p l e R s m args below meth c H1 locs (cells + 1) (slots + N) Q (F0 m (pc + 2) ls (.ref (gz G + n) :: rest))) : W p l e R s m args below meth c H locs cells slots Q (F0 m pc ls (.int x :: rest)) := by
  have hA := C.hA
  obtain ⟨hx, hb, hown, -, -, hK, -⟩ := C
  refine va_newaK (atype := .int) hx hb (ac_int hA) rfl hdg rfl hx0 hN hby hcells hslots hz fun H1 cA e1 z1 o1 hAr hNm => ?_
  have hcA : cA = gA G 13 := by
    have h := (hK.2 0 (gA G 13, .int) rfl).2
    exact Option.some.inj (hNm.symm.trans h)
  refine kk H1 (q_grow hP hz (by omega) (fun q hq => o1 q (by omega)) ?_)
  rw [ce_i hk, hl]
  show H1[gz G + n]? = some (arrV (gA G 13) N (fun j => .int (u.1 (gz G + n) j)))
  rw [e1, hcA, show (fun j => Value.int (u.1 (gz G + n) j)) = fun _ => defaultValue .int from funext fun j => by rw [show u.1 (gz G + n) j = 0 from (hbl j).1]; rfl]
  rfl
theorem q_newb (C : Cx (cut G n) p s m c cc own nL) (hP : Hp (cut G n) u s H locs) (hz : H.size = gz G + n) {x : Int32} {N : Nat} (hx0 : ¬ x < 0) (hN : x.toNatClampNeg = N) (hk : kd G (gz G + n) = 14) (hl : ln G (gz G + n) = N) (hbl : blk u (gz G + n)) (hby : N * componentBytes (newarray.typeOf .byte) ≤ 536870912) (hcells : cells + 1 ≤ R.cells) (hslots : slots + N ≤ R.slots) (hdg : decode cc pc = .ok (.newarray .byte, 2))
    (kk : ∀ H1 : Heap, Hp (cut G (n + 1)) u s H1 locs → W p l e R s m args below meth c H1 locs (cells + 1) (slots + N) Q (F0 m (pc + 2) ls (.ref (gz G + n) :: rest))) : W p l e R s m args below meth c H locs cells slots Q (F0 m pc ls (.int x :: rest)) := by
  have hA := C.hA
  obtain ⟨hx, hb, hown, -, -, hK, -⟩ := C
  refine va_newaK (atype := .byte) hx hb (ac_byte hA) rfl hdg rfl hx0 hN hby hcells hslots hz fun H1 cA e1 z1 o1 hAr hNm => ?_
  have hcA : cA = gA G 14 := by
    have h := (hK.2 1 (gA G 14, .byte) rfl).2
    exact Option.some.inj (hNm.symm.trans h)
  refine kk H1 (q_grow hP hz (by omega) (fun q hq => o1 q (by omega)) ?_)
  rw [ce_b hk, hl]
  show H1[gz G + n]? = some (arrV (gA G 14) N (fun j => .int (u.1 (gz G + n) j)))
  rw [e1, hcA, show (fun j => Value.int (u.1 (gz G + n) j)) = fun _ => defaultValue .byte from funext fun j => by rw [show u.1 (gz G + n) j = 0 from (hbl j).1]; rfl]
  rfl
theorem q_newl (C : Cx (cut G n) p s m c cc own nL) (hP : Hp (cut G n) u s H locs) (hz : H.size = gz G + n) {x : Int32} {N : Nat} (hx0 : ¬ x < 0) (hN : x.toNatClampNeg = N) (hk : kd G (gz G + n) = 15) (hl : ln G (gz G + n) = N) (hbl : blk u (gz G + n)) (hby : N * componentBytes (newarray.typeOf .long) ≤ 536870912) (hcells : cells + 1 ≤ R.cells) (hslots : slots + N ≤ R.slots) (hdg : decode cc pc = .ok (.newarray .long, 2))
    (kk : ∀ H1 : Heap, Hp (cut G (n + 1)) u s H1 locs → W p l e R s m args below meth c H1 locs (cells + 1) (slots + N) Q (F0 m (pc + 2) ls (.ref (gz G + n) :: rest))) : W p l e R s m args below meth c H locs cells slots Q (F0 m pc ls (.int x :: rest)) := by
  have hA := C.hA
  obtain ⟨hx, hb, hown, -, -, hK, -⟩ := C
  refine va_newaK (atype := .long) hx hb (ac_long hA) rfl hdg rfl hx0 hN hby hcells hslots hz fun H1 cA e1 z1 o1 hAr hNm => ?_
  have hcA : cA = gA G 15 := by
    have h := (hK.2 2 (gA G 15, .long) rfl).2
    exact Option.some.inj (hNm.symm.trans h)
  refine kk H1 (q_grow hP hz (by omega) (fun q hq => o1 q (by omega)) ?_)
  rw [ce_l hk, hl]
  show H1[gz G + n]? = some (arrV (gA G 15) N (fun j => .long (u.2.2 (gz G + n) j)))
  rw [e1, hcA, show (fun j => Value.long (u.2.2 (gz G + n) j)) = fun _ => defaultValue .long from funext fun j => by rw [show u.2.2 (gz G + n) j = 0 from (hbl j).2.2]; rfl]
  rfl
theorem q_newr (C : Cx (cut G n) p s m c cc own nL) (hP : Hp (cut G n) u s H locs) (hz : H.size = gz G + n) {x : Int32} {N k index : Nat} {Cn : String} (hcl : (Cond.classLink own index Cn).before args s = true) (hov : (Cond.arrayOver (.object Cn)).before args s = true) (ht : (tysG G)[k - 13]? = some (gA G k, .object Cn)) (hk2 : 15 < k) (hx0 : ¬ x < 0) (hN : x.toNatClampNeg = N) (hk : kd G (gz G + n) = k) (hl : ln G (gz G + n) = N) (hbl : blk u (gz G + n)) (hby : N * 4 ≤ 536870912) (hcells : cells + 1 ≤ R.cells) (hslots : slots + N ≤ R.slots) (hdg : decode cc pc = .ok (.anewarray index, 3))
    (kk : ∀ H1 : Heap, Hp (cut G (n + 1)) u s H1 locs → W p l e R s m args below meth c H1 locs (cells + 1) (slots + N) Q (F0 m (pc + 3) ls (.ref (gz G + n) :: rest))) : W p l e R s m args below meth c H locs cells slots Q (F0 m pc ls (.int x :: rest)) := by
  obtain ⟨hx, hb, hown, -, -, hK, -⟩ := C
  subst hN
  refine W.anew hx hb hown hcl hov rfl hdg rfl hx0 hby hcells hslots fun cA kA comp f1 f2 f3 f4 => ?_
  have hcA : cA = gA G k := by
    obtain ⟨_, _, _, _, _, h⟩ := (hK.2 (k - 13) (gA G k, .object Cn) ht).2
    exact Option.some.inj (f1.symm.trans h)
  generalize hH1 : H.push ({ cls := cA, slots := Array.replicate x.toNatClampNeg .null, vm := .none } : Cell) = H1
  have z1 : H1.size = H.size + 1 := by rw [← hH1, Array.size_push]
  have e1 : H1[H.size]? = some (arrV cA x.toNatClampNeg (fun _ => .null)) := by rw [← hH1, Array.getElem?_push_size, ← arrV_new]
  have o1 : ∀ q : Nat, q < H.size → H1[q]? = H[q]? := fun q hq => by rw [← hH1, Array.getElem?_push, if_neg (Nat.ne_of_lt hq)]
  rw [hz] at e1 ⊢
  refine kk H1 (q_grow hP hz z1 o1 ?_)
  by_cases h23 : k = 23
  · subst h23
    rw [ce_s hk, hl]
    show H1[gz G + n]? = some (arrV (gA G 23) x.toNatClampNeg (fun j => va_rf (fs G (u.2.1 (gz G + n) j))))
    rw [e1, hcA, show (fun j => va_rf (fs G (u.2.1 (gz G + n) j))) = fun _ => Value.null from funext fun j => by rw [show u.2.1 (gz G + n) j = 0 from (hbl j).2.1]; rfl]
  · rw [ce_r hk hk2 h23, hl]
    show H1[gz G + n]? = some (arrV (gA G k) x.toNatClampNeg (fun j => va_rf (fr (u.2.1 (gz G + n) j))))
    rw [e1, hcA, show (fun j => va_rf (fr (u.2.1 (gz G + n) j))) = fun _ => Value.null from funext fun j => by rw [show u.2.1 (gz G + n) j = 0 from (hbl j).2.1]; rfl]
theorem q_putFR (C : Cx (cut G n) p s m c cc own nL) (hP : Hp (cut G n) u s H locs) (hnm0 : meth.name = "<init>") {a ci k index N v : Nat} {Cn : String} {T : u_T} {ty0 : Nat → FieldType} {ty : FieldType} (hty : ∀ k, k < N → parseFieldDescriptor (T k).2.2.1 = some (ty0 k)) (hnm : ∀ a, a < N → ∀ b, b < N → a ≠ b → (T a).2.1 ≠ (T b).2.1) (hL : ∀ w ∈ u_ws Cn T N, w.before args s = true) (hc : vwCl[ci]? = some (Cn, T, N)) (hf : nf ci = N ∧ k < N ∧ rf ci k = true ∧ ci < 13) (hfin : (T k).2.2.2 = true) (hdecl : (T k).1 = own) (hd : parseFieldDescriptor (T k).2.2.1 = some ty) (hn : narrow ty (.ref v) = .ref v) (hfit : fits ty (.ref v) = true) (hk : kd (cut G n) a = ci) (hv : v ≠ 0) (hlink : (Cond.fieldLink own index (T k).1 (T k).2.1 (T k).2.2.1).before args s = true) (hdg : decode cc pc = .ok (.putfield index, 3))
    (kk : ∀ (H1 : Heap) (locs1 : List Loc), Hp (cut G n) (sR u a k v) s H1 locs1 → W p l e R s m args below meth c H1 locs1 cells slots Q (F0 m (pc + 3) ls rest)) : W p l e R s m args below meth c H locs cells slots Q (F0 m pc ls (.ref v :: .ref a :: rest)) := by
  obtain ⟨hx, hb, hown, -, -, hK, -, -, hly, -⟩ := C
  obtain ⟨f1, f2, f3, f4⟩ := hf
  have he := wl_at hly (u := u) (a := a) (by omega)
  rw [ce_o hk f4] at he
  refine va_putF hx hb hL (fun _ h => h) ty0 hty hnm hown hK hP.1 (wl_D _ u) hP.2 (a - gz (cut G n)) he hc k f2 hlink (fun _ h => h) hfin hnm0 hdecl hd hn hfit (by rw [flds_len]; omega) hdg (fun H1 locs1 h1 h2 h3 => ?_)
  rw [q_setR hly hk f4 (by omega) f3 hv] at h1
  exact kk H1 locs1 ⟨h1, h3⟩
/-- a constructor's contract -/
def WdC (G : Gx) (n : Nat) (u : Mm) (U : State) : Prop := Wd (cut G n) u U ∧ U.heap.size = gz G + n
abbrev EvC (G : Gx) (n : Nat) (Qx : Mm → Prop) : Array Value → State → Outcome → State → Prop := va_Qv Qx (Wp (cut G n)) (ag G)
theorem WdC.fb {av : List Value} {u : Mm} {n : Nat} : FrameBlind (va_Pc av (WdC G n u)) := fun a U g mk h => ⟨h.1, h.2.1.blind g mk a, h.2.2⟩
variable {y : MethodName} {bytes : ByteArray} {maxL index : Nat} {ret : Option FieldType} {rm' : Room} {Qc : Array Value → State → Outcome → State → Prop} {As st0 : List Value} {b ci : Nat} {r : vw_C} {host : String}
theorem q_runIN (C : Cx (cut G n) p s m c cc own nL) (hP : Hp (cut G n) u s H locs) (hz : H.size = gz G + n) (hM : Met l y [.code y bytes maxL none] rm' (va_Pc (.ref b :: As) (WdC G n u)) Qc mc ms (ag G))
    (w1 : (Cond.code y bytes maxL none).before args s = true) (w2 : (Cond.initialized y.cls).before args s = true) (w3 : (Cond.methodLinkNest own index y host).before args s = true) (w4 : (Cond.instanceMethod y).before args s = true) (hy : y.name = "<init>")
    (hd : y.cls ≠ "java/lang/invoke/MethodHandle" ∧ y.cls ≠ "java/lang/invoke/VarHandle" ∧ (parseMethodDescriptor y.desc).map (fun d => d.parameters.length) = some As.length)
    (hm : rm'.cells = mc ∧ rm'.slots = ms) (hR : rm'.frames + 1 ≤ R.frames ∧ 8 + (maxL + 11) + rm'.locals ≤ R.locals) (hf : cells + mc ≤ R.cells ∧ slots + ms ≤ R.slots) (hl : ls.size = nL) (hs : st0 = As.reverse ++ .ref b :: rest) (hW : (rest.map fun v => v.category).sum ≤ 8) (hdg : decode cc pc = .ok (.invokespecial index, 3)) :
    va_Run p l e R s m args below meth c H locs cells slots mc ms (F0 m pc ls st0) rest (Qc (Value.ref b :: As).toArray) (ag G) := by
  refine va_runIN (Ts := []) (bytes := bytes) (maxL := maxL) (n := As.length) (index := index) (own := own) (cc := cc) (nL := nL) (host := host) ⟨C.1, C.2.1, C.2.2.2.1, C.2.2.1, fun w h => nomatch h⟩ hM ⟨⟨⟨hm.1, hm.2, hR.1, hR.2, q_ws C rfl w1, List.mem_singleton.mpr rfl⟩, w1, w2, ⟨hd.1, hd.2.1⟩, fun sig h => ?_, w3⟩, hy, w4⟩ ⟨WdC.fb, fun U hU hW => ⟨rfl, hP.to C.2.2.2.2 hU hW, by rw [hU]; exact hz⟩⟩ rfl rfl hl hs (lv_room hW) hdg hf
  have h2 := hd.2.2
  rw [h] at h2
  exact (Option.some.inj h2).symm
theorem q_runI (C : Cx (cut G n) p s m c cc own nL) (hP : Hp (cut G n) u s H locs) (hz : H.size = gz G + n) (hM : Met l y [.code y bytes maxL none] rm' (va_Pc (.ref b :: As) (WdC G n u)) Qc mc ms (ag G))
    (w1 : (Cond.code y bytes maxL none).before args s = true) (w2 : (Cond.initialized y.cls).before args s = true) (w3 : (Cond.methodLink own index y).before args s = true) (w4 : (Cond.instanceMethod y).before args s = true) (hy : y.name = "<init>")
    (hd : y.cls ≠ "java/lang/invoke/MethodHandle" ∧ y.cls ≠ "java/lang/invoke/VarHandle" ∧ (parseMethodDescriptor y.desc).map (fun d => d.parameters.length) = some As.length)
    (hm : rm'.cells = mc ∧ rm'.slots = ms) (hR : rm'.frames + 1 ≤ R.frames ∧ 8 + (maxL + 11) + rm'.locals ≤ R.locals) (hf : cells + mc ≤ R.cells ∧ slots + ms ≤ R.slots) (hl : ls.size = nL) (hs : st0 = As.reverse ++ .ref b :: rest) (hW : (rest.map fun v => v.category).sum ≤ 8) (hdg : decode cc pc = .ok (.invokespecial index, 3)) :
    va_Run p l e R s m args below meth c H locs cells slots mc ms (F0 m pc ls st0) rest (Qc (Value.ref b :: As).toArray) (ag G) := by
  refine va_runI (Ts := []) (bytes := bytes) (maxL := maxL) (n := As.length) (index := index) (own := own) (cc := cc) (nL := nL) ⟨C.1, C.2.1, C.2.2.2.1, C.2.2.1, fun w h => nomatch h⟩ hM ⟨⟨hm.1, hm.2, hR.1, hR.2, q_ws C rfl w1, List.mem_singleton.mpr rfl, w1, w2, ⟨hd.1, hd.2.1⟩, fun sig h => ?_, w3⟩, hy, w4⟩ ⟨WdC.fb, fun U hU hW => ⟨rfl, hP.to C.2.2.2.2 hU hW, by rw [hU]; exact hz⟩⟩ rfl rfl hl hs (lv_room hW) hdg hf
  have h2 := hd.2.2
  rw [h] at h2
  exact (Option.some.inj h2).symm
theorem q_calC {a : Array Value} {Qx : Mm → Prop} (hr : va_Run p l e R s m args below meth c H locs cn slots mc ms (F0 m pc ls st0) rest (EvC G (n0 + cn + mc) Qx a) (ag G)) (hP : Hp (cut G (n0 + cn)) u s H locs)
    (kk : ∀ (u' : Mm) (H1 : Heap) (locs1 : List Loc), Qx u' → Hp (cut G (n0 + (cn + mc))) u' s H1 locs1 → W p l e R s m args below meth c H1 locs1 (cn + mc) (slots + ms) Q (F0 m (pc + 3) ls rest)) : W p l e R s m args below meth c H locs cn slots Q (F0 m pc ls st0) :=
  va_callv hr hP.2 (fun _ _ h => h) (fun _ h => h) (fun u' t H1 locs1 ht hvm hw hB hz hk hS => kk u' H1 locs1 hw ⟨by rw [← ht, ← Nat.add_assoc]; exact hB, hS⟩)
theorem q_vretC (C : Cx (cut G n) p s m c cc own nL) (hr : meth.sig.returnType = none) (hlk : meth.locks = false) (hP : Hp (cut G n) u s H locs) {Qx : Mm → Prop} (hq : Qx u) (hc : cells ≤ mc) (hs : slots ≤ ms) (hdg : decode cc pc = .ok (.return_, 1)) : W p l e R s m args below meth c H locs cells slots (MQ below (EvC G n Qx) args s mc ms (ag G)) (F0 m pc ls []) := by
  refine W.widen hc hs ?_
  exact W.vret C.1 C.2.1 hr (fun t ht hW => ⟨⟨u, rfl, hq, hP.wp ht⟩, hP.2.F ht⟩) hP.2.2.2 hdg hlk
theorem q_metC {rm : Room} {av : List Value} (hy : plainName y.cls = true) (hn : (lg_sl av).length ≤ maxL)
    (body : ∀ (p : Program) (e : Env) (s : State) (m : MethodId) (below : List Frame) (meth : Method) (c : Code) (ls : Array Slot), Cx (cut G n) p s m c bytes y.cls maxL → meth.sig.returnType = none → meth.locks = false → meth.name = y.name → s.heap.size = gz G + n → lv_has ls maxL (lv_args 0 av) → Hp (cut G n) u s s.heap [] →
      W p l e rm s m av.toArray below meth c s.heap [] 0 0 (MQ below Qc av.toArray s mc ms (ag G)) (F0 m 0 ls [])) : Met l y [.code y bytes maxL none] rm (va_Pc av (WdC G n u)) Qc mc ms (ag G) := by
  refine Met.ofW (cc := bytes) (maxL := maxL) (ret := none) hy rfl ?_
  intro p e s m args below meth c s₁ B hml hv
  obtain ⟨rfl, ⟨hP, hF⟩, hz⟩ := hv
  rw [lg_entry_eq]
  exact body p e s m below meth c _ ⟨B.exec, B.bytes, findClass_of_methodNamed B.named, hml, hF⟩ B.returns B.notSynchronized (name_of_methodNamed B.named B.method).1 hz (lv_entry av hn) ⟨hP, va_S.rf⟩
end QK
