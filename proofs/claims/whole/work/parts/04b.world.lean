/-! what holds of every state: the tables' words, the classes, the texts, what a throw needs -/
def kOwn (i : Nat) : String := (["ClapValley", "ClapValley", "ClapValley$Tape", "ClapValley$Tape", "ClapValley$Tape", "ClapValley$Tape", "ClapValley$Tape", "ClapValley$Tape", "ClapValley$Tape", "ClapValley$Tape", "ClapValley", "ClapValley", "ClapValley", "ClapValley", "ClapValley", "ClapValley", "ClapValley", "ClapValley", "ClapValley", "ClapValley", "ClapValley", "ClapValley", "ClapValley", "ClapValley", "ClapValley", "ClapValley", "ClapValley", "ClapValley", "ClapValleyModel", "ClapValleyModel", "ClapValleyModel", "ClapValleyModel", "ClapValleyModel", "ClapValleyModel", "ClapValleyModel", "ClapValleyModel"] : List String).getD i ""
def kIdx (i : Nat) : Nat := ([351, 90, 60, 179, 70, 72, 148, 77, 82, 87, 117, 135, 357, 359, 361, 152, 161, 353, 248, 221, 355, 226, 235, 274, 276, 286, 297, 299, 9, 11, 13, 15, 17, 19, 223, 229] : List Nat).getD i 0
def kTxt (i : Nat) : String := (["no such land", "the tape has not so many bytes", "upright", "loss", "level", "barn", "years", "wood", "hears", "air", "no such count", "nothing such is told of a land", "no such place", "no such year", "no such tone", "no such echo is heard", "no echo has such a number", "no such station", "no such tick is written", "the station fits at fewer places", "the station is unnamed", "nothing such is told of airs", "nothing such is told of a tick", "no such air", "no named station of that year", "there are fewer plans", "nothing such is told of the next clap", "bits of no land", "upright", "level", "barn", "wood", "hears", "air", "loss", "years"] : List String).getD i ""
def kLen (i : Nat) : Nat := ([12, 30, 7, 4, 5, 4, 5, 4, 5, 3, 13, 30, 13, 12, 12, 21, 25, 15, 23, 32, 22, 28, 30, 11, 29, 21, 37, 15, 7, 5, 4, 4, 5, 3, 4, 5] : List Nat).getD i 0
def kByt (i : Nat) : List Int32 := ([[110, 111, 32, 115, 117, 99, 104, 32, 108, 97, 110, 100], [116, 104, 101, 32, 116, 97, 112, 101, 32, 104, 97, 115, 32, 110, 111, 116, 32, 115, 111, 32, 109, 97, 110, 121, 32, 98, 121, 116, 101, 115], [117, 112, 114, 105, 103, 104, 116], [108, 111, 115, 115], [108, 101, 118, 101, 108], [98, 97, 114, 110], [121, 101, 97, 114, 115], [119, 111, 111, 100], [104, 101, 97, 114, 115], [97, 105, 114], [110, 111, 32, 115, 117, 99, 104, 32, 99, 111, 117, 110, 116], [110, 111, 116, 104, 105, 110, 103, 32, 115, 117, 99, 104, 32, 105, 115, 32, 116, 111, 108, 100, 32, 111, 102, 32, 97, 32, 108, 97, 110, 100], [110, 111, 32, 115, 117, 99, 104, 32, 112, 108, 97, 99, 101], [110, 111, 32, 115, 117, 99, 104, 32, 121, 101, 97, 114], [110, 111, 32, 115, 117, 99, 104, 32, 116, 111, 110, 101], [110, 111, 32, 115, 117, 99, 104, 32, 101, 99, 104, 111, 32, 105, 115, 32, 104, 101, 97, 114, 100], [110, 111, 32, 101, 99, 104, 111, 32, 104, 97, 115, 32, 115, 117, 99, 104, 32, 97, 32, 110, 117, 109, 98, 101, 114], [110, 111, 32, 115, 117, 99, 104, 32, 115, 116, 97, 116, 105, 111, 110], [110, 111, 32, 115, 117, 99, 104, 32, 116, 105, 99, 107, 32, 105, 115, 32, 119, 114, 105, 116, 116, 101, 110], [116, 104, 101, 32, 115, 116, 97, 116, 105, 111, 110, 32, 102, 105, 116, 115, 32, 97, 116, 32, 102, 101, 119, 101, 114, 32, 112, 108, 97, 99, 101, 115], [116, 104, 101, 32, 115, 116, 97, 116, 105, 111, 110, 32, 105, 115, 32, 117, 110, 110, 97, 109, 101, 100], [110, 111, 116, 104, 105, 110, 103, 32, 115, 117, 99, 104, 32, 105, 115, 32, 116, 111, 108, 100, 32, 111, 102, 32, 97, 105, 114, 115], [110, 111, 116, 104, 105, 110, 103, 32, 115, 117, 99, 104, 32, 105, 115, 32, 116, 111, 108, 100, 32, 111, 102, 32, 97, 32, 116, 105, 99, 107], [110, 111, 32, 115, 117, 99, 104, 32, 97, 105, 114], [110, 111, 32, 110, 97, 109, 101, 100, 32, 115, 116, 97, 116, 105, 111, 110, 32, 111, 102, 32, 116, 104, 97, 116, 32, 121, 101, 97, 114], [116, 104, 101, 114, 101, 32, 97, 114, 101, 32, 102, 101, 119, 101, 114, 32, 112, 108, 97, 110, 115], [110, 111, 116, 104, 105, 110, 103, 32, 115, 117, 99, 104, 32, 105, 115, 32, 116, 111, 108, 100, 32, 111, 102, 32, 116, 104, 101, 32, 110, 101, 120, 116, 32, 99, 108, 97, 112], [98, 105, 116, 115, 32, 111, 102, 32, 110, 111, 32, 108, 97, 110, 100], [117, 112, 114, 105, 103, 104, 116], [108, 101, 118, 101, 108], [98, 97, 114, 110], [119, 111, 111, 100], [104, 101, 97, 114, 115], [97, 105, 114], [108, 111, 115, 115], [121, 101, 97, 114, 115]] : List (List Int32)).getD i []
def stG (G : Gx) (U : State) (H : Heap) : Prop := ∀ i : Nat, i < 36 → vk_R (kOwn i) (kIdx i) (kTxt i) (gS G i) U ∧ va_O "java/lang/String" (gS G i) (ag G) U H ∧ va_OF "java/lang/String" "coder" "B" (.int 0) (gS G i) (ag G) U H ∧ va_OF "java/lang/String" "value" "[B" (.ref (gV G i)) (gS G i) (ag G) U H ∧ va_T .byte (gV G i) (kLen i) (fun j => .int ((kByt i).getD j 0)) (ag G) U H
def exG (G : Gx) (U : State) (H : Heap) : Prop := vx_Zq Bundle.tN "UNASSIGNED_STACK" Bundle.steD (ag G) U H ∧ vx_Zq Bundle.tN "SUPPRESSED_SENTINEL" Bundle.listD (ag G) U H ∧ va_Z "java/lang/String" "COMPACT_STRINGS" "Z" (.int 1) (ag G) U H ∧ va_Zq "jdk/internal/util/Preconditions" "SIOOBE_FORMATTER" "Ljava/util/function/BiFunction;" (ag G) U H
def fxG (G : Gx) (U : State) : Prop := AllW U ∧ va_K (gD G) vwCl (tysG G) U ∧ stG G U U.heap ∧ exG G U U.heap ∧ lyG G ∧ gz G ≤ U.heap.size ∧ 0 < gz G
theorem stG.moved {G : Gx} {s t : State} (h : stG G s s.heap) (hW : s.WarmedH t.vm) (hq : ∀ a : Nat, a < s.heap.size → ¬ ag G a → t.heap[a]? = s.heap[a]?) : stG G t t.heap := by
  intro i hi
  obtain ⟨h1, h2, h3, h4, h5⟩ := h i hi
  exact ⟨h1.warm hW, (h2.moved hW.alike).kept hq, (h3.moved hW.alike).kept hq, (h4.moved hW.alike).kept hq, (h5.moved hW.alike).kept hq⟩
theorem exG.moved {G : Gx} {s t : State} (h : exG G s s.heap) (hW : s.WarmedH t.vm) (hq : ∀ a : Nat, a < s.heap.size → ¬ ag G a → t.heap[a]? = s.heap[a]?) : exG G t t.heap := by
  obtain ⟨h1, h2, h3, h4⟩ := h
  exact ⟨(h1.moved hW.alike).kept hq, (h2.moved hW.alike).kept hq, (h3.moved hW.alike).kept hq, (h4.moved hW.alike).kept hq⟩
theorem fxG.moved {G : Gx} {s t : State} (h : fxG G s) (hW : s.WarmedH t.vm) (hz : s.heap.size ≤ t.heap.size) (hq : ∀ a : Nat, a < s.heap.size → ¬ ag G a → t.heap[a]? = s.heap[a]?) : fxG G t := by
  obtain ⟨h1, h2, h3, h4, h5, h6, h7⟩ := h
  exact ⟨h1.warm hW, va_K.moved hW.alike h2, h3.moved hW hq, h4.moved hW hq, h5, Nat.le_trans h6 hz, h7⟩
/-- the world at a state -/
def Wd (G : Gx) (u : Mm) (U : State) : Prop := va_P (gD G) vwCl (wl G u) U.heap ∧ fxG G U
theorem Wd.blind {G : Gx} {u : Mm} {U : State} (h : Wd G u U) (g : JFrame) (mk : MethodId) (a : Array Value) : Wd G u (U.calling g mk a) :=
  ⟨h.1, fxG.moved (s := U) (t := U.calling g mk a) h.2 (State.WarmedH.refl U) (Nat.le_refl _) (fun _ _ _ => rfl)⟩
/-- what stands fixed in a method's body -/
def Cx (G : Gx) (p : Program) (s : State) (m : MethodId) (c : Code) (cc : ByteArray) (own : String) (nL : Nat) : Prop := p.tables.exec = Jvm.exec ∧ c.code = cc ∧ s.vm.findClass own = some m.cls ∧ c.maxLocals = nL ∧ fxG G s
/-- what moves: the memory u is what the heap holds; nothing below was written -/
def Hp (G : Gx) (u : Mm) (s : State) (H : Heap) (locs : List Loc) : Prop := va_P (gD G) vwCl (wl G u) H ∧ va_S (ag G) s.heap H locs
theorem Hp.end {G : Gx} {u : Mm} {s t : State} {H : Heap} {locs : List Loc} (h : Hp G u s H locs) (hF : fxG G s) (ht : t.heap = H) (hW : s.WarmedH t.vm) : Wd G u t :=
  ⟨by rw [ht]; exact h.1, hF.moved hW (by rw [ht]; exact h.2.1) (fun a h1 h2 => by rw [ht]; exact h.2.2.1 a h1 h2)⟩
section QR
variable {G : Gx} {u : Mm} {p : Program} {l : Launch} {e : Env} {R : Room} {s : State} {m : MethodId} {args : Array Value} {below : List Frame} {meth : Method} {c : Code} {H : Heap} {locs : List Loc} {cells slots : Nat} {Q : State → Prop}
variable {cc : ByteArray} {own : String} {nL pc : Nat} {ls : Array Slot} {rest : List Value}
theorem Cx.hA (C : Cx G p s m c cc own nL) : AllW s := C.2.2.2.2.1
theorem q_getI (C : Cx G p s m c cc own nL) (hP : Hp G u s H locs) {a ci k index N : Nat} {Cn : String} {T : u_T} (hL : ∀ w ∈ u_ws Cn T N, w.before args s = true) (hc : vwCl[ci]? = some (Cn, T, N)) (hf : nf ci = N ∧ k < N ∧ rf ci k = false ∧ ci < 13) (hk : kd G a = ci) (hlink : (Cond.fieldLink own index (T k).1 (T k).2.1 (T k).2.2.1).before args s = true) (hdg : decode cc pc = .ok (.getfield index, 3))
    (kk : W p l e R s m args below meth c H locs cells slots Q (F0 m (pc + 3) ls (.int (gI u a k) :: rest))) : W p l e R s m args below meth c H locs cells slots Q (F0 m pc ls (.ref a :: rest)) := by
  obtain ⟨hx, hb, hown, -, -, hK, -, -, hly, -⟩ := C
  obtain ⟨f1, f2, f3, f4⟩ := hf
  have he := wl_at hly (u := u) (a := a) (by omega)
  rw [ce_o hk f4] at he
  exact va_get hx hb hL (fun _ h => h) hown hK hP.1 (a - gz G) he hc k f2 hlink (fun _ h => h) (by rw [flds_get (by omega), f3]; rfl) hdg kk
theorem q_getR (C : Cx G p s m c cc own nL) (hP : Hp G u s H locs) {a ci k index N : Nat} {Cn : String} {T : u_T} (hL : ∀ w ∈ u_ws Cn T N, w.before args s = true) (hc : vwCl[ci]? = some (Cn, T, N)) (hf : nf ci = N ∧ k < N ∧ rf ci k = true ∧ ci < 13) (hk : kd G a = ci) (hn : gR u a k ≠ 0) (hlink : (Cond.fieldLink own index (T k).1 (T k).2.1 (T k).2.2.1).before args s = true) (hdg : decode cc pc = .ok (.getfield index, 3))
    (kk : W p l e R s m args below meth c H locs cells slots Q (F0 m (pc + 3) ls (.ref (gR u a k) :: rest))) : W p l e R s m args below meth c H locs cells slots Q (F0 m pc ls (.ref a :: rest)) := by
  obtain ⟨hx, hb, hown, -, -, hK, -, -, hly, -⟩ := C
  obtain ⟨f1, f2, f3, f4⟩ := hf
  have he := wl_at hly (u := u) (a := a) (by omega)
  rw [ce_o hk f4] at he
  exact va_get hx hb hL (fun _ h => h) hown hK hP.1 (a - gz G) he hc k f2 hlink (fun _ h => h) (by rw [flds_get (by omega), f3, if_pos rfl]; exact congrArg some (fr_ne hn)) hdg kk
theorem q_getIN (C : Cx G p s m c cc own nL) (hP : Hp G u s H locs) {a ci k index N : Nat} {Cn host : String} {T : u_T} (hL : ∀ w ∈ u_ws Cn T N, w.before args s = true) (hc : vwCl[ci]? = some (Cn, T, N)) (hf : nf ci = N ∧ k < N ∧ rf ci k = false ∧ ci < 13) (hk : kd G a = ci) (hlink : (Cond.fieldLinkNest own index (T k).1 (T k).2.1 (T k).2.2.1 host).before args s = true) (hdg : decode cc pc = .ok (.getfield index, 3))
    (kk : W p l e R s m args below meth c H locs cells slots Q (F0 m (pc + 3) ls (.int (gI u a k) :: rest))) : W p l e R s m args below meth c H locs cells slots Q (F0 m pc ls (.ref a :: rest)) := by
  obtain ⟨hx, hb, hown, -, -, hK, -, -, hly, -⟩ := C
  obtain ⟨f1, f2, f3, f4⟩ := hf
  have he := wl_at hly (u := u) (a := a) (by omega)
  rw [ce_o hk f4] at he
  exact va_getN hx hb hL (fun _ h => h) hown hK hP.1 (a - gz G) he hc k f2 hlink (fun _ h => h) (by rw [flds_get (by omega), f3]; rfl) hdg kk
theorem q_getRN (C : Cx G p s m c cc own nL) (hP : Hp G u s H locs) {a ci k index N : Nat} {Cn host : String} {T : u_T} (hL : ∀ w ∈ u_ws Cn T N, w.before args s = true) (hc : vwCl[ci]? = some (Cn, T, N)) (hf : nf ci = N ∧ k < N ∧ rf ci k = true ∧ ci < 13) (hk : kd G a = ci) (hn : gR u a k ≠ 0) (hlink : (Cond.fieldLinkNest own index (T k).1 (T k).2.1 (T k).2.2.1 host).before args s = true) (hdg : decode cc pc = .ok (.getfield index, 3))
    (kk : W p l e R s m args below meth c H locs cells slots Q (F0 m (pc + 3) ls (.ref (gR u a k) :: rest))) : W p l e R s m args below meth c H locs cells slots Q (F0 m pc ls (.ref a :: rest)) := by
  obtain ⟨hx, hb, hown, -, -, hK, -, -, hly, -⟩ := C
  obtain ⟨f1, f2, f3, f4⟩ := hf
  have he := wl_at hly (u := u) (a := a) (by omega)
  rw [ce_o hk f4] at he
  exact va_getN hx hb hL (fun _ h => h) hown hK hP.1 (a - gz G) he hc k f2 hlink (fun _ h => h) (by rw [flds_get (by omega), f3, if_pos rfl]; exact congrArg some (fr_ne hn)) hdg kk
/-- behind a write of a field: the new memory -/
theorem q_setI {G : Gx} {u : Mm} {a ci k : Nat} {v : Int32} (hly : lyG G) (hk : kd G a = ci) (hc : ci < 13) (hk2 : k < nf ci) (hr : rf ci k = false) : (wl G u).set (a - gz G) (a, .inr (ci, (flds ci u a).set k (.int v))) = wl G (sI u a k v) := by
  refine wl_set (hly a (by omega)).1 (hly a (by omega)).2 ?_ (fun b hb => sI_ne hb)
  rw [ce_o hk hc]
  congr 2
  exact flds_set hk2 (by rw [hr]; simp [sI]) (fun j hj => by simp [sI, hj]) (fun j hj => rfl)
theorem q_setR {G : Gx} {u : Mm} {a ci k v : Nat} (hly : lyG G) (hk : kd G a = ci) (hc : ci < 13) (hk2 : k < nf ci) (hr : rf ci k = true) (hv : v ≠ 0) : (wl G u).set (a - gz G) (a, .inr (ci, (flds ci u a).set k (.ref v))) = wl G (sR u a k v) := by
  refine wl_set (hly a (by omega)).1 (hly a (by omega)).2 ?_ (fun b hb => sR_ne hb)
  rw [ce_o hk hc]
  congr 2
  exact flds_set hk2 (by rw [hr, if_pos rfl]; simp [sR, fr, hv, va_rf]) (fun j hj => rfl) (fun j hj => by simp [sR, hj])
theorem q_putI (C : Cx G p s m c cc own nL) (hP : Hp G u s H locs) {a ci k index N : Nat} {Cn : String} {T : u_T} {v : Int32} {ty0 : Nat → FieldType} {ty : FieldType} (hty : ∀ k, k < N → parseFieldDescriptor (T k).2.2.1 = some (ty0 k)) (hnm : ∀ a, a < N → ∀ b, b < N → a ≠ b → (T a).2.1 ≠ (T b).2.1) (hL : ∀ w ∈ u_ws Cn T N, w.before args s = true) (hc : vwCl[ci]? = some (Cn, T, N)) (hf : nf ci = N ∧ k < N ∧ rf ci k = false ∧ ci < 13) (hfin : (T k).2.2.2 = false) (hd : parseFieldDescriptor (T k).2.2.1 = some ty) (hn : narrow ty (.int v) = .int v) (hfit : fits ty (.int v) = true) (hk : kd G a = ci) (hlink : (Cond.fieldLink own index (T k).1 (T k).2.1 (T k).2.2.1).before args s = true) (hdg : decode cc pc = .ok (.putfield index, 3))
    (kk : ∀ (H1 : Heap) (locs1 : List Loc), Hp G (sI u a k v) s H1 locs1 → W p l e R s m args below meth c H1 locs1 cells slots Q (F0 m (pc + 3) ls rest)) : W p l e R s m args below meth c H locs cells slots Q (F0 m pc ls (.int v :: .ref a :: rest)) := by
  obtain ⟨hx, hb, hown, -, -, hK, -, -, hly, -⟩ := C
  obtain ⟨f1, f2, f3, f4⟩ := hf
  have he := wl_at hly (u := u) (a := a) (by omega)
  rw [ce_o hk f4] at he
  refine va_put hx hb hL (fun _ h => h) ty0 hty hnm hown hK hP.1 (wl_D G u) hP.2 (a - gz G) he hc k f2 hlink (fun _ h => h) hfin hd hn hfit (by rw [flds_len]; omega) hdg (fun H1 locs1 h1 h2 h3 => ?_)
  rw [q_setI hly hk f4 (by omega) f3] at h1
  exact kk H1 locs1 ⟨h1, h3⟩
theorem q_putIN (C : Cx G p s m c cc own nL) (hP : Hp G u s H locs) {a ci k index N : Nat} {Cn host : String} {T : u_T} {v : Int32} {ty0 : Nat → FieldType} {ty : FieldType} (hty : ∀ k, k < N → parseFieldDescriptor (T k).2.2.1 = some (ty0 k)) (hnm : ∀ a, a < N → ∀ b, b < N → a ≠ b → (T a).2.1 ≠ (T b).2.1) (hL : ∀ w ∈ u_ws Cn T N, w.before args s = true) (hc : vwCl[ci]? = some (Cn, T, N)) (hf : nf ci = N ∧ k < N ∧ rf ci k = false ∧ ci < 13) (hfin : (T k).2.2.2 = false) (hd : parseFieldDescriptor (T k).2.2.1 = some ty) (hn : narrow ty (.int v) = .int v) (hfit : fits ty (.int v) = true) (hk : kd G a = ci) (hlink : (Cond.fieldLinkNest own index (T k).1 (T k).2.1 (T k).2.2.1 host).before args s = true) (hdg : decode cc pc = .ok (.putfield index, 3))
    (kk : ∀ (H1 : Heap) (locs1 : List Loc), Hp G (sI u a k v) s H1 locs1 → W p l e R s m args below meth c H1 locs1 cells slots Q (F0 m (pc + 3) ls rest)) : W p l e R s m args below meth c H locs cells slots Q (F0 m pc ls (.int v :: .ref a :: rest)) := by
  obtain ⟨hx, hb, hown, -, -, hK, -, -, hly, -⟩ := C
  obtain ⟨f1, f2, f3, f4⟩ := hf
  have he := wl_at hly (u := u) (a := a) (by omega)
  rw [ce_o hk f4] at he
  refine va_putN hx hb hL (fun _ h => h) ty0 hty hnm hown hK hP.1 (wl_D G u) hP.2 (a - gz G) he hc k f2 hlink (fun _ h => h) hfin hd hn hfit (by rw [flds_len]; omega) hdg (fun H1 locs1 h1 h2 h3 => ?_)
  rw [q_setI hly hk f4 (by omega) f3] at h1
  exact kk H1 locs1 ⟨h1, h3⟩
theorem q_putR (C : Cx G p s m c cc own nL) (hP : Hp G u s H locs) {a ci k index N v : Nat} {Cn : String} {T : u_T} {ty0 : Nat → FieldType} {ty : FieldType} (hty : ∀ k, k < N → parseFieldDescriptor (T k).2.2.1 = some (ty0 k)) (hnm : ∀ a, a < N → ∀ b, b < N → a ≠ b → (T a).2.1 ≠ (T b).2.1) (hL : ∀ w ∈ u_ws Cn T N, w.before args s = true) (hc : vwCl[ci]? = some (Cn, T, N)) (hf : nf ci = N ∧ k < N ∧ rf ci k = true ∧ ci < 13) (hfin : (T k).2.2.2 = false) (hd : parseFieldDescriptor (T k).2.2.1 = some ty) (hn : narrow ty (.ref v) = .ref v) (hfit : fits ty (.ref v) = true) (hk : kd G a = ci) (hv : v ≠ 0) (hlink : (Cond.fieldLink own index (T k).1 (T k).2.1 (T k).2.2.1).before args s = true) (hdg : decode cc pc = .ok (.putfield index, 3))
    (kk : ∀ (H1 : Heap) (locs1 : List Loc), Hp G (sR u a k v) s H1 locs1 → W p l e R s m args below meth c H1 locs1 cells slots Q (F0 m (pc + 3) ls rest)) : W p l e R s m args below meth c H locs cells slots Q (F0 m pc ls (.ref v :: .ref a :: rest)) := by
  obtain ⟨hx, hb, hown, -, -, hK, -, -, hly, -⟩ := C
  obtain ⟨f1, f2, f3, f4⟩ := hf
  have he := wl_at hly (u := u) (a := a) (by omega)
  rw [ce_o hk f4] at he
  refine va_put hx hb hL (fun _ h => h) ty0 hty hnm hown hK hP.1 (wl_D G u) hP.2 (a - gz G) he hc k f2 hlink (fun _ h => h) hfin hd hn hfit (by rw [flds_len]; omega) hdg (fun H1 locs1 h1 h2 h3 => ?_)
  rw [q_setR hly hk f4 (by omega) f3 hv] at h1
  exact kk H1 locs1 ⟨h1, h3⟩
-- arrays
theorem q_iald (C : Cx G p s m c cc own nL) (hP : Hp G u s H locs) {a : Nat} {i : Int32} (hk : kd G a = 13) (hin : vp_in i (ln G a)) (hdg : decode cc pc = .ok (.iaload, 1))
    (kk : W p l e R s m args below meth c H locs cells slots Q (F0 m (pc + 1) ls (.int (gI u a i.toNatClampNeg) :: rest))) : W p l e R s m args below meth c H locs cells slots Q (F0 m pc ls (.int i :: .ref a :: rest)) := by
  obtain ⟨hx, hb, hown, -, -, hK, -, -, hly, -⟩ := C
  have he := wl_at hly (u := u) (a := a) (by omega)
  rw [ce_i hk] at he
  exact va_iald hx hb hK hP.1 (a - gz G) 0 he rfl hin hdg kk
theorem q_bald (C : Cx G p s m c cc own nL) (hP : Hp G u s H locs) {a : Nat} {i : Int32} (hk : kd G a = 14) (hin : vp_in i (ln G a)) (hdg : decode cc pc = .ok (.baload, 1))
    (kk : W p l e R s m args below meth c H locs cells slots Q (F0 m (pc + 1) ls (.int (gI u a i.toNatClampNeg) :: rest))) : W p l e R s m args below meth c H locs cells slots Q (F0 m pc ls (.int i :: .ref a :: rest)) := by
  obtain ⟨hx, hb, hown, -, -, hK, -, -, hly, -⟩ := C
  have he := wl_at hly (u := u) (a := a) (by omega)
  rw [ce_b hk] at he
  exact va_bald hx hb hK hP.1 (a - gz G) 1 he rfl hin hdg kk
theorem q_lald (C : Cx G p s m c cc own nL) (hP : Hp G u s H locs) {a : Nat} {i : Int32} (hk : kd G a = 15) (hin : vp_in i (ln G a)) (hdg : decode cc pc = .ok (.laload, 1))
    (kk : W p l e R s m args below meth c H locs cells slots Q (F0 m (pc + 1) ls (.long (gL u a i.toNatClampNeg) :: rest))) : W p l e R s m args below meth c H locs cells slots Q (F0 m pc ls (.int i :: .ref a :: rest)) := by
  obtain ⟨hx, hb, hown, -, -, hK, -, -, hly, -⟩ := C
  have he := wl_at hly (u := u) (a := a) (by omega)
  rw [ce_l hk] at he
  exact va_lald hx hb hK hP.1 (a - gz G) 2 he rfl hin hdg kk
theorem q_alen (C : Cx G p s m c cc own nL) (hP : Hp G u s H locs) {a k : Nat} (hk : kd G a = k) (hk2 : 12 < k ∧ k < 24) (hdg : decode cc pc = .ok (.arraylength, 1))
    (kk : W p l e R s m args below meth c H locs cells slots Q (F0 m (pc + 1) ls (.int (nI (ln G a)) :: rest))) : W p l e R s m args below meth c H locs cells slots Q (F0 m pc ls (.ref a :: rest)) := by
  obtain ⟨hx, hb, hown, -, -, hK, -, -, hly, -⟩ := C
  have he := wl_at hly (u := u) (a := a) (by omega)
  have ht : ∃ ty, (tysG G)[k - 13]? = some (gA G k, ty) := by
    obtain ⟨h1, h2⟩ := hk2
    rcases (show k = 13 ∨ k = 14 ∨ k = 15 ∨ k = 16 ∨ k = 17 ∨ k = 18 ∨ k = 19 ∨ k = 20 ∨ k = 21 ∨ k = 22 ∨ k = 23 by omega) with r | r | r | r | r | r | r | r | r | r | r <;> (subst r; exact ⟨_, rfl⟩)
  obtain ⟨ty, ht⟩ := ht
  have hx2 : ∃ f, ce G u a = .inl (gA G k, ln G a, f) := by
    rcases (show k = 13 ∨ k = 14 ∨ k = 15 ∨ k = 23 ∨ (15 < k ∧ k ≠ 23) by omega) with r | r | r | r | r
    · subst r; exact ⟨_, ce_i hk⟩
    · subst r; exact ⟨_, ce_b hk⟩
    · subst r; exact ⟨_, ce_l hk⟩
    · subst r; exact ⟨_, ce_s hk⟩
    · exact ⟨_, ce_r hk r.1 r.2⟩
  obtain ⟨f, hf⟩ := hx2
  rw [hf] at he
  exact va_alen hx hb hK hP.1 (a - gz G) (k - 13) he ht rfl hdg kk
theorem q_aald (C : Cx G p s m c cc own nL) (hP : Hp G u s H locs) {a k : Nat} {Cn : String} {i : Int32} (hk : kd G a = k) (hk2 : 15 < k ∧ k < 23) (ht : (tysG G)[k - 13]? = some (gA G k, .object Cn)) (hin : vp_in i (ln G a)) (hn : gR u a i.toNatClampNeg ≠ 0) (hdg : decode cc pc = .ok (.aaload, 1))
    (kk : W p l e R s m args below meth c H locs cells slots Q (F0 m (pc + 1) ls (.ref (gR u a i.toNatClampNeg) :: rest))) : W p l e R s m args below meth c H locs cells slots Q (F0 m pc ls (.int i :: .ref a :: rest)) := by
  obtain ⟨hx, hb, hown, -, -, hK, -, -, hly, -⟩ := C
  have he := wl_at hly (u := u) (a := a) (by omega)
  rw [ce_r hk hk2.1 (by omega)] at he
  refine va_aldq hx hb hK hP.1 (a - gz G) (k - 13) he ht hin hdg ?_
  rw [show va_rf (fr (u.2.1 a i.toNatClampNeg)) = .ref (gR u a i.toNatClampNeg) from fr_ne hn]
  exact kk
theorem q_aaldS (C : Cx G p s m c cc own nL) (hP : Hp G u s H locs) {a : Nat} {i : Int32} (hk : kd G a = 23) (hin : vp_in i (ln G a)) (hn : gR u a i.toNatClampNeg ≠ 0) (hdg : decode cc pc = .ok (.aaload, 1))
    (kk : W p l e R s m args below meth c H locs cells slots Q (F0 m (pc + 1) ls (.ref (gS G (gR u a i.toNatClampNeg - 1)) :: rest))) : W p l e R s m args below meth c H locs cells slots Q (F0 m pc ls (.int i :: .ref a :: rest)) := by
  obtain ⟨hx, hb, hown, -, -, hK, -, -, hly, -⟩ := C
  have he := wl_at hly (u := u) (a := a) (by omega)
  rw [ce_s hk] at he
  refine va_aldq hx hb hK hP.1 (a - gz G) 10 he rfl hin hdg ?_
  rw [show va_rf (fs G (u.2.1 a i.toNatClampNeg)) = .ref (gS G (gR u a i.toNatClampNeg - 1)) by unfold fs; rw [if_neg (show ¬ u.2.1 a i.toNatClampNeg = 0 from hn)]; rfl]
  exact kk
theorem q_iast (C : Cx G p s m c cc own nL) (hP : Hp G u s H locs) {a : Nat} {i x : Int32} (hk : kd G a = 13) (hin : vp_in i (ln G a)) (hdg : decode cc pc = .ok (.iastore, 1))
    (kk : ∀ (H1 : Heap) (locs1 : List Loc), Hp G (sI u a i.toNatClampNeg x) s H1 locs1 → W p l e R s m args below meth c H1 locs1 cells slots Q (F0 m (pc + 1) ls rest)) : W p l e R s m args below meth c H locs cells slots Q (F0 m pc ls (.int x :: .int i :: .ref a :: rest)) := by
  obtain ⟨hx, hb, hown, -, -, hK, -, -, hly, -⟩ := C
  have he := wl_at hly (u := u) (a := a) (by omega)
  rw [ce_i hk] at he
  refine va_iast hx hb hK hP.1 (wl_D G u) hP.2 (a - gz G) 0 he rfl hin hdg (fun H1 locs1 h1 h2 h3 => ?_)
  rw [wl_set (u' := sI u a i.toNatClampNeg x) (hly a (by omega)).1 (hly a (by omega)).2 (by rw [ce_i hk, show upd (u.1 a) i.toNatClampNeg x = (sI u a i.toNatClampNeg x).1 a by funext j; simp [upd, sI]]) (fun b hb => sI_ne hb)] at h1
  exact kk H1 locs1 ⟨h1, h3⟩
theorem q_bast (C : Cx G p s m c cc own nL) (hP : Hp G u s H locs) {a : Nat} {i x : Int32} (hk : kd G a = 14) (hin : vp_in i (ln G a)) (hdg : decode cc pc = .ok (.bastore, 1))
    (kk : ∀ (H1 : Heap) (locs1 : List Loc), Hp G (sI u a i.toNatClampNeg x.toInt8.toInt32) s H1 locs1 → W p l e R s m args below meth c H1 locs1 cells slots Q (F0 m (pc + 1) ls rest)) : W p l e R s m args below meth c H locs cells slots Q (F0 m pc ls (.int x :: .int i :: .ref a :: rest)) := by
  obtain ⟨hx, hb, hown, -, -, hK, -, -, hly, -⟩ := C
  have he := wl_at hly (u := u) (a := a) (by omega)
  rw [ce_b hk] at he
  refine va_bast hx hb hK hP.1 (wl_D G u) hP.2 (a - gz G) 1 he rfl hin hdg (fun H1 locs1 h1 h2 h3 => ?_)
  rw [wl_set (u' := sI u a i.toNatClampNeg x.toInt8.toInt32) (hly a (by omega)).1 (hly a (by omega)).2 (by rw [ce_b hk, show upd (u.1 a) i.toNatClampNeg (vp_nar .byte x) = (sI u a i.toNatClampNeg x.toInt8.toInt32).1 a by funext j; simp [upd, sI, vp_nar_byte]]) (fun b hb => sI_ne hb)] at h1
  exact kk H1 locs1 ⟨h1, h3⟩
theorem q_last (C : Cx G p s m c cc own nL) (hP : Hp G u s H locs) {a : Nat} {i : Int32} {x : Int64} (hk : kd G a = 15) (hin : vp_in i (ln G a)) (hdg : decode cc pc = .ok (.lastore, 1))
    (kk : ∀ (H1 : Heap) (locs1 : List Loc), Hp G (sL u a i.toNatClampNeg x) s H1 locs1 → W p l e R s m args below meth c H1 locs1 cells slots Q (F0 m (pc + 1) ls rest)) : W p l e R s m args below meth c H locs cells slots Q (F0 m pc ls (.long x :: .int i :: .ref a :: rest)) := by
  obtain ⟨hx, hb, hown, -, -, hK, -, -, hly, -⟩ := C
  have he := wl_at hly (u := u) (a := a) (by omega)
  rw [ce_l hk] at he
  refine va_last hx hb hK hP.1 (wl_D G u) hP.2 (a - gz G) 2 he rfl hin hdg (fun H1 locs1 h1 h2 h3 => ?_)
  rw [wl_set (u' := sL u a i.toNatClampNeg x) (hly a (by omega)).1 (hly a (by omega)).2 (by rw [ce_l hk, show vp_updL (u.2.2 a) i.toNatClampNeg x = (sL u a i.toNatClampNeg x).2.2 a by funext j; simp [vp_updL, sL]]) (fun b hb => sL_ne hb)] at h1
  exact kk H1 locs1 ⟨h1, h3⟩
theorem q_aast (C : Cx G p s m c cc own nL) (hP : Hp G u s H locs) {a k v ci : Nat} {r : vw_C} {i : Int32} (hk : kd G a = k) (hk2 : 15 < k ∧ k < 23) (ht : (tysG G)[k - 13]? = some (gA G k, .object r.1)) (hc : vwCl[ci]? = some r) (hci : ci < 13) (hv : kd G v = ci) (hin : vp_in i (ln G a)) (hdg : decode cc pc = .ok (.aastore, 1))
    (kk : ∀ (H1 : Heap) (locs1 : List Loc), Hp G (sR u a i.toNatClampNeg v) s H1 locs1 → W p l e R s m args below meth c H1 locs1 cells slots Q (F0 m (pc + 1) ls rest)) : W p l e R s m args below meth c H locs cells slots Q (F0 m pc ls (.ref v :: .int i :: .ref a :: rest)) := by
  obtain ⟨hx, hb, hown, -, -, hK, -, -, hly, -, hz⟩ := C
  have he := wl_at hly (u := u) (a := a) (by omega)
  rw [ce_r hk hk2.1 (by omega)] at he
  have hv2 := wl_at hly (u := u) (a := v) (by omega)
  have hv0 : v ≠ 0 := by have := (hly v (by omega)).1; omega
  rw [ce_o hv hci] at hv2
  refine va_astq hx hb hK hP.1 (wl_D G u) hP.2 (a - gz G) (k - 13) (v - gz G) ci he ht hv2 hc hin hdg (fun H1 locs1 h1 h2 h3 => ?_)
  rw [wl_set (u' := sR u a i.toNatClampNeg v) (hly a (by omega)).1 (hly a (by omega)).2 (by rw [ce_r hk hk2.1 (by omega), show va_up (fun j => fr (u.2.1 a j)) i.toNatClampNeg (some v) = (fun j => fr ((sR u a i.toNatClampNeg v).2.1 a j)) by funext j; simp only [va_up, sR]; by_cases q : j = i.toNatClampNeg <;> simp [q, fr, hv0]]) (fun b hb => sR_ne hb)] at h1
  exact kk H1 locs1 ⟨h1, h3⟩
end QR
