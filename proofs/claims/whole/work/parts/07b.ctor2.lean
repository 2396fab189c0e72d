section QK2
variable {G : Gx} {u : Mm} {p : Program} {l : Launch} {e : Env} {R : Room} {s : State} {m : MethodId} {args : Array Value} {below : List Frame} {meth : Method} {c : Code} {H : Heap} {locs : List Loc} {cells slots : Nat} {Q : State → Prop}
variable {cc : ByteArray} {own : String} {nL pc mc ms n n0 cn : Nat} {ls : Array Slot} {rest : List Value}
theorem q_growM {k : Nat} {u' : Mm} (hP : Hp (cut G n) u s H locs) (hz : H.size = gz G + n) {H1 : Heap} (z1 : H.size ≤ H1.size) (o1 : ∀ q : Nat, q < H.size → H1[q]? = H[q]?) (hu : ∀ a, a < gz G + n → ce G u' a = ce G u a) (hc : ∀ i, i < k → va_at (gD G) vwCl (gz G + (n + i), ce G u' (gz G + (n + i))) H1) : Hp (cut G (n + k)) u' s H1 locs := by
  refine ⟨?_, Nat.le_trans hP.2.1 z1, fun q h1 h2 => (o1 q (Nat.lt_of_lt_of_le h1 hP.2.1)).trans (hP.2.2.1 q h1 h2), hP.2.2.2⟩
  intro j q hj
  rw [wl_cut, List.getElem?_map] at hj
  rcases Nat.lt_or_ge j (n + k) with h | h
  · rw [List.getElem?_range h] at hj
    simp only [Option.map_some, Option.some.injEq] at hj
    subst hj
    rcases Nat.lt_or_ge j n with h' | h'
    · rw [hu _ (by omega)]
      have he : (wl (cut G n) u)[j]? = some (gz G + j, ce G u (gz G + j)) := by
        rw [wl_cut, List.getElem?_map, List.getElem?_range h']
        rfl
      have h9 := hP.1 j _ he
      exact h9.kept (o1 _ h9.lt)
    · have := hc (j - n) (by omega)
      rwa [show n + (j - n) = j by omega] at this
  · rw [List.getElem?_eq_none (by simp; exact h)] at hj; cases hj
def mnaU (u : Mm) (a N : Nat) : Mm := (u.1, fun b k => if b = a ∧ k < N then a + 1 + k else u.2.1 b k, u.2.2)
theorem q_mna (hB : bsG G) (C : Cx (cut G n) p s m c cc own nL) (hP : Hp (cut G n) u s H locs) (hz : H.size = gz G + n) {x y : Int32} {N K index : Nat} (hcl : (Cond.classLink own index "[[I").before args s = true) (hx0 : ¬ x < 0) (hy0 : ¬ y < 0) (hN : x.toNatClampNeg = N) (hM : y.toNatClampNeg = K) (hk : kd G (gz G + n) = 22) (hl : ln G (gz G + n) = N) (hki : ∀ i, i < N → kd G (gz G + (n + 1 + i)) = 13 ∧ ln G (gz G + (n + 1 + i)) = K) (hbl : ∀ i, i < N + 1 → blk u (gz G + (n + i))) (hb1 : N * 4 ≤ 536870912) (hb2 : K * 4 ≤ 536870912) (hcells : cells + (1 + N) ≤ R.cells) (hslots : slots + (N + N * K) ≤ R.slots) (hdg : decode cc pc = .ok (.multianewarray index 2, 4))
    (kk : ∀ H1 : Heap, Hp (cut G (n + (1 + N))) (mnaU u (gz G + n) N) s H1 locs → W p l e R s m args below meth c H1 locs (cells + 1 + N) (slots + N + N * K) Q (F0 m (pc + 4) ls (.ref (gz G + n) :: rest))) : W p l e R s m args below meth c H locs cells slots Q (F0 m pc ls (.int y :: .int x :: rest)) := by
  have hA := C.hA
  obtain ⟨hx, hb, hown, -, -, hK, -⟩ := C
  subst hN; subst hM
  intro T hT Xs
  obtain ⟨vm₁, cA, cy, -, fA, fC, hO, -, X', step⟩ := Xs.multianewarray2F (ty := .int) hx hown (show (Cond.classLink own index ("[" ++ (FieldType.array .int).toString)).before args s = true from hcl) (ao_array_FieldType_int hA) (ac_int hA) (g := F0 m pc ls (.int y :: .int x :: rest)) rfl (by rw [hb]; exact hdg) rfl hx0 hy0 hb1 hb2 (by omega) rfl rfl hcells hslots
  generalize hF : Jvm.Free.Multi.fill (T.setVm vm₁) cA cy x.toNatClampNeg y.toNatClampNeg (defaultValue .int) x.toNatClampNeg = F at X' step
  have hTh : (T.setVm vm₁).heap = H := hT
  obtain ⟨f1, f2, -, -⟩ := Jvm.Free.Multi.fill_facts (T.setVm vm₁) cA cy x.toNatClampNeg y.toNatClampNeg (defaultValue .int) x.toNatClampNeg
  rw [hF, hTh] at f1 f2
  have hold : ∀ q : Nat, q < H.size → F.heap[q]? = H[q]? := fun q hq => by
    have := Jvm.Free.Multi.fill_old (T.setVm vm₁) cA cy x.toNatClampNeg y.toNatClampNeg (defaultValue .int) (a := q) (by rw [hTh]; exact hq) x.toNatClampNeg
    rw [hF, hTh] at this
    exact this
  have hrow : ∀ j : Nat, j < x.toNatClampNeg → F.heap[H.size + 1 + j]? = some (Jvm.Free.Multi.innerC cy y.toNatClampNeg (defaultValue .int)) := fun j hj => by
    have := Jvm.Free.Multi.fill_inner (T.setVm vm₁) cA cy x.toNatClampNeg y.toNatClampNeg (defaultValue .int) x.toNatClampNeg j hj
    rw [hF, hTh] at this
    exact this
  have hcA : cA = gA G 22 := Option.some.inj (fA.symm.trans (hK.2 9 (gA G 22, .array .int) rfl).2)
  have hcy : cy = gA G 13 := Option.some.inj (fC.symm.trans (hK.2 0 (gA G 13, .int) rfl).2)
  have hout : Jvm.Free.Multi.outerC cA x.toNatClampNeg H.size x.toNatClampNeg = vp_cell cA (x.toNatClampNeg, .inr (.inr (.inr (.inr (fun i => if i < x.toNatClampNeg then some (H.size + 1 + i) else none))))) := by
    rw [vp_cell_q]
    exact vr_outer cA x.toNatClampNeg H.size x.toNatClampNeg
  rw [hout] at f2
  have hPn : Hp (cut G (n + (1 + x.toNatClampNeg))) (mnaU u (gz G + n) x.toNatClampNeg) s F.heap locs := by
    refine q_growM hP hz (by omega) hold (fun a ha => ?_) (fun i hi => ?_)
    · have e1 : (mnaU u (gz G + n) x.toNatClampNeg).2.1 a = u.2.1 a := by
        funext k
        simp only [mnaU]
        rw [if_neg (by omega)]
      unfold ce flds
      rw [e1]
      rfl
    · rcases Nat.eq_zero_or_pos i with q | q
      · subst q
        show va_at (gD G) vwCl (gz G + n, ce G (mnaU u (gz G + n) x.toNatClampNeg) (gz G + n)) F.heap
        rw [ce_r hk (by decide) (by decide), hl]
        show F.heap[gz G + n]? = some (vp_cell (gA G 22) (x.toNatClampNeg, .inr (.inr (.inr (.inr _)))))
        have ef : (fun i => if i < x.toNatClampNeg then some (H.size + 1 + i) else none) = (fun j => fr ((mnaU u (gz G + n) x.toNatClampNeg).2.1 (gz G + n) j)) := by
          funext j
          simp only [mnaU, hz]
          by_cases q : j < x.toNatClampNeg
          · simp [q, fr]
          · have := (hbl 0 (by omega) j).2.1
            simp only [gR, Nat.add_zero] at this
            simp [q, fr, this]
        rw [show F.heap[gz G + n]? = F.heap[H.size]? by rw [hz], f2, hcA, ef]
      · obtain ⟨k1, k2⟩ := hki (i - 1) (by omega)
        rw [show n + 1 + (i - 1) = n + i by omega] at k1 k2
        rw [ce_i k1, k2]
        show F.heap[gz G + (n + i)]? = some (arrV (gA G 13) y.toNatClampNeg (fun j => .int ((mnaU u (gz G + n) x.toNatClampNeg).1 (gz G + (n + i)) j)))
        have h9 := hrow (i - 1) (by omega)
        rw [show H.size + 1 + (i - 1) = gz G + (n + i) by omega] at h9
        rw [h9, hcy, show (fun j => Value.int ((mnaU u (gz G + n) x.toNatClampNeg).1 (gz G + (n + i)) j)) = fun _ => defaultValue .int from funext fun j => by
          have := (hbl i (by omega) j).1
          simp only [gI] at this
          simp only [mnaU, this]
          rfl, ← arrV_new]
        rfl
  obtain ⟨t, a1, b1⟩ := kk F.heap hPn F rfl X'
  refine ⟨t, step t ?_, b1⟩
  rw [hT, hz]
  exact a1
theorem q_aastS (C : Cx G p s m c cc own nL) (hP : Hp G u s H locs) {a : Nat} {i : Int32} (j : Nat) (hj : j < 36) (hk : kd G a = 23) (hin : vp_in i (ln G a)) (hdg : decode cc pc = .ok (.aastore, 1))
    (kk : ∀ (H1 : Heap) (locs1 : List Loc), Hp G (sR u a i.toNatClampNeg (j + 1)) s H1 locs1 → W p l e R s m args below meth c H1 locs1 cells slots Q (F0 m (pc + 1) ls rest)) : W p l e R s m args below meth c H locs cells slots Q (F0 m pc ls (.ref (gS G j) :: .int i :: .ref a :: rest)) := by
  obtain ⟨cell, r1, r2, r3⟩ := C.recvS hP hj
  obtain ⟨hx, hb, hown, -, -, hK, -, -, hly, -, hz⟩ := C
  have he := wl_at hly (u := u) (a := a) (by omega)
  rw [ce_s hk] at he
  obtain ⟨kC, hkC, -⟩ := Vm.findClass_spec r3
  refine va_astqM hx hb hK hP.1 (wl_D G u) hP.2 (a - gz G) 10 he rfl (E := "java/lang/String") ⟨cell, r1, r2, ⟨kC, hkC⟩, fun comp h => by cases Option.some.inj (h.symm.trans r3); exact va_asg _ _⟩ hin hdg (fun H1 locs1 h1 h2 h3 => ?_)
  rw [wl_set (u' := sR u a i.toNatClampNeg (j + 1)) (hly a (by omega)).1 (hly a (by omega)).2 (by rw [ce_s hk, show va_up (fun j => fs G (u.2.1 a j)) i.toNatClampNeg (some (gS G j)) = (fun k => fs G ((sR u a i.toNatClampNeg (j + 1)).2.1 a k)) by funext k; simp only [va_up, sR]; by_cases q : k = i.toNatClampNeg <;> simp [q, fs]]) (fun b hb => sR_ne hb)] at h1
  exact kk H1 locs1 ⟨h1, h3⟩
end QK2
theorem Hp.cte {G : Gx} {u : Mm} {s : State} {H : Heap} {locs : List Loc} {n0 a b : Nat} (h : a = b) (hP : Hp (cut G (n0 + a)) u s H locs) : Hp (cut G (n0 + b)) u s H locs := by subst h; exact hP
