/-! THE START: the layout of the two objects, and the law out of a predicate that speaks of memory alone -/
def layL : List (Nat × Nat) := [(11, 12), (8, 12), (14, 700), (4, 8), (17, 6), (9, 5), (9, 5), (9, 5), (9, 5), (9, 5), (9, 5), (18, 6), (0, 5), (0, 5), (0, 5), (0, 5), (0, 5), (0, 5), (19, 4), (10, 5), (13, 3), (10, 5), (13, 3), (10, 5), (13, 3), (10, 5), (13, 3), (16, 6), (4, 8), (17, 6), (9, 5), (9, 5), (9, 5), (9, 5), (9, 5), (9, 5), (18, 6), (0, 5), (0, 5), (0, 5), (0, 5), (0, 5), (0, 5), (19, 4), (10, 5), (13, 3), (10, 5), (13, 3), (10, 5), (13, 3), (10, 5), (13, 3), (4, 8), (17, 6), (9, 5), (9, 5), (9, 5), (9, 5), (9, 5), (9, 5), (18, 6), (0, 5), (0, 5), (0, 5), (0, 5), (0, 5), (0, 5), (19, 4), (10, 5), (13, 3), (10, 5), (13, 3), (10, 5), (13, 3), (10, 5), (13, 3), (4, 8), (17, 6), (9, 5), (9, 5), (9, 5), (9, 5), (9, 5), (9, 5), (18, 6), (0, 5), (0, 5), (0, 5), (0, 5), (0, 5), (0, 5), (19, 4), (10, 5), (13, 3), (10, 5), (13, 3), (10, 5), (13, 3), (10, 5), (13, 3), (4, 8), (17, 6), (9, 5), (9, 5), (9, 5), (9, 5), (9, 5), (9, 5), (18, 6), (0, 5), (0, 5), (0, 5), (0, 5), (0, 5), (0, 5), (19, 4), (10, 5), (13, 3), (10, 5), (13, 3), (10, 5), (13, 3), (10, 5), (13, 3), (4, 8), (17, 6), (9, 5), (9, 5), (9, 5), (9, 5), (9, 5), (9, 5), (18, 6), (0, 5), (0, 5), (0, 5), (0, 5), (0, 5), (0, 5), (19, 4), (10, 5), (13, 3), (10, 5), (13, 3), (10, 5), (13, 3), (10, 5), (13, 3), (4, 8), (17, 6), (9, 5), (9, 5), (9, 5), (9, 5), (9, 5), (9, 5), (18, 6), (0, 5), (0, 5), (0, 5), (0, 5), (0, 5), (0, 5), (19, 4), (10, 5), (13, 3), (10, 5), (13, 3), (10, 5), (13, 3), (10, 5), (13, 3), (1, 8), (13, 8), (13, 8), (13, 4), (21, 20), (21, 20), (7, 7), (13, 12), (13, 12), (7, 7), (13, 12), (13, 12), (7, 7), (13, 12), (13, 12), (7, 7), (13, 12), (13, 12), (7, 7), (13, 12), (13, 12), (7, 7), (13, 12), (13, 12), (7, 7), (13, 12), (13, 12), (7, 7), (13, 12), (13, 12), (7, 7), (13, 12), (13, 12), (7, 7), (13, 12), (13, 12), (7, 7), (13, 12), (13, 12), (7, 7), (13, 12), (13, 12), (7, 7), (13, 12), (13, 12), (7, 7), (13, 12), (13, 12), (7, 7), (13, 12), (13, 12), (7, 7), (13, 12), (13, 12), (7, 7), (13, 12), (13, 12), (7, 7), (13, 12), (13, 12), (7, 7), (13, 12), (13, 12), (7, 7), (13, 12), (13, 12), (1, 8), (13, 8), (13, 8), (13, 4), (21, 20), (21, 20), (7, 7), (13, 12), (13, 12), (7, 7), (13, 12), (13, 12), (7, 7), (13, 12), (13, 12), (7, 7), (13, 12), (13, 12), (7, 7), (13, 12), (13, 12), (7, 7), (13, 12), (13, 12), (7, 7), (13, 12), (13, 12), (7, 7), (13, 12), (13, 12), (7, 7), (13, 12), (13, 12), (7, 7), (13, 12), (13, 12), (7, 7), (13, 12), (13, 12), (7, 7), (13, 12), (13, 12), (7, 7), (13, 12), (13, 12), (7, 7), (13, 12), (13, 12), (7, 7), (13, 12), (13, 12), (7, 7), (13, 12), (13, 12), (7, 7), (13, 12), (13, 12), (7, 7), (13, 12), (13, 12), (7, 7), (13, 12), (13, 12), (7, 7), (13, 12), (13, 12), (6, 9), (13, 6), (13, 6), (13, 6), (13, 6), (13, 6), (13, 6), (20, 20), (6, 9), (13, 6), (13, 6), (13, 6), (13, 6), (13, 6), (13, 6), (6, 9), (13, 6), (13, 6), (13, 6), (13, 6), (13, 6), (13, 6), (6, 9), (13, 6), (13, 6), (13, 6), (13, 6), (13, 6), (13, 6), (6, 9), (13, 6), (13, 6), (13, 6), (13, 6), (13, 6), (13, 6), (6, 9), (13, 6), (13, 6), (13, 6), (13, 6), (13, 6), (13, 6), (6, 9), (13, 6), (13, 6), (13, 6), (13, 6), (13, 6), (13, 6), (6, 9), (13, 6), (13, 6), (13, 6), (13, 6), (13, 6), (13, 6), (6, 9), (13, 6), (13, 6), (13, 6), (13, 6), (13, 6), (13, 6), (6, 9), (13, 6), (13, 6), (13, 6), (13, 6), (13, 6), (13, 6), (6, 9), (13, 6), (13, 6), (13, 6), (13, 6), (13, 6), (13, 6), (6, 9), (13, 6), (13, 6), (13, 6), (13, 6), (13, 6), (13, 6), (6, 9), (13, 6), (13, 6), (13, 6), (13, 6), (13, 6), (13, 6), (6, 9), (13, 6), (13, 6), (13, 6), (13, 6), (13, 6), (13, 6), (6, 9), (13, 6), (13, 6), (13, 6), (13, 6), (13, 6), (13, 6), (6, 9), (13, 6), (13, 6), (13, 6), (13, 6), (13, 6), (13, 6), (6, 9), (13, 6), (13, 6), (13, 6), (13, 6), (13, 6), (13, 6), (6, 9), (13, 6), (13, 6), (13, 6), (13, 6), (13, 6), (13, 6), (6, 9), (13, 6), (13, 6), (13, 6), (13, 6), (13, 6), (13, 6), (6, 9), (13, 6), (13, 6), (13, 6), (13, 6), (13, 6), (13, 6), (6, 9), (13, 6), (13, 6), (13, 6), (13, 6), (13, 6), (13, 6), (3, 7), (13, 16), (13, 16), (13, 16), (13, 4), (13, 16), (5, 8), (13, 82), (13, 3), (13, 3), (2, 5), (22, 6), (13, 16), (13, 16), (13, 16), (13, 16), (13, 16), (13, 16), (13, 6), (13, 48), (13, 64), (13, 64), (13, 16), (13, 16), (12, 58), (23, 6), (13, 7), (13, 7), (13, 7), (13, 7), (13, 7), (13, 280), (13, 280), (13, 196), (13, 4), (13, 700), (13, 80), (13, 80), (13, 80), (13, 80), (13, 20), (13, 20), (13, 20), (13, 20), (13, 20), (13, 240), (13, 240), (13, 8), (13, 8), (13, 1640), (13, 20), (13, 100000), (13, 48), (13, 64), (13, 20), (13, 20), (13, 20), (13, 20), (13, 20), (13, 240), (13, 240), (13, 8), (13, 8), (13, 4), (15, 1)]
/-- a world of this layout -/
def okG (G : Gx) : Prop := gN G = 517 ∧ 0 < gz G ∧ (∀ a, kd G a < 24 → gz G ≤ a ∧ a < gz G + 517) ∧ ∀ k, k < 517 → kd G (gz G + k) = (layL.getD k (99, 0)).1 ∧ ln G (gz G + k) = (layL.getD k (99, 0)).2
def u00 : Mm := (fun _ _ => 0, fun _ _ => 0, fun _ _ => 0)
/-- what must hold of memory, from the law's entry on -/
def V_start (G : Gx) (b L : Nat) (xs : Nat → Int32) : Prop :=
  V_X11_init G (gz G + 0) 1 u00 (fun u1 => blk u1 (gz G + 476) ∧ V_X12_init G (gz G + 476) 477 u1 (fun u2 => blk u2 (gz G + 516) ∧ V_L_law_23 G b L xs 513 (gz G + 0) (gz G + 476) (gz G + 516) 0 u2))
theorem layL_lt : ∀ k, k < 517 → (layL.getD k (99, 0)).1 < 24 := by decide +kernel
theorem wl_full {G : Gx} (h : okG G) (u : Mm) : wl (cut G 517) u = wl G u := by
  rw [wl_cut]
  unfold wl
  rw [h.1]
set_option maxHeartbeats 4000000 in
set_option maxRecDepth 100000 in
theorem start_walk {p : Program} {e : Env} {s : State} {m : MethodId} {below : List Frame} {meth : Method} {c : Code} {l : Launch} (hst : l.stackTraces = false) {b L : Nat} {xs : Nat → Int32} {G : Gx} (hG : okG G) (C0 : Cx (cut G 0) p s m c cL_law RL 7) (hr : meth.sig.returnType = ret) (hlk : meth.locks = false) (hN : ncE s) (hX : va_X b L xs s s.heap) (hbl : b < s.heap.size) (hz0 : gz G = s.heap.size) (hV : V_start G b L xs) : W p l e room_1 s m #[Value.ref b] below meth c s.heap [] 0 0 (lw_Z below #[Value.ref b] s) (entryFrame m ([Value.ref b] : List Value).toArray 7) := by
  have hB : bsG G := fun a ha => (hG.2.2.1 a ha).1
  have hx := C0.1
  have hb := C0.2.1
  have hl := lv_entry ([.ref b]) (n := 7) (Nat.le_of_ble_eq_true rfl)
  rw [lg_entry_eq]
  generalize (lg_sl ([.ref b]) ++ List.replicate (7 - (lg_sl ([.ref b])).length) Slot.unset).toArray = ls at hl ⊢
  have hl : lv_has ls 7 [(0, .ref b)] := hl
  have hP : Hp (cut G (0 + 0)) u00 s s.heap [] := ⟨fun k q h => by rw [wl_cut] at h; simp at h, va_S.rf⟩
  have hn0 : s.heap.size = gz G + 0 := by omega
  have k0 : kd G (gz G + 0) = 11 ∧ ln G (gz G + 0) = 12 := hG.2.2.2 0 (by decide)
  have k1 : kd G (gz G + 476) = 12 ∧ ln G (gz G + 476) = 58 := hG.2.2.2 476 (by decide)
  have k2 : kd G (gz G + 516) = 15 ∧ ln G (gz G + 516) = 1 := hG.2.2.2 516 (by decide)
  refine q_size hB hP hn0 (fun hz => ?_)
  refine q_new hB (C0.cut hB _) hP hz tyX11_ok (lay_X11 C0.hA) rfl (by decide) df_X11 (cl_L_8 C0.hA) (inst_X11 C0.hA) (ini_X11 C0.hA) k0.1 (fun j => ⟨rfl, rfl, rfl⟩) (Nat.le_of_ble_eq_true rfl) (Nat.le_of_ble_eq_true rfl) dL_law_0 (fun H hP => ?_)
  refine W.cs (cells' := 1) (slots' := 12) rfl rfl ?_
  have hP : Hp (cut G (0 + 1)) u00 s H _ := hP
  refine lv_dup hx hb dL_law_3 rfl ?_
  refine q_size hB hP hn0 (fun hz => ?_)
  refine q_calC (q_runI (C0.cut hB _) hP hz (c_X11_init hB hV) (cd_X11_init C0.hA) (ini_X11 C0.hA) (ml_L_68 C0.hA) (im_X11_init C0.hA) rfl hd_X11_init ⟨rfl, rfl⟩ ⟨Nat.le_of_ble_eq_true rfl, Nat.le_of_ble_eq_true rfl⟩ ⟨Nat.le_of_ble_eq_true rfl, Nat.le_of_ble_eq_true rfl⟩ hl.1 rfl (Nat.le_of_ble_eq_true rfl) dL_law_4) hP (fun u1 H locs h hP => ?_)
  refine W.cs (cells' := 476) (slots' := 4375) rfl rfl ?_
  obtain ⟨hb1, h⟩ := h
  refine lv_astore_n (lv' := [(1, .ref (gz G + 0)), (0, .ref b)]) hx hb dL_law_7 rfl hl (by decide) rfl (fun ls hl => ?_)
  have hP : Hp (cut G (0 + 476)) u1 s H locs := hP
  refine q_size hB hP hn0 (fun hz => ?_)
  refine q_new hB (C0.cut hB _) hP hz tyX12_ok (lay_X12 C0.hA) rfl (by decide) df_X12 (cl_L_69 C0.hA) (inst_X12 C0.hA) (ini_X12 C0.hA) (by simpa using k1.1) (by simpa using hb1) (Nat.le_of_ble_eq_true rfl) (Nat.le_of_ble_eq_true rfl) dL_law_8 (fun H hP => ?_)
  refine W.cs (cells' := 477) (slots' := 4433) rfl rfl ?_
  have hP : Hp (cut G (0 + 477)) u1 s H _ := hP
  refine lv_dup hx hb dL_law_11 rfl ?_
  refine q_size hB hP hn0 (fun hz => ?_)
  have h : V_X12_init G (gz G + (0 + 476)) (0 + 477) u1 (fun u2 => blk u2 (gz G + 516) ∧ V_L_law_23 G b L xs 513 (gz G + 0) (gz G + 476) (gz G + 516) 0 u2) := h
  refine q_calC (q_runI (C0.cut hB _) hP hz (c_X12_init hB h) (cd_X12_init C0.hA) (ini_X12 C0.hA) (ml_L_71 C0.hA) (im_X12_init C0.hA) rfl hd_X12_init ⟨rfl, rfl⟩ ⟨Nat.le_of_ble_eq_true rfl, Nat.le_of_ble_eq_true rfl⟩ ⟨Nat.le_of_ble_eq_true rfl, Nat.le_of_ble_eq_true rfl⟩ hl.1 rfl (Nat.le_of_ble_eq_true rfl) dL_law_12) hP (fun u2 H locs h hP => ?_)
  refine W.cs (cells' := 516) (slots' := 109222) rfl rfl ?_
  obtain ⟨hb2, h⟩ := h
  refine lv_astore_n (lv' := [(2, .ref (gz G + (0 + 476))), (1, .ref (gz G + 0)), (0, .ref b)]) hx hb dL_law_15 rfl hl (by decide) rfl (fun ls hl => ?_)
  refine lv_iconst (v := (1 : Int32)) hx hb dL_law_16 (by decide) ?_
  have hP : Hp (cut G (0 + 516)) u2 s H locs := hP
  refine q_size hB hP hn0 (fun hz => ?_)
  refine q_newl (C0.cut hB _) hP hz (by decide) (by decide : (1 : Int32).toNatClampNeg = 1) (by simpa using k2.1) (by simpa using k2.2) (by simpa using hb2) (by decide) (Nat.le_of_ble_eq_true rfl) (Nat.le_of_ble_eq_true rfl) dL_law_17 (fun H hP => ?_)
  refine W.cs (cells' := 517) (slots' := 109223) rfl rfl ?_
  refine lv_astore_n (lv' := [(3, .ref (gz G + (0 + 516))), (2, .ref (gz G + (0 + 476))), (1, .ref (gz G + 0)), (0, .ref b)]) hx hb dL_law_19 rfl hl (by decide) rfl (fun ls hl => ?_)
  refine lv_iconst (v := (0 : Int32)) hx hb dL_law_20 (by decide) ?_
  refine lv_istore (lv' := [(4, .int 0), (3, .ref (gz G + (0 + 516))), (2, .ref (gz G + (0 + 476))), (1, .ref (gz G + 0)), (0, .ref b)]) hx hb dL_law_21 hl (by decide) rfl (fun ls hl => ?_)
  have hP : Hp G u2 s H locs := by
    have h9 : Hp (cut G 517) u2 s H locs := hP
    exact ⟨by have := h9.1; rw [wl_full hG] at this; exact this, h9.2⟩
  have C : Cx G p s m c cL_law RL 7 := by
    obtain ⟨a1, a2, a3, a4, b1, b2, b3, b4, b5, b6, b7⟩ := C0
    exact ⟨a1, a2, a3, a4, b1, b2, b3, b4, fun a ha => by have := hG.2.2.1 a ha; rw [hG.1]; exact this, b6, b7⟩
  have h : V_L_law_23 G b L xs 513 (gz G + 0) (gz G + (0 + 476)) (gz G + (0 + 516)) 0 u2 := h
  exact l_L_law_23 hst C hr hlk hN hX hbl hz0 513 517 109223 (gz G + 0) (gz G + (0 + 476)) (gz G + (0 + 516)) 0 u2 H locs ls (by decide) (by decide) h (lv_sub hl [4, 3, 2, 1, 0] rfl) hP
