/-! THE WORLD: one memory of ints, references (0: none) and longs by address and place; its layout is fixed (kind and length of each address) -/
abbrev Mm : Type := (Nat → Nat → Int32) × (Nat → Nat → Nat) × (Nat → Nat → Int64)
def gI (u : Mm) (a j : Nat) : Int32 := u.1 a j
def gR (u : Mm) (a j : Nat) : Nat := u.2.1 a j
def gL (u : Mm) (a j : Nat) : Int64 := u.2.2 a j
def sI (u : Mm) (a j : Nat) (v : Int32) : Mm := (fun b k => if b = a ∧ k = j then v else u.1 b k, u.2.1, u.2.2)
def sR (u : Mm) (a j v : Nat) : Mm := (u.1, fun b k => if b = a ∧ k = j then v else u.2.1 b k, u.2.2)
def sL (u : Mm) (a j : Nat) (v : Int64) : Mm := (u.1, u.2.1, fun b k => if b = a ∧ k = j then v else u.2.2 b k)
/-- a copy of n ints from place sp of a to place dp of b -/
def sC (u : Mm) (a sp b dp n : Nat) : Mm := (fun c k => if c = b ∧ dp ≤ k ∧ k < dp + n then u.1 a (sp + (k - dp)) else u.1 c k, u.2.1, u.2.2)
/-- base address, number of cells, the array kinds' classes, the kit's own numbers, kind and length by address, the addresses of the texts and of their bytes -/
abbrev Gx : Type := Nat × Nat × (Nat → ClassId) × va_G × (Nat → Nat × Nat) × (Nat → Nat) × (Nat → Nat)
def gz (G : Gx) : Nat := G.1
def gN (G : Gx) : Nat := G.2.1
def gA (G : Gx) : Nat → ClassId := G.2.2.1
def gD (G : Gx) : va_G := G.2.2.2.1
def kd (G : Gx) (a : Nat) : Nat := (G.2.2.2.2.1 a).1
def ln (G : Gx) (a : Nat) : Nat := (G.2.2.2.2.1 a).2
def gS (G : Gx) : Nat → Nat := G.2.2.2.2.2.1
def gV (G : Gx) : Nat → Nat := G.2.2.2.2.2.2
def fr (n : Nat) : Option Nat := if n = 0 then none else some n
/-- in the row of texts stands the number of a text, and 1 -/
def fs (G : Gx) (n : Nat) : Option Nat := if n = 0 then none else some (gS G (n - 1))
theorem fr_ne {n : Nat} (h : n ≠ 0) : va_rf (fr n) = .ref n := by simp [fr, h, va_rf]
/-- fields of a kind, and which are references -/
def nf (ci : Nat) : Nat := [5, 8, 5, 7, 8, 8, 9, 7, 12, 5, 5, 12, 58].getD ci 0
def rfs : List (List Nat) := [[], [0, 2, 3, 5, 6], [0, 1, 2, 3, 4], [1, 2, 3, 4, 6], [0, 1, 2], [1, 3, 4], [3, 4, 5, 6, 7, 8], [5, 6], [0, 3], [], [4], [0, 1, 2, 3, 5, 6, 7, 8, 9, 10, 11], [0, 2, 3, 4, 5, 6, 7, 8, 9, 10, 11, 22, 23, 24, 25, 29, 30, 31, 32, 33, 34, 35, 36, 37, 38, 39, 40, 43, 44, 48, 49, 50, 51, 52, 53, 54, 55, 56, 57]]
def rf (ci j : Nat) : Bool := (rfs.getD ci []).contains j
def flds (ci : Nat) (u : Mm) (a : Nat) : List Value := (List.range (nf ci)).map fun j => if rf ci j then va_rf (fr (u.2.1 a j)) else .int (u.1 a j)
/-- kinds: 0 .. 12 objects, 13 int[], 14 byte[], 15 long[], from 16 on arrays of references -/
def ce (G : Gx) (u : Mm) (a : Nat) : va_E :=
  if kd G a < 13 then .inr (kd G a, flds (kd G a) u a)
  else if kd G a < 15 then .inl (gA G (kd G a), ln G a, .inl (u.1 a))
  else if kd G a = 15 then .inl (gA G 15, ln G a, .inr (.inl (u.2.2 a)))
  else .inl (gA G (kd G a), ln G a, .inr (.inr (.inr (.inr (fun j => if kd G a = 23 then fs G (u.2.1 a j) else fr (u.2.1 a j))))))
def wl (G : Gx) (u : Mm) : va_W := (List.range (gN G)).map fun k => (gz G + k, ce G u (gz G + k))
def tysG (G : Gx) : List (ClassId × FieldType) := [(gA G 13, .int), (gA G 14, .byte), (gA G 15, .long), (gA G 16, .object "ClapValley$Land"), (gA G 17, .object "ClapValley$Wall"), (gA G 18, .object "ClapValley$Barn"), (gA G 19, .object "ClapValley$Wood"), (gA G 20, .object "ClapValley$Scene"), (gA G 21, .object "ClapValley$Station"), (gA G 22, .array .int), (gA G 23, .object "java/lang/String")]
def ag (G : Gx) : Nat → Prop := fun q => gz G ≤ q
/-- the layout lies within the cells -/
def lyG (G : Gx) : Prop := ∀ a, kd G a < 24 → gz G ≤ a ∧ a < gz G + gN G
theorem wl_get {G : Gx} {u : Mm} {a : Nat} (h1 : gz G ≤ a) (h2 : a < gz G + gN G) : (wl G u)[a - gz G]? = some (a, ce G u a) := by
  unfold wl
  rw [List.getElem?_map, List.getElem?_range (by omega)]
  simp only [Option.map_some]
  rw [show gz G + (a - gz G) = a by omega]
theorem wl_at {G : Gx} (hl : lyG G) {u : Mm} {a : Nat} (h : kd G a < 24) : (wl G u)[a - gz G]? = some (a, ce G u a) := wl_get (hl a h).1 (hl a h).2
theorem wl_set {G : Gx} {u u' : Mm} {a : Nat} (h1 : gz G ≤ a) (h2 : a < gz G + gN G) {e : va_E} (he : e = ce G u' a) (ho : ∀ b, b ≠ a → ce G u' b = ce G u b) : (wl G u).set (a - gz G) (a, e) = wl G u' := by
  subst he
  apply List.ext_getElem?
  intro i
  unfold wl
  rw [List.getElem?_set]
  simp only [List.length_map, List.length_range, List.getElem?_map]
  by_cases hi : a - gz G = i
  · subst hi
    rw [if_pos rfl, if_pos (by omega), List.getElem?_range (by omega)]
    simp only [Option.map_some]
    rw [show gz G + (a - gz G) = a by omega]
  · rw [if_neg hi]
    rcases Nat.lt_or_ge i (gN G) with q | q
    · rw [List.getElem?_range q]
      simp only [Option.map_some]
      rw [ho (gz G + i) (by omega)]
    · rw [List.getElem?_eq_none (by simp; exact q)]
      rfl
theorem wl_D (G : Gx) (u : Mm) : va_D (ag G) (wl G u) := by
  unfold wl va_D ag
  constructor
  · intro i j p q hi hj he
    rw [List.getElem?_map] at hi hj
    rcases Nat.lt_or_ge i (gN G) with a | a
    · rcases Nat.lt_or_ge j (gN G) with b | b
      · rw [List.getElem?_range a] at hi
        rw [List.getElem?_range b] at hj
        simp only [Option.map_some, Option.some.injEq] at hi hj
        rw [← hi, ← hj] at he
        simp only at he
        omega
      · rw [List.getElem?_eq_none (by simp; exact b)] at hj; cases hj
    · rw [List.getElem?_eq_none (by simp; exact a)] at hi; cases hi
  · intro k q hk
    rw [List.getElem?_map] at hk
    rcases Nat.lt_or_ge k (gN G) with a | a
    · rw [List.getElem?_range a] at hk
      simp only [Option.map_some, Option.some.injEq] at hk
      rw [← hk]
      simp only
      omega
    · rw [List.getElem?_eq_none (by simp; exact a)] at hk; cases hk
theorem flds_get {ci : Nat} {u : Mm} {a k : Nat} (hk : k < nf ci) : (flds ci u a)[k]? = some (if rf ci k then va_rf (fr (u.2.1 a k)) else .int (u.1 a k)) := by
  unfold flds
  rw [List.getElem?_map, List.getElem?_range hk]
  rfl
theorem flds_len {ci : Nat} {u : Mm} {a : Nat} : (flds ci u a).length = nf ci := by simp [flds]
theorem flds_set {ci : Nat} {u u' : Mm} {a k : Nat} {v : Value} (hk : k < nf ci) (hv : (if rf ci k then va_rf (fr (u'.2.1 a k)) else .int (u'.1 a k)) = v) (h1 : ∀ j, j ≠ k → u'.1 a j = u.1 a j) (h2 : ∀ j, j ≠ k → u'.2.1 a j = u.2.1 a j) : (flds ci u a).set k v = flds ci u' a := by
  apply List.ext_getElem?
  intro i
  rw [List.getElem?_set]
  by_cases hi : k = i
  · subst hi
    rw [if_pos rfl, flds_len, if_pos hk, flds_get hk, hv]
  · rw [if_neg hi]
    rcases Nat.lt_or_ge i (nf ci) with q | q
    · rw [flds_get q, flds_get q, h1 i (fun e => hi e.symm), h2 i (fun e => hi e.symm)]
    · rw [List.getElem?_eq_none (by rw [flds_len]; exact q), List.getElem?_eq_none (by rw [flds_len]; exact q)]
theorem ce_o {G : Gx} {u : Mm} {a ci : Nat} (h : kd G a = ci) (hc : ci < 13) : ce G u a = .inr (ci, flds ci u a) := by subst h; simp [ce, hc]
theorem ce_i {G : Gx} {u : Mm} {a : Nat} (h : kd G a = 13) : ce G u a = .inl (gA G 13, ln G a, .inl (u.1 a)) := by simp [ce, h]
theorem ce_b {G : Gx} {u : Mm} {a : Nat} (h : kd G a = 14) : ce G u a = .inl (gA G 14, ln G a, .inl (u.1 a)) := by simp [ce, h]
theorem ce_l {G : Gx} {u : Mm} {a : Nat} (h : kd G a = 15) : ce G u a = .inl (gA G 15, ln G a, .inr (.inl (u.2.2 a))) := by simp [ce, h]
theorem ce_r {G : Gx} {u : Mm} {a k : Nat} (h : kd G a = k) (hk : 15 < k) (hk3 : k ≠ 23) : ce G u a = .inl (gA G k, ln G a, .inr (.inr (.inr (.inr (fun j => fr (u.2.1 a j)))))) := by
  subst h
  unfold ce
  rw [if_neg (by omega), if_neg (by omega), if_neg (by omega)]
  simp only [if_neg hk3]
theorem ce_s {G : Gx} {u : Mm} {a : Nat} (h : kd G a = 23) : ce G u a = .inl (gA G 23, ln G a, .inr (.inr (.inr (.inr (fun j => fs G (u.2.1 a j)))))) := by
  unfold ce
  rw [h]
  rfl
theorem sI_ne {G : Gx} {u : Mm} {a j b : Nat} {v : Int32} (h : b ≠ a) : ce G (sI u a j v) b = ce G u b := by
  have e : ∀ k, (sI u a j v).1 b k = u.1 b k := fun k => by simp [sI, h]
  have e1 : (sI u a j v).1 b = u.1 b := funext e
  unfold ce flds
  rw [e1]
  rfl
theorem sR_ne {G : Gx} {u : Mm} {a j b v : Nat} (h : b ≠ a) : ce G (sR u a j v) b = ce G u b := by
  have e : ∀ k, (sR u a j v).2.1 b k = u.2.1 b k := fun k => by simp [sR, h]
  have e1 : (sR u a j v).2.1 b = u.2.1 b := funext e
  unfold ce flds
  rw [e1]
  rfl
theorem sL_ne {G : Gx} {u : Mm} {a j b : Nat} {v : Int64} (h : b ≠ a) : ce G (sL u a j v) b = ce G u b := by
  have e : ∀ k, (sL u a j v).2.2 b k = u.2.2 b k := fun k => by simp [sL, h]
  have e1 : (sL u a j v).2.2 b = u.2.2 b := funext e
  unfold ce flds
  rw [e1]
  rfl
theorem sC_ne {G : Gx} {u : Mm} {a sp d dp n b : Nat} (h : b ≠ d) : ce G (sC u a sp d dp n) b = ce G u b := by
  have e : ∀ k, (sC u a sp d dp n).1 b k = u.1 b k := fun k => by simp [sC, h]
  have e1 : (sC u a sp d dp n).1 b = u.1 b := funext e
  unfold ce flds
  rw [e1]
  rfl
-- reading behind writing
theorem gI_sI (u : Mm) (a j b k : Nat) (v : Int32) : gI (sI u a j v) b k = if b = a ∧ k = j then v else gI u b k := rfl
theorem gR_sI (u : Mm) (a j b k : Nat) (v : Int32) : gR (sI u a j v) b k = gR u b k := rfl
theorem gL_sI (u : Mm) (a j b k : Nat) (v : Int32) : gL (sI u a j v) b k = gL u b k := rfl
theorem gI_sR (u : Mm) (a j b k v : Nat) : gI (sR u a j v) b k = gI u b k := rfl
theorem gR_sR (u : Mm) (a j b k v : Nat) : gR (sR u a j v) b k = if b = a ∧ k = j then v else gR u b k := rfl
theorem gL_sR (u : Mm) (a j b k v : Nat) : gL (sR u a j v) b k = gL u b k := rfl
theorem gI_sL (u : Mm) (a j b k : Nat) (v : Int64) : gI (sL u a j v) b k = gI u b k := rfl
theorem gR_sL (u : Mm) (a j b k : Nat) (v : Int64) : gR (sL u a j v) b k = gR u b k := rfl
theorem gL_sL (u : Mm) (a j b k : Nat) (v : Int64) : gL (sL u a j v) b k = if b = a ∧ k = j then v else gL u b k := rfl
theorem gI_sC (u : Mm) (a sp d dp n b k : Nat) : gI (sC u a sp d dp n) b k = if b = d ∧ dp ≤ k ∧ k < dp + n then gI u a (sp + (k - dp)) else gI u b k := rfl
theorem gR_sC (u : Mm) (a sp d dp n b k : Nat) : gR (sC u a sp d dp n) b k = gR u b k := rfl
theorem gL_sC (u : Mm) (a sp d dp n b k : Nat) : gL (sC u a sp d dp n) b k = gL u b k := rfl
theorem sI_same {u : Mm} {a j : Nat} {v : Int32} (h : gI u a j = v) : sI u a j v = u := by
  unfold sI
  have : (fun b k => if b = a ∧ k = j then v else u.1 b k) = u.1 := by
    funext b k
    split
    · rename_i q; rw [q.1, q.2]; exact h.symm
    · rfl
  rw [this]
