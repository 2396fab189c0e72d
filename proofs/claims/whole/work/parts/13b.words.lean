/-! WORDS of the calls: what a call needs -/
theorem li_0 : (0 : Int32).toInt = 0 := by decide
theorem li_1 : (1 : Int32).toInt = 1 := by decide
theorem li_2 : (2 : Int32).toInt = 2 := by decide
theorem li_3 : (3 : Int32).toInt = 3 := by decide
theorem li_4 : (4 : Int32).toInt = 4 := by decide
theorem li_5 : (5 : Int32).toInt = 5 := by decide
theorem li_6 : (6 : Int32).toInt = 6 := by decide
theorem li_8 : (8 : Int32).toInt = 8 := by decide
theorem li_10 : (10 : Int32).toInt = 10 := by decide
theorem li_12 : (12 : Int32).toInt = 12 := by decide
theorem li_20 : (20 : Int32).toInt = 20 := by decide
theorem li_40 : (40 : Int32).toInt = 40 := by decide
theorem li_41 : (41 : Int32).toInt = 41 := by decide
theorem li_50 : (50 : Int32).toInt = 50 := by decide
theorem li_63 : (63 : Int32).toInt = 63 := by decide
theorem li_64 : (64 : Int32).toInt = 64 := by decide
theorem li_79 : (79 : Int32).toInt = 79 := by decide
theorem li_80 : (80 : Int32).toInt = 80 := by decide
theorem li_99 : (99 : Int32).toInt = 99 := by decide
theorem li_100 : (100 : Int32).toInt = 100 := by decide
theorem li_150 : (150 : Int32).toInt = 150 := by decide
theorem li_700 : (700 : Int32).toInt = 700 := by decide
theorem li_9999 : (9999 : Int32).toInt = 9999 := by decide
theorem li_m1 : (-1 : Int32).toInt = -1 := by decide
/-- a number below n -/
def inN (n : Nat) (x : Int32) : Prop := ∃ k, k < n ∧ x = nI k
theorem inN_iff {n : Nat} {x : Int32} (hn : n < 2 ^ 31) : inN n x ↔ 0 ≤ x.toInt ∧ x.toInt < n := by
  constructor
  · rintro ⟨k, hk, rfl⟩
    rw [nI_toInt (by omega)]
    omega
  · intro h
    obtain ⟨k, hk, e⟩ := vp_in_of (vp_in_iff.mpr h) hn
    exact ⟨k, hk, e⟩
theorem nI_inj {a b : Nat} (ha : a < 2 ^ 31) (hb : b < 2 ^ 31) (h : nI a = nI b) : a = b := (nI_eq ha hb).mp h
section NEED
variable {G : Gx} {u : Mm}
theorem c_isPlace {Q : Int32 → Mm → Prop} {x y : Int32} (h1 : btw 0 40 x → btw 0 40 y → Q 1 u) (h0 : ¬ (btw 0 40 x ∧ btw 0 40 y) → Q 0 u) : V_X11_isPlace G x y u Q := by
  unfold V_X11_isPlace
  refine ⟨fun c => h0 (fun g => ?_), fun c1 => ⟨fun c => h0 (fun g => ?_), fun c2 => ⟨fun c => h0 (fun g => ?_), fun c3 => ⟨fun c => h0 (fun g => ?_), fun c4 => h1 ?_ ?_⟩⟩⟩⟩
  all_goals (simp only [fa_lt, fa_le, li_0, li_41] at *; unfold btw at *; omega)
theorem c_isYear {Q : Int32 → Mm → Prop} {x : Int32} (h1 : btw 0 99 x → Q 1 u) (h0 : ¬ btw 0 99 x → Q 0 u) : V_X11_isYear G x u Q := by
  unfold V_X11_isYear
  refine ⟨fun c => h0 (fun g => ?_), fun c1 => ⟨fun c => h0 (fun g => ?_), fun c2 => h1 ?_⟩⟩
  all_goals (simp only [fa_lt, fa_le, li_0, li_100] at *; unfold btw at *; omega)
theorem c_isTone {Q : Int32 → Mm → Prop} {x : Int32} (h1 : ∀ t, t < 3 → x = nI t → Q 1 u) (h0 : ¬ inN 3 x → Q 0 u) : V_X11_isTone G x u Q := by
  unfold V_X11_isTone
  refine ⟨fun c => h0 (fun g => ?_), fun c1 => ⟨fun c => h0 (fun g => ?_), fun c2 => ?_⟩⟩
  · rw [inN_iff (by omega)] at g
    simp only [fa_lt, fa_le, li_0, li_3] at *
    omega
  · rw [inN_iff (by omega)] at g
    simp only [fa_lt, fa_le, li_0, li_3] at *
    omega
  · obtain ⟨t, ht, e⟩ := (inN_iff (n := 3) (x := x) (by omega)).mpr (by simp only [fa_lt, fa_le, li_0, li_3] at c1 c2; omega)
    exact h1 t ht e
theorem c_needPlace {Q : Mm → Prop} {X : String → Mm → Prop} {x y : Int32} (h1 : btw 0 40 x → btw 0 40 y → Q u) (h0 : ¬ (btw 0 40 x ∧ btw 0 40 y) → X "java/util/NoSuchElementException" u) : V_X11_needPlace G x y u Q X :=
  c_isPlace (fun a b => ⟨fun c => absurd c (by decide), fun _ => h1 a b⟩) (fun g => ⟨fun _ => h0 g, fun c => absurd rfl c⟩)
theorem c_needYear {Q : Mm → Prop} {X : String → Mm → Prop} {x : Int32} (h1 : btw 0 99 x → Q u) (h0 : ¬ btw 0 99 x → X "java/util/NoSuchElementException" u) : V_X11_needYear G x u Q X :=
  c_isYear (fun a => ⟨fun c => absurd c (by decide), fun _ => h1 a⟩) (fun g => ⟨fun _ => h0 g, fun c => absurd rfl c⟩)
theorem c_needTone {Q : Mm → Prop} {X : String → Mm → Prop} {x : Int32} (h1 : ∀ t, t < 3 → x = nI t → Q u) (h0 : ¬ inN 3 x → X "java/util/NoSuchElementException" u) : V_X11_needTone G x u Q X :=
  c_isTone (fun t a b => ⟨fun c => absurd c (by decide), fun _ => h1 t a b⟩) (fun g => ⟨fun _ => h0 g, fun c => absurd rfl c⟩)
theorem c_needLand {Q : Nat → Mm → Prop} {X : String → Mm → Prop} {z : Nat} {o : Nat → Nat} {l : Int32} (h : HC0 G u z) (hl : HL u z o) (h1 : ∀ k, k < 6 → l = nI k → Q (lnd z (o k)) u) (h0 : ¬ inN 6 l → X "java/util/NoSuchElementException" u) : V_X11_needLand G z l u Q X := by
  unfold V_X11_needLand V_X11_needLand_10
  refine ⟨fun c => h0 (fun g => ?_), fun c => ⟨fun c2 => ?_, fun c2 => h0 (fun g => ?_)⟩⟩
  · rw [inN_iff (by omega)] at g
    simp only [fa_lt, li_0] at c
    omega
  · obtain ⟨k, hk, e⟩ := (inN_iff (n := 6) (x := l) (by omega)).mpr (by simp only [fa_lt, li_0, li_6] at c c2; omega)
    subst e
    obtain ⟨h00, _, ⟨b1, b2, b3⟩, _⟩ := h
    have q := lnd_bd (z := z) (hl.2.2.1 k (by omega))
    rw [b1, nI_clamp (by omega), hl.1 k hk]
    exact ⟨h00.2, by omega, b2, by rw [b3]; exact vp_in_nI hk (by omega), by omega, h1 k hk rfl⟩
  · rw [inN_iff (by omega)] at g
    simp only [fa_lt, li_6] at c2
    omega
theorem HC0.k {z : Nat} (h : HC0 G u z) : kd G z = 11 := h.1.2
theorem HC0.bk {z : Nat} (h : HC0 G u z) : gR u z 2 = z + 172 ∧ BR G u (z + 172) := h.2.2.2.1
theorem HC0.kp {z : Nat} (h : HC0 G u z) : gR u z 3 = z + 238 ∧ BR G u (z + 238) := h.2.2.2.2.1
theorem HC0.sc {z : Nat} (h : HC0 G u z) : gR u z 5 = z + 304 ∧ SR G u (z + 304) := h.2.2.2.2.2.1
theorem HC0.ec {z : Nat} (h : HC0 G u z) : gR u z 7 = z + 452 ∧ ER G u (z + 452) := h.2.2.2.2.2.2.2.1
theorem HC0.pl {z : Nat} (h : HC0 G u z) : gR u z 8 = z + 458 ∧ PR G u (z + 458) := h.2.2.2.2.2.2.2.2.1
theorem HC0.ch {z : Nat} (h : HC0 G u z) : gR u z 9 = z + 462 ∧ KR G u (z + 462) := h.2.2.2.2.2.2.2.2.2.1
theorem HC0.lr {z : Nat} (h : HC0 G u z) {j : Nat} (hj : j < 7) : LR G u (lnd z j) := h.2.2.2.2.2.2.2.2.2.2.2.2 j hj
theorem HC0.fx {P : Nat → Nat → Prop} {v : Mm} {z : Nat} (h : HC0 G u z) (hf : Fx P u v) : HC0 G v z := h.keep (fun a j _ _ _ _ _ _ => hf.gR a j)
theorem c_needStation {Q : Nat → Mm → Prop} {X : String → Mm → Prop} {z : Nat} {B : Bk} {p : Int32} (h : HC0 G u z) (hB : BC u (z + 172) B) (hk : okB B) (h1 : ∀ s, s < bkN B → p = nI s → Q (z + 172 + 6 + 3 * s) u) (h0 : ¬ inN (bkN B) p → X "java/util/NoSuchElementException" u) : V_X11_needStation G z p u Q X := by
  obtain ⟨c1, _, b1, _, _, _, ⟨b5, b6, b7⟩, _, b11⟩ := h.bk
  have n20 := hk.1
  unfold V_X11_needStation V_X11_needStation_15
  rw [c1, b7, hB.1]
  refine ⟨fun c => h0 (fun g => ?_), fun c => ⟨h.k, by omega, b1, fun c2 => ?_, fun c2 => h0 (fun g => ?_)⟩⟩
  · rw [inN_iff (by omega)] at g
    simp only [fa_lt, li_0] at c
    omega
  · obtain ⟨s, hs, e⟩ := (inN_iff (n := bkN B) (x := p) (by omega)).mpr (by rw [fa_lt, nI_toInt (by omega)] at c2; simp only [fa_lt, li_0] at c; omega)
    subst e
    rw [nI_clamp (by omega), (b11 s (by omega)).1]
    exact ⟨by omega, b5, by rw [b6]; exact vp_in_nI (by omega) (by omega), by omega, h1 s hs rfl⟩
  · rw [inN_iff (by omega)] at g
    rw [fa_lt, nI_toInt (by omega)] at c2
    omega
theorem c_isNamed {Q : Int32 → Mm → Prop} {z s : Nat} {B : Bk} (h : HC0 G u z) (hB : BC u (z + 172) B) (hk : okB B) (hs : s < bkN B) (h1 : bkF B s 0 ≠ -1 → Q 1 u) (h0 : bkF B s 0 = -1 → Q 0 u) : V_X7_isNamed G (z + 172 + 6 + 3 * s) u Q := by
  obtain ⟨_, _, b1, _, _, _, _, _, b11⟩ := h.bk
  have n20 := hk.1
  unfold V_X7_isNamed
  rw [(hB.2.2.1 s hs).1 0 (by omega)]
  exact ⟨(b11 s (by omega)).2.2.1, h0, h1⟩
theorem c_needNamed {Q : Nat → Mm → Prop} {X : String → Mm → Prop} {z : Nat} {B : Bk} {p : Int32} (h : HC0 G u z) (hB : BC u (z + 172) B) (hk : okB B) (h1 : ∀ s, s < bkN B → p = nI s → bkF B s 0 ≠ -1 → Q (z + 172 + 6 + 3 * s) u) (h0 : ¬ (inN (bkN B) p ∧ bkF B p.toNatClampNeg 0 ≠ -1) → X "java/util/NoSuchElementException" u) : V_X11_needNamed G z p u Q X := by
  have n20 := hk.1
  refine ⟨h.k, c_needStation h hB hk (fun s hs e => ⟨(h.bk.2.2.2.2.2.2.2.2 s (by omega)).2.2.1, c_isNamed h hB hk hs (fun g => ⟨fun c => absurd c (by decide), fun _ => h1 s hs e g⟩) (fun g => ⟨fun _ => h0 (fun q => ?_), fun c => absurd rfl c⟩)⟩) (fun g => h0 (fun q => g q.1))⟩
  rw [e, nI_clamp (by omega)] at q
  exact q.2 g
/-! the model -/
theorem m_isIn {Q : Int32 → Mm → Prop} {x a b : Int32} (h1 : a.toInt ≤ x.toInt → x.toInt ≤ b.toInt → Q 1 u) (h0 : ¬ (a.toInt ≤ x.toInt ∧ x.toInt ≤ b.toInt) → Q 0 u) : V_X12_isIn G x a b u Q := by
  unfold V_X12_isIn
  simp only [fa_lt]
  exact ⟨fun c => h0 (by omega), fun c => ⟨fun c2 => h0 (by omega), fun c2 => h1 (by omega) (by omega)⟩⟩
theorem m_isLand {Q : Int32 → Mm → Prop} {l : Int32} (h1 : ∀ k, k < 6 → l = nI k → Q 1 u) (h0 : ¬ inN 6 l → Q 0 u) : V_X12_isLand G l u Q := by
  refine m_isIn (fun a b => ⟨Or.inr rfl, ?_⟩) (fun g => ⟨Or.inl rfl, h0 (fun q => g ?_)⟩)
  · rw [li_0] at a
    rw [li_5] at b
    obtain ⟨k, hk, e⟩ := (inN_iff (n := 6) (x := l) (by omega)).mpr (by omega)
    exact h1 k hk e
  · rw [inN_iff (by omega)] at q
    rw [li_0, li_5]
    omega
theorem m_isPlace {Q : Int32 → Mm → Prop} {x y : Int32} (h1 : btw 0 40 x → btw 0 40 y → Q 1 u) (h0 : ¬ (btw 0 40 x ∧ btw 0 40 y) → Q 0 u) : V_X12_isPlace G x y u Q := by
  refine m_isIn (fun a b => ⟨fun c => absurd c (by decide), fun _ => m_isIn (fun a2 b2 => ⟨fun c => absurd c (by decide), fun _ => h1 ⟨a, b⟩ ⟨a2, b2⟩⟩) (fun g => ⟨fun _ => h0 (fun q => g q.2), fun c => absurd rfl c⟩)⟩) (fun g => ⟨fun _ => h0 (fun q => g q.1), fun c => absurd rfl c⟩)
theorem m_isYear {Q : Int32 → Mm → Prop} {x : Int32} (h1 : btw 0 99 x → Q 1 u) (h0 : ¬ btw 0 99 x → Q 0 u) : V_X12_isYear G x u Q :=
  m_isIn (fun a b => ⟨Or.inr rfl, h1 ⟨a, b⟩⟩) (fun g => ⟨Or.inl rfl, h0 (fun q => g q)⟩)
theorem m_isTone {Q : Int32 → Mm → Prop} {x : Int32} (h1 : ∀ t, t < 3 → x = nI t → Q 1 u) (h0 : ¬ inN 3 x → Q 0 u) : V_X12_isTone G x u Q := by
  refine m_isIn (fun a b => ⟨Or.inr rfl, ?_⟩) (fun g => ⟨Or.inl rfl, h0 (fun q => g ?_)⟩)
  · rw [li_0] at a
    rw [li_2] at b
    obtain ⟨k, hk, e⟩ := (inN_iff (n := 3) (x := x) (by omega)).mpr (by omega)
    exact h1 k hk e
  · rw [inN_iff (by omega)] at q
    rw [li_0, li_2]
    omega
theorem nI_pm {n : Nat} (hn : n < 2 ^ 30) : (nI n - 1).toInt = (n : Int) - 1 := pk_sub_toInt (a := n) (b := 1) hn (by omega)
theorem m_isInN {Q : Int32 → Mm → Prop} {x : Int32} {n : Nat} (hn : n < 2 ^ 30) (h1 : ∀ k, k < n → x = nI k → Q 1 u) (h0 : ¬ inN n x → Q 0 u) : V_X12_isIn G x (0 : Int32) (nI n - (1 : Int32)) u Q := by
  refine m_isIn (fun a b => ?_) (fun g => h0 (fun q => g ?_))
  · rw [li_0] at a
    rw [nI_pm hn] at b
    obtain ⟨k, hk, e⟩ := (inN_iff (n := n) (x := x) (by omega)).mpr (by omega)
    exact h1 k hk e
  · rw [inN_iff (by omega)] at q
    rw [li_0, nI_pm hn]
    omega
theorem m_isStation {Q : Int32 → Mm → Prop} {m : Nat} {n : Nat} {p : Int32} (hk : kd G m = 12) (hn : n ≤ 20) (hN : gI u m 27 = nI n) (h1 : ∀ s, s < n → p = nI s → Q 1 u) (h0 : ¬ inN n p → Q 0 u) : V_X12_isStation G m p u Q := by
  unfold V_X12_isStation
  rw [hN]
  exact ⟨hk, m_isInN (by omega) (fun s a b => ⟨Or.inr rfl, h1 s a b⟩) (fun g => ⟨Or.inl rfl, h0 g⟩)⟩
theorem m_isNamed {Q : Int32 → Mm → Prop} {m s : Nat} {B : Bk} (hH : HM G u m) (hB : BM u m 16 10 27 28 B) (hk : okB B) (hs : s < bkN B) (h1 : bkF B s 0 ≠ -1 → Q 1 u) (h0 : bkF B s 0 = -1 → Q 0 u) : V_X12_isNamed G m (nI s) u Q := by
  obtain ⟨⟨m0, mk, _⟩, _, ⟨_, _, ⟨a1, a2, a3⟩, _⟩, _⟩ := hH
  have n20 := hk.1
  have e := (hB.2.2.1 s hs).1 0 (by omega)
  unfold V_X12_isNamed
  rw [a3, a1, a2, nI_clamp (by omega)]
  rw [Nat.add_zero] at e
  rw [e]
  exact ⟨mk, by omega, rfl, vp_in_nI (by omega) (by omega), h0, h1⟩
theorem m_fail {Q : Int32 → Mm → Prop} {m : Nat} {k : Int32} (hk : kd G m = 12) (h : Q 0 (sI u m 1 k)) : V_X12_fail G m k u Q := ⟨hk, fun w hw => by rw [hw]; exact h⟩
end NEED
/-- the model's code, told anew -/
theorem Fx.code {u v : Mm} {m : Nat} {c : Int32} (h : Fx (msc m) u v) : Fx (msc m) u (sI v m 1 c) := h.trans (Fx.put (Or.inl ⟨rfl, Or.inl rfl⟩))
theorem Fx.code0 {u : Mm} {m : Nat} {c : Int32} : Fx (msc m) u (sI u m 1 c) := Fx.put (Or.inl ⟨rfl, Or.inl rfl⟩)
theorem gI_code {u : Mm} {m : Nat} {c : Int32} : gI (sI u m 1 c) m 1 = c := by rw [gI_sI, if_pos ⟨rfl, rfl⟩]
theorem inT_msc {m a j : Nat} (h : inT m a j) : msc m a j := by unfold inT at h; unfold msc; omega
theorem RM.put {G : Gx} {u : Mm} {m : Nat} {S : St} {c : Int32} (h : RM G u m S) : RM G (sI u m 1 c) m S := h.fx (Fx.code0 (u := u) (c := c)) (fun a j q => Or.inl q)
