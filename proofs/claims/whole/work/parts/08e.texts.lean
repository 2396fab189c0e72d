theorem aL {a b : Cond} {args : Array Value} {s : State} (h : (Cond.and a b).before args s = true) : a.before args s = true := by rw [Cond.before_and, Bool.and_eq_true] at h; exact h.1
theorem aR {a b : Cond} {args : Array Value} {s : State} (h : (Cond.and a b).before args s = true) : b.before args s = true := by rw [Cond.before_and, Bool.and_eq_true] at h; exact h.2
theorem str_0 {A : Nat → Prop} {args : Array Value} {s : State} (h : narrow_1.before args s = true) (hw : (Cond.stringRef (kOwn 0) (kIdx 0) (kTxt 0)).before args s = true) (hA : ∀ a : Nat, a < s.heap.size → ¬ A a) : ∃ a v : Nat, vk_R (kOwn 0) (kIdx 0) (kTxt 0) a s ∧ va_O "java/lang/String" a A s s.heap ∧ va_OF "java/lang/String" "coder" "B" (.int 0) a A s s.heap ∧ va_OF "java/lang/String" "value" "[B" (.ref v) a A s s.heap ∧ va_T .byte v (kLen 0) (fun j => .int ((kByt 0).getD j 0)) A s s.heap := by
  obtain ⟨adK, adV, hS, he⟩ := vk_Sof (args := args) (s := s) (N := 1) (tm := fun _ => Term.string "ClapValley" 351) (len := [12]) (byt := [kByt 0]) (A := A) (fun i hi => by rw [show i = 0 by omega]; decide)
    (fun _ _ => (aR (aR (aR (aR (aL (aR (aL (aR (aL (aL h))))))))))) (fun _ _ => (aL (aL (aL (aR (aR (aL (aR (aL (aL h)))))))))) (fun _ _ => (aL (aR (aL (aL (aR (aR (aL (aR (aL (aL h))))))))))) (fun i hi => by rw [show i = 0 by omega]; exact (aR (aR (aL (aL (aR (aR (aL (aR (aL (aL h)))))))))))
    (fun i hi j hj => by
      rw [show i = 0 by omega] at hj ⊢
      have hj : j < 12 := hj
      rcases (show j = 0 ∨ j = 1 ∨ j = 2 ∨ j = 3 ∨ j = 4 ∨ j = 5 ∨ j = 6 ∨ j = 7 ∨ j = 8 ∨ j = 9 ∨ j = 10 ∨ j = 11 by omega) with r | r | r | r | r | r | r | r | r | r | r | r
      · subst r; exact (aL (aR (aL (aR (aR (aL (aR (aL (aL h)))))))))
      · subst r; exact (aL (aR (aR (aL (aR (aR (aL (aR (aL (aL h))))))))))
      · subst r; exact (aR (aR (aR (aL (aR (aR (aL (aR (aL (aL h))))))))))
      · subst r; exact (aL (aL (aR (aR (aR (aL (aR (aL (aL h)))))))))
      · subst r; exact (aL (aR (aL (aR (aR (aR (aL (aR (aL (aL h))))))))))
      · subst r; exact (aR (aR (aL (aR (aR (aR (aL (aR (aL (aL h))))))))))
      · subst r; exact (aL (aL (aR (aR (aR (aR (aL (aR (aL (aL h))))))))))
      · subst r; exact (aR (aL (aR (aR (aR (aR (aL (aR (aL (aL h))))))))))
      · subst r; exact (aL (aR (aR (aR (aR (aR (aL (aR (aL (aL h))))))))))
      · subst r; exact (aR (aR (aR (aR (aR (aR (aL (aR (aL (aL h))))))))))
      · subst r; exact (aL (aL (aL (aL (aL (aR (aR (aL (aL h)))))))))
      · subst r; exact (aL (aR (aL (aL (aL (aL (aR (aR (aL (aL h)))))))))))
    (fun i j h1 h2 h3 => absurd (show i = j by omega) h3) hA
  exact ⟨adK 0, adV 0, vk_R.of hw (he 0 (by omega)), (hS.1 0 (by omega)).1, (hS.1 0 (by omega)).2.1, (hS.1 0 (by omega)).2.2.1, (hS.1 0 (by omega)).2.2.2⟩
theorem str_1 {A : Nat → Prop} {args : Array Value} {s : State} (h : narrow_1.before args s = true) (hw : (Cond.stringRef (kOwn 1) (kIdx 1) (kTxt 1)).before args s = true) (hA : ∀ a : Nat, a < s.heap.size → ¬ A a) : ∃ a v : Nat, vk_R (kOwn 1) (kIdx 1) (kTxt 1) a s ∧ va_O "java/lang/String" a A s s.heap ∧ va_OF "java/lang/String" "coder" "B" (.int 0) a A s s.heap ∧ va_OF "java/lang/String" "value" "[B" (.ref v) a A s s.heap ∧ va_T .byte v (kLen 1) (fun j => .int ((kByt 1).getD j 0)) A s s.heap := by
  obtain ⟨adK, adV, hS, he⟩ := vk_Sof (args := args) (s := s) (N := 1) (tm := fun _ => Term.string "ClapValley" 90) (len := [30]) (byt := [kByt 1]) (A := A) (fun i hi => by rw [show i = 0 by omega]; decide)
    (fun _ _ => (aR (aR (aL (aL (aL (aL (aR (aR (aL (aL h))))))))))) (fun _ _ => (aL (aR (aL (aL (aL (aR (aR (aL (aL h)))))))))) (fun _ _ => (aL (aR (aR (aL (aL (aL (aR (aR (aL (aL h))))))))))) (fun i hi => by rw [show i = 0 by omega]; exact (aR (aR (aR (aL (aL (aL (aR (aR (aL (aL h)))))))))))
    (fun i hi j hj => by
      rw [show i = 0 by omega] at hj ⊢
      have hj : j < 30 := hj
      rcases (show j = 0 ∨ j = 1 ∨ j = 2 ∨ j = 3 ∨ j = 4 ∨ j = 5 ∨ j = 6 ∨ j = 7 ∨ j = 8 ∨ j = 9 ∨ j = 10 ∨ j = 11 ∨ j = 12 ∨ j = 13 ∨ j = 14 ∨ j = 15 ∨ j = 16 ∨ j = 17 ∨ j = 18 ∨ j = 19 ∨ j = 20 ∨ j = 21 ∨ j = 22 ∨ j = 23 ∨ j = 24 ∨ j = 25 ∨ j = 26 ∨ j = 27 ∨ j = 28 ∨ j = 29 by omega) with r | r | r | r | r | r | r | r | r | r | r | r | r | r | r | r | r | r | r | r | r | r | r | r | r | r | r | r | r | r
      · subst r; exact (aL (aL (aR (aL (aL (aR (aR (aL (aL h)))))))))
      · subst r; exact (aL (aR (aL (aR (aL (aL (aR (aR (aL (aL h))))))))))
      · subst r; exact (aR (aR (aL (aR (aL (aL (aR (aR (aL (aL h))))))))))
      · subst r; exact (aL (aR (aR (aL (aL (aR (aR (aL (aL h)))))))))
      · subst r; exact (aL (aR (aR (aR (aL (aL (aR (aR (aL (aL h))))))))))
      · subst r; exact (aR (aR (aR (aR (aL (aL (aR (aR (aL (aL h))))))))))
      · subst r; exact (aL (aL (aL (aR (aL (aR (aR (aL (aL h)))))))))
      · subst r; exact (aL (aR (aL (aL (aR (aL (aR (aR (aL (aL h))))))))))
      · subst r; exact (aR (aR (aL (aL (aR (aL (aR (aR (aL (aL h))))))))))
      · subst r; exact (aL (aR (aL (aR (aL (aR (aR (aL (aL h)))))))))
      · subst r; exact (aL (aR (aR (aL (aR (aL (aR (aR (aL (aL h))))))))))
      · subst r; exact (aR (aR (aR (aL (aR (aL (aR (aR (aL (aL h))))))))))
      · subst r; exact (aL (aL (aR (aR (aL (aR (aR (aL (aL h)))))))))
      · subst r; exact (aL (aR (aL (aR (aR (aL (aR (aR (aL (aL h))))))))))
      · subst r; exact (aR (aR (aL (aR (aR (aL (aR (aR (aL (aL h))))))))))
      · subst r; exact (aL (aL (aR (aR (aR (aL (aR (aR (aL (aL h))))))))))
      · subst r; exact (aR (aL (aR (aR (aR (aL (aR (aR (aL (aL h))))))))))
      · subst r; exact (aL (aR (aR (aR (aR (aL (aR (aR (aL (aL h))))))))))
      · subst r; exact (aR (aR (aR (aR (aR (aL (aR (aR (aL (aL h))))))))))
      · subst r; exact (aL (aL (aL (aL (aR (aR (aR (aL (aL h)))))))))
      · subst r; exact (aL (aR (aL (aL (aL (aR (aR (aR (aL (aL h))))))))))
      · subst r; exact (aR (aR (aL (aL (aL (aR (aR (aR (aL (aL h))))))))))
      · subst r; exact (aL (aR (aL (aL (aR (aR (aR (aL (aL h)))))))))
      · subst r; exact (aL (aR (aR (aL (aL (aR (aR (aR (aL (aL h))))))))))
      · subst r; exact (aR (aR (aR (aL (aL (aR (aR (aR (aL (aL h))))))))))
      · subst r; exact (aL (aL (aR (aL (aR (aR (aR (aL (aL h)))))))))
      · subst r; exact (aL (aR (aL (aR (aL (aR (aR (aR (aL (aL h))))))))))
      · subst r; exact (aR (aR (aL (aR (aL (aR (aR (aR (aL (aL h))))))))))
      · subst r; exact (aL (aR (aR (aL (aR (aR (aR (aL (aL h)))))))))
      · subst r; exact (aL (aR (aR (aR (aL (aR (aR (aR (aL (aL h)))))))))))
    (fun i j h1 h2 h3 => absurd (show i = j by omega) h3) hA
  exact ⟨adK 0, adV 0, vk_R.of hw (he 0 (by omega)), (hS.1 0 (by omega)).1, (hS.1 0 (by omega)).2.1, (hS.1 0 (by omega)).2.2.1, (hS.1 0 (by omega)).2.2.2⟩
theorem str_2 {A : Nat → Prop} {args : Array Value} {s : State} (h : narrow_1.before args s = true) (hw : (Cond.stringRef (kOwn 2) (kIdx 2) (kTxt 2)).before args s = true) (hA : ∀ a : Nat, a < s.heap.size → ¬ A a) : ∃ a v : Nat, vk_R (kOwn 2) (kIdx 2) (kTxt 2) a s ∧ va_O "java/lang/String" a A s s.heap ∧ va_OF "java/lang/String" "coder" "B" (.int 0) a A s s.heap ∧ va_OF "java/lang/String" "value" "[B" (.ref v) a A s s.heap ∧ va_T .byte v (kLen 2) (fun j => .int ((kByt 2).getD j 0)) A s s.heap := by
  obtain ⟨adK, adV, hS, he⟩ := vk_Sof (args := args) (s := s) (N := 1) (tm := fun _ => Term.string "ClapValley$Tape" 60) (len := [7]) (byt := [kByt 2]) (A := A) (fun i hi => by rw [show i = 0 by omega]; decide)
    (fun _ _ => (aR (aR (aR (aR (aL (aR (aR (aR (aL (aL h))))))))))) (fun _ _ => (aL (aL (aL (aR (aR (aR (aR (aL (aL h)))))))))) (fun _ _ => (aL (aR (aL (aL (aR (aR (aR (aR (aL (aL h))))))))))) (fun i hi => by rw [show i = 0 by omega]; exact (aR (aR (aL (aL (aR (aR (aR (aR (aL (aL h)))))))))))
    (fun i hi j hj => by
      rw [show i = 0 by omega] at hj ⊢
      have hj : j < 7 := hj
      rcases (show j = 0 ∨ j = 1 ∨ j = 2 ∨ j = 3 ∨ j = 4 ∨ j = 5 ∨ j = 6 by omega) with r | r | r | r | r | r | r
      · subst r; exact (aL (aR (aL (aR (aR (aR (aR (aL (aL h)))))))))
      · subst r; exact (aL (aR (aR (aL (aR (aR (aR (aR (aL (aL h))))))))))
      · subst r; exact (aR (aR (aR (aL (aR (aR (aR (aR (aL (aL h))))))))))
      · subst r; exact (aL (aL (aR (aR (aR (aR (aR (aL (aL h)))))))))
      · subst r; exact (aL (aR (aL (aR (aR (aR (aR (aR (aL (aL h))))))))))
      · subst r; exact (aR (aR (aL (aR (aR (aR (aR (aR (aL (aL h))))))))))
      · subst r; exact (aL (aL (aR (aR (aR (aR (aR (aR (aL (aL h)))))))))))
    (fun i j h1 h2 h3 => absurd (show i = j by omega) h3) hA
  exact ⟨adK 0, adV 0, vk_R.of hw (he 0 (by omega)), (hS.1 0 (by omega)).1, (hS.1 0 (by omega)).2.1, (hS.1 0 (by omega)).2.2.1, (hS.1 0 (by omega)).2.2.2⟩
theorem str_3 {A : Nat → Prop} {args : Array Value} {s : State} (h : narrow_1.before args s = true) (hw : (Cond.stringRef (kOwn 3) (kIdx 3) (kTxt 3)).before args s = true) (hA : ∀ a : Nat, a < s.heap.size → ¬ A a) : ∃ a v : Nat, vk_R (kOwn 3) (kIdx 3) (kTxt 3) a s ∧ va_O "java/lang/String" a A s s.heap ∧ va_OF "java/lang/String" "coder" "B" (.int 0) a A s s.heap ∧ va_OF "java/lang/String" "value" "[B" (.ref v) a A s s.heap ∧ va_T .byte v (kLen 3) (fun j => .int ((kByt 3).getD j 0)) A s s.heap := by
  obtain ⟨adK, adV, hS, he⟩ := vk_Sof (args := args) (s := s) (N := 1) (tm := fun _ => Term.string "ClapValley$Tape" 179) (len := [4]) (byt := [kByt 3]) (A := A) (fun i hi => by rw [show i = 0 by omega]; decide)
    (fun _ _ => (aR (aL (aR (aR (aR (aR (aR (aR (aL (aL h))))))))))) (fun _ _ => (aL (aR (aR (aR (aR (aR (aR (aR (aL (aL h))))))))))) (fun _ _ => (aR (aR (aR (aR (aR (aR (aR (aR (aL (aL h))))))))))) (fun i hi => by rw [show i = 0 by omega]; exact (aL (aL (aL (aL (aL (aL (aL (aR (aL h))))))))))
    (fun i hi j hj => by
      rw [show i = 0 by omega] at hj ⊢
      have hj : j < 4 := hj
      rcases (show j = 0 ∨ j = 1 ∨ j = 2 ∨ j = 3 by omega) with r | r | r | r
      · subst r; exact (aL (aR (aL (aL (aL (aL (aL (aL (aR (aL h))))))))))
      · subst r; exact (aR (aR (aL (aL (aL (aL (aL (aL (aR (aL h))))))))))
      · subst r; exact (aL (aR (aL (aL (aL (aL (aL (aR (aL h)))))))))
      · subst r; exact (aL (aR (aR (aL (aL (aL (aL (aL (aR (aL h)))))))))))
    (fun i j h1 h2 h3 => absurd (show i = j by omega) h3) hA
  exact ⟨adK 0, adV 0, vk_R.of hw (he 0 (by omega)), (hS.1 0 (by omega)).1, (hS.1 0 (by omega)).2.1, (hS.1 0 (by omega)).2.2.1, (hS.1 0 (by omega)).2.2.2⟩
theorem str_4 {A : Nat → Prop} {args : Array Value} {s : State} (h : narrow_1.before args s = true) (hw : (Cond.stringRef (kOwn 4) (kIdx 4) (kTxt 4)).before args s = true) (hA : ∀ a : Nat, a < s.heap.size → ¬ A a) : ∃ a v : Nat, vk_R (kOwn 4) (kIdx 4) (kTxt 4) a s ∧ va_O "java/lang/String" a A s s.heap ∧ va_OF "java/lang/String" "coder" "B" (.int 0) a A s s.heap ∧ va_OF "java/lang/String" "value" "[B" (.ref v) a A s s.heap ∧ va_T .byte v (kLen 4) (fun j => .int ((kByt 4).getD j 0)) A s s.heap := by
  obtain ⟨adK, adV, hS, he⟩ := vk_Sof (args := args) (s := s) (N := 1) (tm := fun _ => Term.string "ClapValley$Tape" 70) (len := [5]) (byt := [kByt 4]) (A := A) (fun i hi => by rw [show i = 0 by omega]; decide)
    (fun _ _ => (aR (aR (aR (aL (aL (aL (aL (aL (aR (aL h))))))))))) (fun _ _ => (aL (aL (aR (aL (aL (aL (aL (aR (aL h)))))))))) (fun _ _ => (aL (aR (aL (aR (aL (aL (aL (aL (aR (aL h))))))))))) (fun i hi => by rw [show i = 0 by omega]; exact (aR (aR (aL (aR (aL (aL (aL (aL (aR (aL h)))))))))))
    (fun i hi j hj => by
      rw [show i = 0 by omega] at hj ⊢
      have hj : j < 5 := hj
      rcases (show j = 0 ∨ j = 1 ∨ j = 2 ∨ j = 3 ∨ j = 4 by omega) with r | r | r | r | r
      · subst r; exact (aL (aR (aR (aL (aL (aL (aL (aR (aL h)))))))))
      · subst r; exact (aL (aR (aR (aR (aL (aL (aL (aL (aR (aL h))))))))))
      · subst r; exact (aR (aR (aR (aR (aL (aL (aL (aL (aR (aL h))))))))))
      · subst r; exact (aL (aL (aL (aR (aL (aL (aL (aR (aL h)))))))))
      · subst r; exact (aL (aR (aL (aL (aR (aL (aL (aL (aR (aL h)))))))))))
    (fun i j h1 h2 h3 => absurd (show i = j by omega) h3) hA
  exact ⟨adK 0, adV 0, vk_R.of hw (he 0 (by omega)), (hS.1 0 (by omega)).1, (hS.1 0 (by omega)).2.1, (hS.1 0 (by omega)).2.2.1, (hS.1 0 (by omega)).2.2.2⟩
theorem str_5 {A : Nat → Prop} {args : Array Value} {s : State} (h : narrow_1.before args s = true) (hw : (Cond.stringRef (kOwn 5) (kIdx 5) (kTxt 5)).before args s = true) (hA : ∀ a : Nat, a < s.heap.size → ¬ A a) : ∃ a v : Nat, vk_R (kOwn 5) (kIdx 5) (kTxt 5) a s ∧ va_O "java/lang/String" a A s s.heap ∧ va_OF "java/lang/String" "coder" "B" (.int 0) a A s s.heap ∧ va_OF "java/lang/String" "value" "[B" (.ref v) a A s s.heap ∧ va_T .byte v (kLen 5) (fun j => .int ((kByt 5).getD j 0)) A s s.heap := by
  obtain ⟨adK, adV, hS, he⟩ := vk_Sof (args := args) (s := s) (N := 1) (tm := fun _ => Term.string "ClapValley$Tape" 72) (len := [4]) (byt := [kByt 5]) (A := A) (fun i hi => by rw [show i = 0 by omega]; decide)
    (fun _ _ => (aR (aR (aL (aL (aR (aL (aL (aL (aR (aL h))))))))))) (fun _ _ => (aL (aR (aL (aR (aL (aL (aL (aR (aL h)))))))))) (fun _ _ => (aL (aR (aR (aL (aR (aL (aL (aL (aR (aL h))))))))))) (fun i hi => by rw [show i = 0 by omega]; exact (aR (aR (aR (aL (aR (aL (aL (aL (aR (aL h)))))))))))
    (fun i hi j hj => by
      rw [show i = 0 by omega] at hj ⊢
      have hj : j < 4 := hj
      rcases (show j = 0 ∨ j = 1 ∨ j = 2 ∨ j = 3 by omega) with r | r | r | r
      · subst r; exact (aL (aL (aR (aR (aL (aL (aL (aR (aL h)))))))))
      · subst r; exact (aL (aR (aL (aR (aR (aL (aL (aL (aR (aL h))))))))))
      · subst r; exact (aR (aR (aL (aR (aR (aL (aL (aL (aR (aL h))))))))))
      · subst r; exact (aL (aR (aR (aR (aL (aL (aL (aR (aL h))))))))))
    (fun i j h1 h2 h3 => absurd (show i = j by omega) h3) hA
  exact ⟨adK 0, adV 0, vk_R.of hw (he 0 (by omega)), (hS.1 0 (by omega)).1, (hS.1 0 (by omega)).2.1, (hS.1 0 (by omega)).2.2.1, (hS.1 0 (by omega)).2.2.2⟩
theorem str_6 {A : Nat → Prop} {args : Array Value} {s : State} (h : narrow_1.before args s = true) (hw : (Cond.stringRef (kOwn 6) (kIdx 6) (kTxt 6)).before args s = true) (hA : ∀ a : Nat, a < s.heap.size → ¬ A a) : ∃ a v : Nat, vk_R (kOwn 6) (kIdx 6) (kTxt 6) a s ∧ va_O "java/lang/String" a A s s.heap ∧ va_OF "java/lang/String" "coder" "B" (.int 0) a A s s.heap ∧ va_OF "java/lang/String" "value" "[B" (.ref v) a A s s.heap ∧ va_T .byte v (kLen 6) (fun j => .int ((kByt 6).getD j 0)) A s s.heap := by
  obtain ⟨adK, adV, hS, he⟩ := vk_Sof (args := args) (s := s) (N := 1) (tm := fun _ => Term.string "ClapValley$Tape" 148) (len := [5]) (byt := [kByt 6]) (A := A) (fun i hi => by rw [show i = 0 by omega]; decide)
    (fun _ _ => (aL (aR (aR (aR (aR (aL (aL (aL (aR (aL h))))))))))) (fun _ _ => (aR (aR (aR (aR (aR (aL (aL (aL (aR (aL h))))))))))) (fun _ _ => (aL (aL (aL (aL (aR (aL (aL (aR (aL h)))))))))) (fun i hi => by rw [show i = 0 by omega]; exact (aL (aR (aL (aL (aL (aR (aL (aL (aR (aL h)))))))))))
    (fun i hi j hj => by
      rw [show i = 0 by omega] at hj ⊢
      have hj : j < 5 := hj
      rcases (show j = 0 ∨ j = 1 ∨ j = 2 ∨ j = 3 ∨ j = 4 by omega) with r | r | r | r | r
      · subst r; exact (aR (aR (aL (aL (aL (aR (aL (aL (aR (aL h))))))))))
      · subst r; exact (aL (aR (aL (aL (aR (aL (aL (aR (aL h)))))))))
      · subst r; exact (aL (aR (aR (aL (aL (aR (aL (aL (aR (aL h))))))))))
      · subst r; exact (aR (aR (aR (aL (aL (aR (aL (aL (aR (aL h))))))))))
      · subst r; exact (aL (aL (aR (aL (aR (aL (aL (aR (aL h))))))))))
    (fun i j h1 h2 h3 => absurd (show i = j by omega) h3) hA
  exact ⟨adK 0, adV 0, vk_R.of hw (he 0 (by omega)), (hS.1 0 (by omega)).1, (hS.1 0 (by omega)).2.1, (hS.1 0 (by omega)).2.2.1, (hS.1 0 (by omega)).2.2.2⟩
theorem str_7 {A : Nat → Prop} {args : Array Value} {s : State} (h : narrow_1.before args s = true) (hw : (Cond.stringRef (kOwn 7) (kIdx 7) (kTxt 7)).before args s = true) (hA : ∀ a : Nat, a < s.heap.size → ¬ A a) : ∃ a v : Nat, vk_R (kOwn 7) (kIdx 7) (kTxt 7) a s ∧ va_O "java/lang/String" a A s s.heap ∧ va_OF "java/lang/String" "coder" "B" (.int 0) a A s s.heap ∧ va_OF "java/lang/String" "value" "[B" (.ref v) a A s s.heap ∧ va_T .byte v (kLen 7) (fun j => .int ((kByt 7).getD j 0)) A s s.heap := by
  obtain ⟨adK, adV, hS, he⟩ := vk_Sof (args := args) (s := s) (N := 1) (tm := fun _ => Term.string "ClapValley$Tape" 77) (len := [4]) (byt := [kByt 7]) (A := A) (fun i hi => by rw [show i = 0 by omega]; decide)
    (fun _ _ => (aL (aR (aL (aR (aL (aR (aL (aL (aR (aL h))))))))))) (fun _ _ => (aR (aR (aL (aR (aL (aR (aL (aL (aR (aL h))))))))))) (fun _ _ => (aL (aR (aR (aL (aR (aL (aL (aR (aL h)))))))))) (fun i hi => by rw [show i = 0 by omega]; exact (aL (aR (aR (aR (aL (aR (aL (aL (aR (aL h)))))))))))
    (fun i hi j hj => by
      rw [show i = 0 by omega] at hj ⊢
      have hj : j < 4 := hj
      rcases (show j = 0 ∨ j = 1 ∨ j = 2 ∨ j = 3 by omega) with r | r | r | r
      · subst r; exact (aR (aR (aR (aR (aL (aR (aL (aL (aR (aL h))))))))))
      · subst r; exact (aL (aL (aL (aR (aR (aL (aL (aR (aL h)))))))))
      · subst r; exact (aL (aR (aL (aL (aR (aR (aL (aL (aR (aL h))))))))))
      · subst r; exact (aR (aR (aL (aL (aR (aR (aL (aL (aR (aL h)))))))))))
    (fun i j h1 h2 h3 => absurd (show i = j by omega) h3) hA
  exact ⟨adK 0, adV 0, vk_R.of hw (he 0 (by omega)), (hS.1 0 (by omega)).1, (hS.1 0 (by omega)).2.1, (hS.1 0 (by omega)).2.2.1, (hS.1 0 (by omega)).2.2.2⟩
theorem str_8 {A : Nat → Prop} {args : Array Value} {s : State} (h : narrow_1.before args s = true) (hw : (Cond.stringRef (kOwn 8) (kIdx 8) (kTxt 8)).before args s = true) (hA : ∀ a : Nat, a < s.heap.size → ¬ A a) : ∃ a v : Nat, vk_R (kOwn 8) (kIdx 8) (kTxt 8) a s ∧ va_O "java/lang/String" a A s s.heap ∧ va_OF "java/lang/String" "coder" "B" (.int 0) a A s s.heap ∧ va_OF "java/lang/String" "value" "[B" (.ref v) a A s s.heap ∧ va_T .byte v (kLen 8) (fun j => .int ((kByt 8).getD j 0)) A s s.heap := by
  obtain ⟨adK, adV, hS, he⟩ := vk_Sof (args := args) (s := s) (N := 1) (tm := fun _ => Term.string "ClapValley$Tape" 82) (len := [5]) (byt := [kByt 8]) (A := A) (fun i hi => by rw [show i = 0 by omega]; decide)
    (fun _ _ => (aL (aR (aL (aR (aR (aL (aL (aR (aL h)))))))))) (fun _ _ => (aL (aR (aR (aL (aR (aR (aL (aL (aR (aL h))))))))))) (fun _ _ => (aR (aR (aR (aL (aR (aR (aL (aL (aR (aL h))))))))))) (fun i hi => by rw [show i = 0 by omega]; exact (aL (aL (aR (aR (aR (aL (aL (aR (aL h))))))))))
    (fun i hi j hj => by
      rw [show i = 0 by omega] at hj ⊢
      have hj : j < 5 := hj
      rcases (show j = 0 ∨ j = 1 ∨ j = 2 ∨ j = 3 ∨ j = 4 by omega) with r | r | r | r | r
      · subst r; exact (aL (aR (aL (aR (aR (aR (aL (aL (aR (aL h))))))))))
      · subst r; exact (aR (aR (aL (aR (aR (aR (aL (aL (aR (aL h))))))))))
      · subst r; exact (aL (aL (aR (aR (aR (aR (aL (aL (aR (aL h))))))))))
      · subst r; exact (aR (aL (aR (aR (aR (aR (aL (aL (aR (aL h))))))))))
      · subst r; exact (aL (aR (aR (aR (aR (aR (aL (aL (aR (aL h)))))))))))
    (fun i j h1 h2 h3 => absurd (show i = j by omega) h3) hA
  exact ⟨adK 0, adV 0, vk_R.of hw (he 0 (by omega)), (hS.1 0 (by omega)).1, (hS.1 0 (by omega)).2.1, (hS.1 0 (by omega)).2.2.1, (hS.1 0 (by omega)).2.2.2⟩
theorem str_9 {A : Nat → Prop} {args : Array Value} {s : State} (h : narrow_1.before args s = true) (hw : (Cond.stringRef (kOwn 9) (kIdx 9) (kTxt 9)).before args s = true) (hA : ∀ a : Nat, a < s.heap.size → ¬ A a) : ∃ a v : Nat, vk_R (kOwn 9) (kIdx 9) (kTxt 9) a s ∧ va_O "java/lang/String" a A s s.heap ∧ va_OF "java/lang/String" "coder" "B" (.int 0) a A s s.heap ∧ va_OF "java/lang/String" "value" "[B" (.ref v) a A s s.heap ∧ va_T .byte v (kLen 9) (fun j => .int ((kByt 9).getD j 0)) A s s.heap := by
  obtain ⟨adK, adV, hS, he⟩ := vk_Sof (args := args) (s := s) (N := 1) (tm := fun _ => Term.string "ClapValley$Tape" 87) (len := [3]) (byt := [kByt 9]) (A := A) (fun i hi => by rw [show i = 0 by omega]; decide)
    (fun _ _ => (aR (aR (aR (aR (aR (aR (aL (aL (aR (aL h))))))))))) (fun _ _ => (aL (aL (aL (aL (aL (aR (aL (aR (aL h)))))))))) (fun _ _ => (aL (aR (aL (aL (aL (aL (aR (aL (aR (aL h))))))))))) (fun i hi => by rw [show i = 0 by omega]; exact (aR (aR (aL (aL (aL (aL (aR (aL (aR (aL h)))))))))))
    (fun i hi j hj => by
      rw [show i = 0 by omega] at hj ⊢
      have hj : j < 3 := hj
      rcases (show j = 0 ∨ j = 1 ∨ j = 2 by omega) with r | r | r
      · subst r; exact (aL (aR (aL (aL (aL (aR (aL (aR (aL h)))))))))
      · subst r; exact (aL (aR (aR (aL (aL (aL (aR (aL (aR (aL h))))))))))
      · subst r; exact (aR (aR (aR (aL (aL (aL (aR (aL (aR (aL h)))))))))))
    (fun i j h1 h2 h3 => absurd (show i = j by omega) h3) hA
  exact ⟨adK 0, adV 0, vk_R.of hw (he 0 (by omega)), (hS.1 0 (by omega)).1, (hS.1 0 (by omega)).2.1, (hS.1 0 (by omega)).2.2.1, (hS.1 0 (by omega)).2.2.2⟩
theorem str_10 {A : Nat → Prop} {args : Array Value} {s : State} (h : narrow_1.before args s = true) (hw : (Cond.stringRef (kOwn 10) (kIdx 10) (kTxt 10)).before args s = true) (hA : ∀ a : Nat, a < s.heap.size → ¬ A a) : ∃ a v : Nat, vk_R (kOwn 10) (kIdx 10) (kTxt 10) a s ∧ va_O "java/lang/String" a A s s.heap ∧ va_OF "java/lang/String" "coder" "B" (.int 0) a A s s.heap ∧ va_OF "java/lang/String" "value" "[B" (.ref v) a A s s.heap ∧ va_T .byte v (kLen 10) (fun j => .int ((kByt 10).getD j 0)) A s s.heap := by
  obtain ⟨adK, adV, hS, he⟩ := vk_Sof (args := args) (s := s) (N := 1) (tm := fun _ => Term.string "ClapValley" 117) (len := [13]) (byt := [kByt 10]) (A := A) (fun i hi => by rw [show i = 0 by omega]; decide)
    (fun _ _ => (aL (aL (aR (aL (aL (aR (aL (aR (aL h)))))))))) (fun _ _ => (aL (aR (aL (aR (aL (aL (aR (aL (aR (aL h))))))))))) (fun _ _ => (aR (aR (aL (aR (aL (aL (aR (aL (aR (aL h))))))))))) (fun i hi => by rw [show i = 0 by omega]; exact (aL (aR (aR (aL (aL (aR (aL (aR (aL h))))))))))
    (fun i hi j hj => by
      rw [show i = 0 by omega] at hj ⊢
      have hj : j < 13 := hj
      rcases (show j = 0 ∨ j = 1 ∨ j = 2 ∨ j = 3 ∨ j = 4 ∨ j = 5 ∨ j = 6 ∨ j = 7 ∨ j = 8 ∨ j = 9 ∨ j = 10 ∨ j = 11 ∨ j = 12 by omega) with r | r | r | r | r | r | r | r | r | r | r | r | r
      · subst r; exact (aL (aR (aR (aR (aL (aL (aR (aL (aR (aL h))))))))))
      · subst r; exact (aR (aR (aR (aR (aL (aL (aR (aL (aR (aL h))))))))))
      · subst r; exact (aL (aL (aL (aR (aL (aR (aL (aR (aL h)))))))))
      · subst r; exact (aL (aR (aL (aL (aR (aL (aR (aL (aR (aL h))))))))))
      · subst r; exact (aR (aR (aL (aL (aR (aL (aR (aL (aR (aL h))))))))))
      · subst r; exact (aL (aR (aL (aR (aL (aR (aL (aR (aL h)))))))))
      · subst r; exact (aL (aR (aR (aL (aR (aL (aR (aL (aR (aL h))))))))))
      · subst r; exact (aR (aR (aR (aL (aR (aL (aR (aL (aR (aL h))))))))))
      · subst r; exact (aL (aL (aR (aR (aL (aR (aL (aR (aL h)))))))))
      · subst r; exact (aL (aR (aL (aR (aR (aL (aR (aL (aR (aL h))))))))))
      · subst r; exact (aR (aR (aL (aR (aR (aL (aR (aL (aR (aL h))))))))))
      · subst r; exact (aL (aL (aR (aR (aR (aL (aR (aL (aR (aL h))))))))))
      · subst r; exact (aR (aL (aR (aR (aR (aL (aR (aL (aR (aL h)))))))))))
    (fun i j h1 h2 h3 => absurd (show i = j by omega) h3) hA
  exact ⟨adK 0, adV 0, vk_R.of hw (he 0 (by omega)), (hS.1 0 (by omega)).1, (hS.1 0 (by omega)).2.1, (hS.1 0 (by omega)).2.2.1, (hS.1 0 (by omega)).2.2.2⟩
theorem str_11 {A : Nat → Prop} {args : Array Value} {s : State} (h : narrow_1.before args s = true) (hw : (Cond.stringRef (kOwn 11) (kIdx 11) (kTxt 11)).before args s = true) (hA : ∀ a : Nat, a < s.heap.size → ¬ A a) : ∃ a v : Nat, vk_R (kOwn 11) (kIdx 11) (kTxt 11) a s ∧ va_O "java/lang/String" a A s s.heap ∧ va_OF "java/lang/String" "coder" "B" (.int 0) a A s s.heap ∧ va_OF "java/lang/String" "value" "[B" (.ref v) a A s s.heap ∧ va_T .byte v (kLen 11) (fun j => .int ((kByt 11).getD j 0)) A s s.heap := by
  obtain ⟨adK, adV, hS, he⟩ := vk_Sof (args := args) (s := s) (N := 1) (tm := fun _ => Term.string "ClapValley" 135) (len := [30]) (byt := [kByt 11]) (A := A) (fun i hi => by rw [show i = 0 by omega]; decide)
    (fun _ _ => (aL (aR (aR (aR (aR (aL (aR (aL (aR (aL h))))))))))) (fun _ _ => (aR (aR (aR (aR (aR (aL (aR (aL (aR (aL h))))))))))) (fun _ _ => (aL (aL (aL (aL (aR (aR (aL (aR (aL h)))))))))) (fun i hi => by rw [show i = 0 by omega]; exact (aL (aR (aL (aL (aL (aR (aR (aL (aR (aL h)))))))))))
    (fun i hi j hj => by
      rw [show i = 0 by omega] at hj ⊢
      have hj : j < 30 := hj
      rcases (show j = 0 ∨ j = 1 ∨ j = 2 ∨ j = 3 ∨ j = 4 ∨ j = 5 ∨ j = 6 ∨ j = 7 ∨ j = 8 ∨ j = 9 ∨ j = 10 ∨ j = 11 ∨ j = 12 ∨ j = 13 ∨ j = 14 ∨ j = 15 ∨ j = 16 ∨ j = 17 ∨ j = 18 ∨ j = 19 ∨ j = 20 ∨ j = 21 ∨ j = 22 ∨ j = 23 ∨ j = 24 ∨ j = 25 ∨ j = 26 ∨ j = 27 ∨ j = 28 ∨ j = 29 by omega) with r | r | r | r | r | r | r | r | r | r | r | r | r | r | r | r | r | r | r | r | r | r | r | r | r | r | r | r | r | r
      · subst r; exact (aR (aR (aL (aL (aL (aR (aR (aL (aR (aL h))))))))))
      · subst r; exact (aL (aR (aL (aL (aR (aR (aL (aR (aL h)))))))))
      · subst r; exact (aL (aR (aR (aL (aL (aR (aR (aL (aR (aL h))))))))))
      · subst r; exact (aR (aR (aR (aL (aL (aR (aR (aL (aR (aL h))))))))))
      · subst r; exact (aL (aL (aR (aL (aR (aR (aL (aR (aL h)))))))))
      · subst r; exact (aL (aR (aL (aR (aL (aR (aR (aL (aR (aL h))))))))))
      · subst r; exact (aR (aR (aL (aR (aL (aR (aR (aL (aR (aL h))))))))))
      · subst r; exact (aL (aR (aR (aL (aR (aR (aL (aR (aL h)))))))))
      · subst r; exact (aL (aR (aR (aR (aL (aR (aR (aL (aR (aL h))))))))))
      · subst r; exact (aR (aR (aR (aR (aL (aR (aR (aL (aR (aL h))))))))))
      · subst r; exact (aL (aL (aL (aR (aR (aR (aL (aR (aL h)))))))))
      · subst r; exact (aL (aR (aL (aL (aR (aR (aR (aL (aR (aL h))))))))))
      · subst r; exact (aR (aR (aL (aL (aR (aR (aR (aL (aR (aL h))))))))))
      · subst r; exact (aL (aR (aL (aR (aR (aR (aL (aR (aL h)))))))))
      · subst r; exact (aL (aR (aR (aL (aR (aR (aR (aL (aR (aL h))))))))))
      · subst r; exact (aR (aR (aR (aL (aR (aR (aR (aL (aR (aL h))))))))))
      · subst r; exact (aL (aL (aR (aR (aR (aR (aL (aR (aL h)))))))))
      · subst r; exact (aL (aR (aL (aR (aR (aR (aR (aL (aR (aL h))))))))))
      · subst r; exact (aR (aR (aL (aR (aR (aR (aR (aL (aR (aL h))))))))))
      · subst r; exact (aL (aL (aR (aR (aR (aR (aR (aL (aR (aL h))))))))))
      · subst r; exact (aR (aL (aR (aR (aR (aR (aR (aL (aR (aL h))))))))))
      · subst r; exact (aL (aR (aR (aR (aR (aR (aR (aL (aR (aL h))))))))))
      · subst r; exact (aR (aR (aR (aR (aR (aR (aR (aL (aR (aL h))))))))))
      · subst r; exact (aL (aL (aL (aL (aL (aL (aR (aR (aL h)))))))))
      · subst r; exact (aL (aR (aL (aL (aL (aL (aL (aR (aR (aL h))))))))))
      · subst r; exact (aR (aR (aL (aL (aL (aL (aL (aR (aR (aL h))))))))))
      · subst r; exact (aL (aR (aL (aL (aL (aL (aR (aR (aL h)))))))))
      · subst r; exact (aL (aR (aR (aL (aL (aL (aL (aR (aR (aL h))))))))))
      · subst r; exact (aR (aR (aR (aL (aL (aL (aL (aR (aR (aL h))))))))))
      · subst r; exact (aL (aL (aR (aL (aL (aL (aR (aR (aL h))))))))))
    (fun i j h1 h2 h3 => absurd (show i = j by omega) h3) hA
  exact ⟨adK 0, adV 0, vk_R.of hw (he 0 (by omega)), (hS.1 0 (by omega)).1, (hS.1 0 (by omega)).2.1, (hS.1 0 (by omega)).2.2.1, (hS.1 0 (by omega)).2.2.2⟩
theorem str_12 {A : Nat → Prop} {args : Array Value} {s : State} (h : narrow_1.before args s = true) (hw : (Cond.stringRef (kOwn 12) (kIdx 12) (kTxt 12)).before args s = true) (hA : ∀ a : Nat, a < s.heap.size → ¬ A a) : ∃ a v : Nat, vk_R (kOwn 12) (kIdx 12) (kTxt 12) a s ∧ va_O "java/lang/String" a A s s.heap ∧ va_OF "java/lang/String" "coder" "B" (.int 0) a A s s.heap ∧ va_OF "java/lang/String" "value" "[B" (.ref v) a A s s.heap ∧ va_T .byte v (kLen 12) (fun j => .int ((kByt 12).getD j 0)) A s s.heap := by
  obtain ⟨adK, adV, hS, he⟩ := vk_Sof (args := args) (s := s) (N := 1) (tm := fun _ => Term.string "ClapValley" 357) (len := [13]) (byt := [kByt 12]) (A := A) (fun i hi => by rw [show i = 0 by omega]; decide)
    (fun _ _ => (aL (aR (aL (aR (aL (aL (aL (aR (aR (aL h))))))))))) (fun _ _ => (aR (aR (aL (aR (aL (aL (aL (aR (aR (aL h))))))))))) (fun _ _ => (aL (aR (aR (aL (aL (aL (aR (aR (aL h)))))))))) (fun i hi => by rw [show i = 0 by omega]; exact (aL (aR (aR (aR (aL (aL (aL (aR (aR (aL h)))))))))))
    (fun i hi j hj => by
      rw [show i = 0 by omega] at hj ⊢
      have hj : j < 13 := hj
      rcases (show j = 0 ∨ j = 1 ∨ j = 2 ∨ j = 3 ∨ j = 4 ∨ j = 5 ∨ j = 6 ∨ j = 7 ∨ j = 8 ∨ j = 9 ∨ j = 10 ∨ j = 11 ∨ j = 12 by omega) with r | r | r | r | r | r | r | r | r | r | r | r | r
      · subst r; exact (aR (aR (aR (aR (aL (aL (aL (aR (aR (aL h))))))))))
      · subst r; exact (aL (aL (aL (aR (aL (aL (aR (aR (aL h)))))))))
      · subst r; exact (aL (aR (aL (aL (aR (aL (aL (aR (aR (aL h))))))))))
      · subst r; exact (aR (aR (aL (aL (aR (aL (aL (aR (aR (aL h))))))))))
      · subst r; exact (aL (aR (aL (aR (aL (aL (aR (aR (aL h)))))))))
      · subst r; exact (aL (aR (aR (aL (aR (aL (aL (aR (aR (aL h))))))))))
      · subst r; exact (aR (aR (aR (aL (aR (aL (aL (aR (aR (aL h))))))))))
      · subst r; exact (aL (aL (aR (aR (aL (aL (aR (aR (aL h)))))))))
      · subst r; exact (aL (aR (aL (aR (aR (aL (aL (aR (aR (aL h))))))))))
      · subst r; exact (aR (aR (aL (aR (aR (aL (aL (aR (aR (aL h))))))))))
      · subst r; exact (aL (aR (aR (aR (aL (aL (aR (aR (aL h)))))))))
      · subst r; exact (aL (aR (aR (aR (aR (aL (aL (aR (aR (aL h))))))))))
      · subst r; exact (aR (aR (aR (aR (aR (aL (aL (aR (aR (aL h)))))))))))
    (fun i j h1 h2 h3 => absurd (show i = j by omega) h3) hA
  exact ⟨adK 0, adV 0, vk_R.of hw (he 0 (by omega)), (hS.1 0 (by omega)).1, (hS.1 0 (by omega)).2.1, (hS.1 0 (by omega)).2.2.1, (hS.1 0 (by omega)).2.2.2⟩
theorem str_13 {A : Nat → Prop} {args : Array Value} {s : State} (h : narrow_1.before args s = true) (hw : (Cond.stringRef (kOwn 13) (kIdx 13) (kTxt 13)).before args s = true) (hA : ∀ a : Nat, a < s.heap.size → ¬ A a) : ∃ a v : Nat, vk_R (kOwn 13) (kIdx 13) (kTxt 13) a s ∧ va_O "java/lang/String" a A s s.heap ∧ va_OF "java/lang/String" "coder" "B" (.int 0) a A s s.heap ∧ va_OF "java/lang/String" "value" "[B" (.ref v) a A s s.heap ∧ va_T .byte v (kLen 13) (fun j => .int ((kByt 13).getD j 0)) A s s.heap := by
  obtain ⟨adK, adV, hS, he⟩ := vk_Sof (args := args) (s := s) (N := 1) (tm := fun _ => Term.string "ClapValley" 359) (len := [12]) (byt := [kByt 13]) (A := A) (fun i hi => by rw [show i = 0 by omega]; decide)
    (fun _ _ => (aL (aL (aL (aL (aR (aL (aR (aR (aL h)))))))))) (fun _ _ => (aL (aR (aL (aL (aL (aR (aL (aR (aR (aL h))))))))))) (fun _ _ => (aR (aR (aL (aL (aL (aR (aL (aR (aR (aL h))))))))))) (fun i hi => by rw [show i = 0 by omega]; exact (aL (aR (aL (aL (aR (aL (aR (aR (aL h))))))))))
    (fun i hi j hj => by
      rw [show i = 0 by omega] at hj ⊢
      have hj : j < 12 := hj
      rcases (show j = 0 ∨ j = 1 ∨ j = 2 ∨ j = 3 ∨ j = 4 ∨ j = 5 ∨ j = 6 ∨ j = 7 ∨ j = 8 ∨ j = 9 ∨ j = 10 ∨ j = 11 by omega) with r | r | r | r | r | r | r | r | r | r | r | r
      · subst r; exact (aL (aR (aR (aL (aL (aR (aL (aR (aR (aL h))))))))))
      · subst r; exact (aR (aR (aR (aL (aL (aR (aL (aR (aR (aL h))))))))))
      · subst r; exact (aL (aL (aR (aL (aR (aL (aR (aR (aL h)))))))))
      · subst r; exact (aL (aR (aL (aR (aL (aR (aL (aR (aR (aL h))))))))))
      · subst r; exact (aR (aR (aL (aR (aL (aR (aL (aR (aR (aL h))))))))))
      · subst r; exact (aL (aR (aR (aL (aR (aL (aR (aR (aL h)))))))))
      · subst r; exact (aL (aR (aR (aR (aL (aR (aL (aR (aR (aL h))))))))))
      · subst r; exact (aR (aR (aR (aR (aL (aR (aL (aR (aR (aL h))))))))))
      · subst r; exact (aL (aL (aL (aR (aR (aL (aR (aR (aL h)))))))))
      · subst r; exact (aL (aR (aL (aL (aR (aR (aL (aR (aR (aL h))))))))))
      · subst r; exact (aR (aR (aL (aL (aR (aR (aL (aR (aR (aL h))))))))))
      · subst r; exact (aL (aR (aL (aR (aR (aL (aR (aR (aL h))))))))))
    (fun i j h1 h2 h3 => absurd (show i = j by omega) h3) hA
  exact ⟨adK 0, adV 0, vk_R.of hw (he 0 (by omega)), (hS.1 0 (by omega)).1, (hS.1 0 (by omega)).2.1, (hS.1 0 (by omega)).2.2.1, (hS.1 0 (by omega)).2.2.2⟩
theorem str_14 {A : Nat → Prop} {args : Array Value} {s : State} (h : narrow_1.before args s = true) (hw : (Cond.stringRef (kOwn 14) (kIdx 14) (kTxt 14)).before args s = true) (hA : ∀ a : Nat, a < s.heap.size → ¬ A a) : ∃ a v : Nat, vk_R (kOwn 14) (kIdx 14) (kTxt 14) a s ∧ va_O "java/lang/String" a A s s.heap ∧ va_OF "java/lang/String" "coder" "B" (.int 0) a A s s.heap ∧ va_OF "java/lang/String" "value" "[B" (.ref v) a A s s.heap ∧ va_T .byte v (kLen 14) (fun j => .int ((kByt 14).getD j 0)) A s s.heap := by
  obtain ⟨adK, adV, hS, he⟩ := vk_Sof (args := args) (s := s) (N := 1) (tm := fun _ => Term.string "ClapValley" 361) (len := [12]) (byt := [kByt 14]) (A := A) (fun i hi => by rw [show i = 0 by omega]; decide)
    (fun _ _ => (aL (aR (aR (aL (aR (aR (aL (aR (aR (aL h))))))))))) (fun _ _ => (aR (aR (aR (aL (aR (aR (aL (aR (aR (aL h))))))))))) (fun _ _ => (aL (aL (aR (aR (aR (aL (aR (aR (aL h)))))))))) (fun i hi => by rw [show i = 0 by omega]; exact (aL (aR (aL (aR (aR (aR (aL (aR (aR (aL h)))))))))))
    (fun i hi j hj => by
      rw [show i = 0 by omega] at hj ⊢
      have hj : j < 12 := hj
      rcases (show j = 0 ∨ j = 1 ∨ j = 2 ∨ j = 3 ∨ j = 4 ∨ j = 5 ∨ j = 6 ∨ j = 7 ∨ j = 8 ∨ j = 9 ∨ j = 10 ∨ j = 11 by omega) with r | r | r | r | r | r | r | r | r | r | r | r
      · subst r; exact (aR (aR (aL (aR (aR (aR (aL (aR (aR (aL h))))))))))
      · subst r; exact (aL (aL (aR (aR (aR (aR (aL (aR (aR (aL h))))))))))
      · subst r; exact (aR (aL (aR (aR (aR (aR (aL (aR (aR (aL h))))))))))
      · subst r; exact (aL (aR (aR (aR (aR (aR (aL (aR (aR (aL h))))))))))
      · subst r; exact (aR (aR (aR (aR (aR (aR (aL (aR (aR (aL h))))))))))
      · subst r; exact (aL (aL (aL (aL (aL (aR (aR (aR (aL h)))))))))
      · subst r; exact (aL (aR (aL (aL (aL (aL (aR (aR (aR (aL h))))))))))
      · subst r; exact (aR (aR (aL (aL (aL (aL (aR (aR (aR (aL h))))))))))
      · subst r; exact (aL (aR (aL (aL (aL (aR (aR (aR (aL h)))))))))
      · subst r; exact (aL (aR (aR (aL (aL (aL (aR (aR (aR (aL h))))))))))
      · subst r; exact (aR (aR (aR (aL (aL (aL (aR (aR (aR (aL h))))))))))
      · subst r; exact (aL (aL (aR (aL (aL (aR (aR (aR (aL h))))))))))
    (fun i j h1 h2 h3 => absurd (show i = j by omega) h3) hA
  exact ⟨adK 0, adV 0, vk_R.of hw (he 0 (by omega)), (hS.1 0 (by omega)).1, (hS.1 0 (by omega)).2.1, (hS.1 0 (by omega)).2.2.1, (hS.1 0 (by omega)).2.2.2⟩
theorem str_15 {A : Nat → Prop} {args : Array Value} {s : State} (h : narrow_1.before args s = true) (hw : (Cond.stringRef (kOwn 15) (kIdx 15) (kTxt 15)).before args s = true) (hA : ∀ a : Nat, a < s.heap.size → ¬ A a) : ∃ a v : Nat, vk_R (kOwn 15) (kIdx 15) (kTxt 15) a s ∧ va_O "java/lang/String" a A s s.heap ∧ va_OF "java/lang/String" "coder" "B" (.int 0) a A s s.heap ∧ va_OF "java/lang/String" "value" "[B" (.ref v) a A s s.heap ∧ va_T .byte v (kLen 15) (fun j => .int ((kByt 15).getD j 0)) A s s.heap := by
  obtain ⟨adK, adV, hS, he⟩ := vk_Sof (args := args) (s := s) (N := 1) (tm := fun _ => Term.string "ClapValley" 152) (len := [21]) (byt := [kByt 15]) (A := A) (fun i hi => by rw [show i = 0 by omega]; decide)
    (fun _ _ => (aL (aR (aL (aR (aL (aL (aR (aR (aR (aL h))))))))))) (fun _ _ => (aR (aR (aL (aR (aL (aL (aR (aR (aR (aL h))))))))))) (fun _ _ => (aL (aR (aR (aL (aL (aR (aR (aR (aL h)))))))))) (fun i hi => by rw [show i = 0 by omega]; exact (aL (aR (aR (aR (aL (aL (aR (aR (aR (aL h)))))))))))
    (fun i hi j hj => by
      rw [show i = 0 by omega] at hj ⊢
      have hj : j < 21 := hj
      rcases (show j = 0 ∨ j = 1 ∨ j = 2 ∨ j = 3 ∨ j = 4 ∨ j = 5 ∨ j = 6 ∨ j = 7 ∨ j = 8 ∨ j = 9 ∨ j = 10 ∨ j = 11 ∨ j = 12 ∨ j = 13 ∨ j = 14 ∨ j = 15 ∨ j = 16 ∨ j = 17 ∨ j = 18 ∨ j = 19 ∨ j = 20 by omega) with r | r | r | r | r | r | r | r | r | r | r | r | r | r | r | r | r | r | r | r | r
      · subst r; exact (aR (aR (aR (aR (aL (aL (aR (aR (aR (aL h))))))))))
      · subst r; exact (aL (aL (aL (aR (aL (aR (aR (aR (aL h)))))))))
      · subst r; exact (aL (aR (aL (aL (aR (aL (aR (aR (aR (aL h))))))))))
      · subst r; exact (aR (aR (aL (aL (aR (aL (aR (aR (aR (aL h))))))))))
      · subst r; exact (aL (aR (aL (aR (aL (aR (aR (aR (aL h)))))))))
      · subst r; exact (aL (aR (aR (aL (aR (aL (aR (aR (aR (aL h))))))))))
      · subst r; exact (aR (aR (aR (aL (aR (aL (aR (aR (aR (aL h))))))))))
      · subst r; exact (aL (aL (aR (aR (aL (aR (aR (aR (aL h)))))))))
      · subst r; exact (aL (aR (aL (aR (aR (aL (aR (aR (aR (aL h))))))))))
      · subst r; exact (aR (aR (aL (aR (aR (aL (aR (aR (aR (aL h))))))))))
      · subst r; exact (aL (aL (aR (aR (aR (aL (aR (aR (aR (aL h))))))))))
      · subst r; exact (aR (aL (aR (aR (aR (aL (aR (aR (aR (aL h))))))))))
      · subst r; exact (aL (aR (aR (aR (aR (aL (aR (aR (aR (aL h))))))))))
      · subst r; exact (aR (aR (aR (aR (aR (aL (aR (aR (aR (aL h))))))))))
      · subst r; exact (aL (aL (aL (aL (aR (aR (aR (aR (aL h)))))))))
      · subst r; exact (aL (aR (aL (aL (aL (aR (aR (aR (aR (aL h))))))))))
      · subst r; exact (aR (aR (aL (aL (aL (aR (aR (aR (aR (aL h))))))))))
      · subst r; exact (aL (aR (aL (aL (aR (aR (aR (aR (aL h)))))))))
      · subst r; exact (aL (aR (aR (aL (aL (aR (aR (aR (aR (aL h))))))))))
      · subst r; exact (aR (aR (aR (aL (aL (aR (aR (aR (aR (aL h))))))))))
      · subst r; exact (aL (aL (aR (aL (aR (aR (aR (aR (aL h))))))))))
    (fun i j h1 h2 h3 => absurd (show i = j by omega) h3) hA
  exact ⟨adK 0, adV 0, vk_R.of hw (he 0 (by omega)), (hS.1 0 (by omega)).1, (hS.1 0 (by omega)).2.1, (hS.1 0 (by omega)).2.2.1, (hS.1 0 (by omega)).2.2.2⟩
theorem str_16 {A : Nat → Prop} {args : Array Value} {s : State} (h : narrow_1.before args s = true) (hw : (Cond.stringRef (kOwn 16) (kIdx 16) (kTxt 16)).before args s = true) (hA : ∀ a : Nat, a < s.heap.size → ¬ A a) : ∃ a v : Nat, vk_R (kOwn 16) (kIdx 16) (kTxt 16) a s ∧ va_O "java/lang/String" a A s s.heap ∧ va_OF "java/lang/String" "coder" "B" (.int 0) a A s s.heap ∧ va_OF "java/lang/String" "value" "[B" (.ref v) a A s s.heap ∧ va_T .byte v (kLen 16) (fun j => .int ((kByt 16).getD j 0)) A s s.heap := by
  obtain ⟨adK, adV, hS, he⟩ := vk_Sof (args := args) (s := s) (N := 1) (tm := fun _ => Term.string "ClapValley" 161) (len := [25]) (byt := [kByt 16]) (A := A) (fun i hi => by rw [show i = 0 by omega]; decide)
    (fun _ _ => (aL (aR (aL (aR (aL (aR (aR (aR (aR (aL h))))))))))) (fun _ _ => (aR (aR (aL (aR (aL (aR (aR (aR (aR (aL h))))))))))) (fun _ _ => (aL (aR (aR (aL (aR (aR (aR (aR (aL h)))))))))) (fun i hi => by rw [show i = 0 by omega]; exact (aL (aR (aR (aR (aL (aR (aR (aR (aR (aL h)))))))))))
    (fun i hi j hj => by
      rw [show i = 0 by omega] at hj ⊢
      have hj : j < 25 := hj
      rcases (show j = 0 ∨ j = 1 ∨ j = 2 ∨ j = 3 ∨ j = 4 ∨ j = 5 ∨ j = 6 ∨ j = 7 ∨ j = 8 ∨ j = 9 ∨ j = 10 ∨ j = 11 ∨ j = 12 ∨ j = 13 ∨ j = 14 ∨ j = 15 ∨ j = 16 ∨ j = 17 ∨ j = 18 ∨ j = 19 ∨ j = 20 ∨ j = 21 ∨ j = 22 ∨ j = 23 ∨ j = 24 by omega) with r | r | r | r | r | r | r | r | r | r | r | r | r | r | r | r | r | r | r | r | r | r | r | r | r
      · subst r; exact (aR (aR (aR (aR (aL (aR (aR (aR (aR (aL h))))))))))
      · subst r; exact (aL (aL (aL (aR (aR (aR (aR (aR (aL h)))))))))
      · subst r; exact (aL (aR (aL (aL (aR (aR (aR (aR (aR (aL h))))))))))
      · subst r; exact (aR (aR (aL (aL (aR (aR (aR (aR (aR (aL h))))))))))
      · subst r; exact (aL (aR (aL (aR (aR (aR (aR (aR (aL h)))))))))
      · subst r; exact (aL (aR (aR (aL (aR (aR (aR (aR (aR (aL h))))))))))
      · subst r; exact (aR (aR (aR (aL (aR (aR (aR (aR (aR (aL h))))))))))
      · subst r; exact (aL (aL (aR (aR (aR (aR (aR (aR (aL h)))))))))
      · subst r; exact (aL (aR (aL (aR (aR (aR (aR (aR (aR (aL h))))))))))
      · subst r; exact (aR (aR (aL (aR (aR (aR (aR (aR (aR (aL h))))))))))
      · subst r; exact (aL (aL (aR (aR (aR (aR (aR (aR (aR (aL h))))))))))
      · subst r; exact (aR (aL (aR (aR (aR (aR (aR (aR (aR (aL h))))))))))
      · subst r; exact (aL (aR (aR (aR (aR (aR (aR (aR (aR (aL h))))))))))
      · subst r; exact (aR (aR (aR (aR (aR (aR (aR (aR (aR (aL h))))))))))
      · subst r; exact (aL (aL (aL (aL (aL (aL (aL (aL (aR h)))))))))
      · subst r; exact (aL (aR (aL (aL (aL (aL (aL (aL (aL (aR h))))))))))
      · subst r; exact (aR (aR (aL (aL (aL (aL (aL (aL (aL (aR h))))))))))
      · subst r; exact (aL (aR (aL (aL (aL (aL (aL (aL (aR h)))))))))
      · subst r; exact (aL (aR (aR (aL (aL (aL (aL (aL (aL (aR h))))))))))
      · subst r; exact (aR (aR (aR (aL (aL (aL (aL (aL (aL (aR h))))))))))
      · subst r; exact (aL (aL (aR (aL (aL (aL (aL (aL (aR h)))))))))
      · subst r; exact (aL (aR (aL (aR (aL (aL (aL (aL (aL (aR h))))))))))
      · subst r; exact (aR (aR (aL (aR (aL (aL (aL (aL (aL (aR h))))))))))
      · subst r; exact (aL (aR (aR (aL (aL (aL (aL (aL (aR h)))))))))
      · subst r; exact (aL (aR (aR (aR (aL (aL (aL (aL (aL (aR h)))))))))))
    (fun i j h1 h2 h3 => absurd (show i = j by omega) h3) hA
  exact ⟨adK 0, adV 0, vk_R.of hw (he 0 (by omega)), (hS.1 0 (by omega)).1, (hS.1 0 (by omega)).2.1, (hS.1 0 (by omega)).2.2.1, (hS.1 0 (by omega)).2.2.2⟩
theorem str_17 {A : Nat → Prop} {args : Array Value} {s : State} (h : narrow_1.before args s = true) (hw : (Cond.stringRef (kOwn 17) (kIdx 17) (kTxt 17)).before args s = true) (hA : ∀ a : Nat, a < s.heap.size → ¬ A a) : ∃ a v : Nat, vk_R (kOwn 17) (kIdx 17) (kTxt 17) a s ∧ va_O "java/lang/String" a A s s.heap ∧ va_OF "java/lang/String" "coder" "B" (.int 0) a A s s.heap ∧ va_OF "java/lang/String" "value" "[B" (.ref v) a A s s.heap ∧ va_T .byte v (kLen 17) (fun j => .int ((kByt 17).getD j 0)) A s s.heap := by
  obtain ⟨adK, adV, hS, he⟩ := vk_Sof (args := args) (s := s) (N := 1) (tm := fun _ => Term.string "ClapValley" 353) (len := [15]) (byt := [kByt 17]) (A := A) (fun i hi => by rw [show i = 0 by omega]; decide)
    (fun _ _ => (aR (aR (aR (aR (aL (aL (aL (aL (aL (aR h))))))))))) (fun _ _ => (aL (aL (aL (aR (aL (aL (aL (aL (aR h)))))))))) (fun _ _ => (aL (aR (aL (aL (aR (aL (aL (aL (aL (aR h))))))))))) (fun i hi => by rw [show i = 0 by omega]; exact (aR (aR (aL (aL (aR (aL (aL (aL (aL (aR h)))))))))))
    (fun i hi j hj => by
      rw [show i = 0 by omega] at hj ⊢
      have hj : j < 15 := hj
      rcases (show j = 0 ∨ j = 1 ∨ j = 2 ∨ j = 3 ∨ j = 4 ∨ j = 5 ∨ j = 6 ∨ j = 7 ∨ j = 8 ∨ j = 9 ∨ j = 10 ∨ j = 11 ∨ j = 12 ∨ j = 13 ∨ j = 14 by omega) with r | r | r | r | r | r | r | r | r | r | r | r | r | r | r
      · subst r; exact (aL (aR (aL (aR (aL (aL (aL (aL (aR h)))))))))
      · subst r; exact (aL (aR (aR (aL (aR (aL (aL (aL (aL (aR h))))))))))
      · subst r; exact (aR (aR (aR (aL (aR (aL (aL (aL (aL (aR h))))))))))
      · subst r; exact (aL (aL (aR (aR (aL (aL (aL (aL (aR h)))))))))
      · subst r; exact (aL (aR (aL (aR (aR (aL (aL (aL (aL (aR h))))))))))
      · subst r; exact (aR (aR (aL (aR (aR (aL (aL (aL (aL (aR h))))))))))
      · subst r; exact (aL (aR (aR (aR (aL (aL (aL (aL (aR h)))))))))
      · subst r; exact (aL (aR (aR (aR (aR (aL (aL (aL (aL (aR h))))))))))
      · subst r; exact (aR (aR (aR (aR (aR (aL (aL (aL (aL (aR h))))))))))
      · subst r; exact (aL (aL (aL (aL (aR (aL (aL (aL (aR h)))))))))
      · subst r; exact (aL (aR (aL (aL (aL (aR (aL (aL (aL (aR h))))))))))
      · subst r; exact (aR (aR (aL (aL (aL (aR (aL (aL (aL (aR h))))))))))
      · subst r; exact (aL (aR (aL (aL (aR (aL (aL (aL (aR h)))))))))
      · subst r; exact (aL (aR (aR (aL (aL (aR (aL (aL (aL (aR h))))))))))
      · subst r; exact (aR (aR (aR (aL (aL (aR (aL (aL (aL (aR h)))))))))))
    (fun i j h1 h2 h3 => absurd (show i = j by omega) h3) hA
  exact ⟨adK 0, adV 0, vk_R.of hw (he 0 (by omega)), (hS.1 0 (by omega)).1, (hS.1 0 (by omega)).2.1, (hS.1 0 (by omega)).2.2.1, (hS.1 0 (by omega)).2.2.2⟩
theorem str_18 {A : Nat → Prop} {args : Array Value} {s : State} (h : narrow_1.before args s = true) (hw : (Cond.stringRef (kOwn 18) (kIdx 18) (kTxt 18)).before args s = true) (hA : ∀ a : Nat, a < s.heap.size → ¬ A a) : ∃ a v : Nat, vk_R (kOwn 18) (kIdx 18) (kTxt 18) a s ∧ va_O "java/lang/String" a A s s.heap ∧ va_OF "java/lang/String" "coder" "B" (.int 0) a A s s.heap ∧ va_OF "java/lang/String" "value" "[B" (.ref v) a A s s.heap ∧ va_T .byte v (kLen 18) (fun j => .int ((kByt 18).getD j 0)) A s s.heap := by
  obtain ⟨adK, adV, hS, he⟩ := vk_Sof (args := args) (s := s) (N := 1) (tm := fun _ => Term.string "ClapValley" 248) (len := [23]) (byt := [kByt 18]) (A := A) (fun i hi => by rw [show i = 0 by omega]; decide)
    (fun _ _ => (aL (aL (aR (aL (aR (aL (aL (aL (aR h)))))))))) (fun _ _ => (aL (aR (aL (aR (aL (aR (aL (aL (aL (aR h))))))))))) (fun _ _ => (aR (aR (aL (aR (aL (aR (aL (aL (aL (aR h))))))))))) (fun i hi => by rw [show i = 0 by omega]; exact (aL (aR (aR (aL (aR (aL (aL (aL (aR h))))))))))
    (fun i hi j hj => by
      rw [show i = 0 by omega] at hj ⊢
      have hj : j < 23 := hj
      rcases (show j = 0 ∨ j = 1 ∨ j = 2 ∨ j = 3 ∨ j = 4 ∨ j = 5 ∨ j = 6 ∨ j = 7 ∨ j = 8 ∨ j = 9 ∨ j = 10 ∨ j = 11 ∨ j = 12 ∨ j = 13 ∨ j = 14 ∨ j = 15 ∨ j = 16 ∨ j = 17 ∨ j = 18 ∨ j = 19 ∨ j = 20 ∨ j = 21 ∨ j = 22 by omega) with r | r | r | r | r | r | r | r | r | r | r | r | r | r | r | r | r | r | r | r | r | r | r
      · subst r; exact (aL (aR (aR (aR (aL (aR (aL (aL (aL (aR h))))))))))
      · subst r; exact (aR (aR (aR (aR (aL (aR (aL (aL (aL (aR h))))))))))
      · subst r; exact (aL (aL (aL (aR (aR (aL (aL (aL (aR h)))))))))
      · subst r; exact (aL (aR (aL (aL (aR (aR (aL (aL (aL (aR h))))))))))
      · subst r; exact (aR (aR (aL (aL (aR (aR (aL (aL (aL (aR h))))))))))
      · subst r; exact (aL (aR (aL (aR (aR (aL (aL (aL (aR h)))))))))
      · subst r; exact (aL (aR (aR (aL (aR (aR (aL (aL (aL (aR h))))))))))
      · subst r; exact (aR (aR (aR (aL (aR (aR (aL (aL (aL (aR h))))))))))
      · subst r; exact (aL (aL (aR (aR (aR (aL (aL (aL (aR h)))))))))
      · subst r; exact (aL (aR (aL (aR (aR (aR (aL (aL (aL (aR h))))))))))
      · subst r; exact (aR (aR (aL (aR (aR (aR (aL (aL (aL (aR h))))))))))
      · subst r; exact (aL (aL (aR (aR (aR (aR (aL (aL (aL (aR h))))))))))
      · subst r; exact (aR (aL (aR (aR (aR (aR (aL (aL (aL (aR h))))))))))
      · subst r; exact (aL (aR (aR (aR (aR (aR (aL (aL (aL (aR h))))))))))
      · subst r; exact (aR (aR (aR (aR (aR (aR (aL (aL (aL (aR h))))))))))
      · subst r; exact (aL (aL (aL (aL (aL (aR (aL (aL (aR h)))))))))
      · subst r; exact (aL (aR (aL (aL (aL (aL (aR (aL (aL (aR h))))))))))
      · subst r; exact (aR (aR (aL (aL (aL (aL (aR (aL (aL (aR h))))))))))
      · subst r; exact (aL (aR (aL (aL (aL (aR (aL (aL (aR h)))))))))
      · subst r; exact (aL (aR (aR (aL (aL (aL (aR (aL (aL (aR h))))))))))
      · subst r; exact (aR (aR (aR (aL (aL (aL (aR (aL (aL (aR h))))))))))
      · subst r; exact (aL (aL (aR (aL (aL (aR (aL (aL (aR h)))))))))
      · subst r; exact (aL (aR (aL (aR (aL (aL (aR (aL (aL (aR h)))))))))))
    (fun i j h1 h2 h3 => absurd (show i = j by omega) h3) hA
  exact ⟨adK 0, adV 0, vk_R.of hw (he 0 (by omega)), (hS.1 0 (by omega)).1, (hS.1 0 (by omega)).2.1, (hS.1 0 (by omega)).2.2.1, (hS.1 0 (by omega)).2.2.2⟩
theorem str_19 {A : Nat → Prop} {args : Array Value} {s : State} (h : narrow_1.before args s = true) (hw : (Cond.stringRef (kOwn 19) (kIdx 19) (kTxt 19)).before args s = true) (hA : ∀ a : Nat, a < s.heap.size → ¬ A a) : ∃ a v : Nat, vk_R (kOwn 19) (kIdx 19) (kTxt 19) a s ∧ va_O "java/lang/String" a A s s.heap ∧ va_OF "java/lang/String" "coder" "B" (.int 0) a A s s.heap ∧ va_OF "java/lang/String" "value" "[B" (.ref v) a A s s.heap ∧ va_T .byte v (kLen 19) (fun j => .int ((kByt 19).getD j 0)) A s s.heap := by
  obtain ⟨adK, adV, hS, he⟩ := vk_Sof (args := args) (s := s) (N := 1) (tm := fun _ => Term.string "ClapValley" 221) (len := [32]) (byt := [kByt 19]) (A := A) (fun i hi => by rw [show i = 0 by omega]; decide)
    (fun _ _ => (aR (aR (aL (aR (aL (aL (aR (aL (aL (aR h))))))))))) (fun _ _ => (aL (aR (aR (aL (aL (aR (aL (aL (aR h)))))))))) (fun _ _ => (aL (aR (aR (aR (aL (aL (aR (aL (aL (aR h))))))))))) (fun i hi => by rw [show i = 0 by omega]; exact (aR (aR (aR (aR (aL (aL (aR (aL (aL (aR h)))))))))))
    (fun i hi j hj => by
      rw [show i = 0 by omega] at hj ⊢
      have hj : j < 32 := hj
      rcases (show j = 0 ∨ j = 1 ∨ j = 2 ∨ j = 3 ∨ j = 4 ∨ j = 5 ∨ j = 6 ∨ j = 7 ∨ j = 8 ∨ j = 9 ∨ j = 10 ∨ j = 11 ∨ j = 12 ∨ j = 13 ∨ j = 14 ∨ j = 15 ∨ j = 16 ∨ j = 17 ∨ j = 18 ∨ j = 19 ∨ j = 20 ∨ j = 21 ∨ j = 22 ∨ j = 23 ∨ j = 24 ∨ j = 25 ∨ j = 26 ∨ j = 27 ∨ j = 28 ∨ j = 29 ∨ j = 30 ∨ j = 31 by omega) with r | r | r | r | r | r | r | r | r | r | r | r | r | r | r | r | r | r | r | r | r | r | r | r | r | r | r | r | r | r | r | r
      · subst r; exact (aL (aL (aL (aR (aL (aR (aL (aL (aR h)))))))))
      · subst r; exact (aL (aR (aL (aL (aR (aL (aR (aL (aL (aR h))))))))))
      · subst r; exact (aR (aR (aL (aL (aR (aL (aR (aL (aL (aR h))))))))))
      · subst r; exact (aL (aR (aL (aR (aL (aR (aL (aL (aR h)))))))))
      · subst r; exact (aL (aR (aR (aL (aR (aL (aR (aL (aL (aR h))))))))))
      · subst r; exact (aR (aR (aR (aL (aR (aL (aR (aL (aL (aR h))))))))))
      · subst r; exact (aL (aL (aR (aR (aL (aR (aL (aL (aR h)))))))))
      · subst r; exact (aL (aR (aL (aR (aR (aL (aR (aL (aL (aR h))))))))))
      · subst r; exact (aR (aR (aL (aR (aR (aL (aR (aL (aL (aR h))))))))))
      · subst r; exact (aL (aR (aR (aR (aL (aR (aL (aL (aR h)))))))))
      · subst r; exact (aL (aR (aR (aR (aR (aL (aR (aL (aL (aR h))))))))))
      · subst r; exact (aR (aR (aR (aR (aR (aL (aR (aL (aL (aR h))))))))))
      · subst r; exact (aL (aL (aL (aL (aR (aR (aL (aL (aR h)))))))))
      · subst r; exact (aL (aR (aL (aL (aL (aR (aR (aL (aL (aR h))))))))))
      · subst r; exact (aR (aR (aL (aL (aL (aR (aR (aL (aL (aR h))))))))))
      · subst r; exact (aL (aR (aL (aL (aR (aR (aL (aL (aR h)))))))))
      · subst r; exact (aL (aR (aR (aL (aL (aR (aR (aL (aL (aR h))))))))))
      · subst r; exact (aR (aR (aR (aL (aL (aR (aR (aL (aL (aR h))))))))))
      · subst r; exact (aL (aL (aR (aL (aR (aR (aL (aL (aR h)))))))))
      · subst r; exact (aL (aR (aL (aR (aL (aR (aR (aL (aL (aR h))))))))))
      · subst r; exact (aR (aR (aL (aR (aL (aR (aR (aL (aL (aR h))))))))))
      · subst r; exact (aL (aR (aR (aL (aR (aR (aL (aL (aR h)))))))))
      · subst r; exact (aL (aR (aR (aR (aL (aR (aR (aL (aL (aR h))))))))))
      · subst r; exact (aR (aR (aR (aR (aL (aR (aR (aL (aL (aR h))))))))))
      · subst r; exact (aL (aL (aL (aR (aR (aR (aL (aL (aR h)))))))))
      · subst r; exact (aL (aR (aL (aL (aR (aR (aR (aL (aL (aR h))))))))))
      · subst r; exact (aR (aR (aL (aL (aR (aR (aR (aL (aL (aR h))))))))))
      · subst r; exact (aL (aR (aL (aR (aR (aR (aL (aL (aR h)))))))))
      · subst r; exact (aL (aR (aR (aL (aR (aR (aR (aL (aL (aR h))))))))))
      · subst r; exact (aR (aR (aR (aL (aR (aR (aR (aL (aL (aR h))))))))))
      · subst r; exact (aL (aL (aR (aR (aR (aR (aL (aL (aR h)))))))))
      · subst r; exact (aL (aR (aL (aR (aR (aR (aR (aL (aL (aR h)))))))))))
    (fun i j h1 h2 h3 => absurd (show i = j by omega) h3) hA
  exact ⟨adK 0, adV 0, vk_R.of hw (he 0 (by omega)), (hS.1 0 (by omega)).1, (hS.1 0 (by omega)).2.1, (hS.1 0 (by omega)).2.2.1, (hS.1 0 (by omega)).2.2.2⟩
theorem str_20 {A : Nat → Prop} {args : Array Value} {s : State} (h : narrow_1.before args s = true) (hw : (Cond.stringRef (kOwn 20) (kIdx 20) (kTxt 20)).before args s = true) (hA : ∀ a : Nat, a < s.heap.size → ¬ A a) : ∃ a v : Nat, vk_R (kOwn 20) (kIdx 20) (kTxt 20) a s ∧ va_O "java/lang/String" a A s s.heap ∧ va_OF "java/lang/String" "coder" "B" (.int 0) a A s s.heap ∧ va_OF "java/lang/String" "value" "[B" (.ref v) a A s s.heap ∧ va_T .byte v (kLen 20) (fun j => .int ((kByt 20).getD j 0)) A s s.heap := by
  obtain ⟨adK, adV, hS, he⟩ := vk_Sof (args := args) (s := s) (N := 1) (tm := fun _ => Term.string "ClapValley" 355) (len := [22]) (byt := [kByt 20]) (A := A) (fun i hi => by rw [show i = 0 by omega]; decide)
    (fun _ _ => (aR (aR (aL (aR (aR (aR (aR (aL (aL (aR h))))))))))) (fun _ _ => (aL (aL (aR (aR (aR (aR (aR (aL (aL (aR h))))))))))) (fun _ _ => (aR (aL (aR (aR (aR (aR (aR (aL (aL (aR h))))))))))) (fun i hi => by rw [show i = 0 by omega]; exact (aL (aR (aR (aR (aR (aR (aR (aL (aL (aR h)))))))))))
    (fun i hi j hj => by
      rw [show i = 0 by omega] at hj ⊢
      have hj : j < 22 := hj
      rcases (show j = 0 ∨ j = 1 ∨ j = 2 ∨ j = 3 ∨ j = 4 ∨ j = 5 ∨ j = 6 ∨ j = 7 ∨ j = 8 ∨ j = 9 ∨ j = 10 ∨ j = 11 ∨ j = 12 ∨ j = 13 ∨ j = 14 ∨ j = 15 ∨ j = 16 ∨ j = 17 ∨ j = 18 ∨ j = 19 ∨ j = 20 ∨ j = 21 by omega) with r | r | r | r | r | r | r | r | r | r | r | r | r | r | r | r | r | r | r | r | r | r
      · subst r; exact (aR (aR (aR (aR (aR (aR (aR (aL (aL (aR h))))))))))
      · subst r; exact (aL (aL (aL (aL (aL (aL (aR (aL (aR h)))))))))
      · subst r; exact (aL (aR (aL (aL (aL (aL (aL (aR (aL (aR h))))))))))
      · subst r; exact (aR (aR (aL (aL (aL (aL (aL (aR (aL (aR h))))))))))
      · subst r; exact (aL (aR (aL (aL (aL (aL (aR (aL (aR h)))))))))
      · subst r; exact (aL (aR (aR (aL (aL (aL (aL (aR (aL (aR h))))))))))
      · subst r; exact (aR (aR (aR (aL (aL (aL (aL (aR (aL (aR h))))))))))
      · subst r; exact (aL (aL (aR (aL (aL (aL (aR (aL (aR h)))))))))
      · subst r; exact (aL (aR (aL (aR (aL (aL (aL (aR (aL (aR h))))))))))
      · subst r; exact (aR (aR (aL (aR (aL (aL (aL (aR (aL (aR h))))))))))
      · subst r; exact (aL (aR (aR (aL (aL (aL (aR (aL (aR h)))))))))
      · subst r; exact (aL (aR (aR (aR (aL (aL (aL (aR (aL (aR h))))))))))
      · subst r; exact (aR (aR (aR (aR (aL (aL (aL (aR (aL (aR h))))))))))
      · subst r; exact (aL (aL (aL (aR (aL (aL (aR (aL (aR h)))))))))
      · subst r; exact (aL (aR (aL (aL (aR (aL (aL (aR (aL (aR h))))))))))
      · subst r; exact (aR (aR (aL (aL (aR (aL (aL (aR (aL (aR h))))))))))
      · subst r; exact (aL (aR (aL (aR (aL (aL (aR (aL (aR h)))))))))
      · subst r; exact (aL (aR (aR (aL (aR (aL (aL (aR (aL (aR h))))))))))
      · subst r; exact (aR (aR (aR (aL (aR (aL (aL (aR (aL (aR h))))))))))
      · subst r; exact (aL (aL (aR (aR (aL (aL (aR (aL (aR h)))))))))
      · subst r; exact (aL (aR (aL (aR (aR (aL (aL (aR (aL (aR h))))))))))
      · subst r; exact (aR (aR (aL (aR (aR (aL (aL (aR (aL (aR h)))))))))))
    (fun i j h1 h2 h3 => absurd (show i = j by omega) h3) hA
  exact ⟨adK 0, adV 0, vk_R.of hw (he 0 (by omega)), (hS.1 0 (by omega)).1, (hS.1 0 (by omega)).2.1, (hS.1 0 (by omega)).2.2.1, (hS.1 0 (by omega)).2.2.2⟩
theorem str_21 {A : Nat → Prop} {args : Array Value} {s : State} (h : narrow_1.before args s = true) (hw : (Cond.stringRef (kOwn 21) (kIdx 21) (kTxt 21)).before args s = true) (hA : ∀ a : Nat, a < s.heap.size → ¬ A a) : ∃ a v : Nat, vk_R (kOwn 21) (kIdx 21) (kTxt 21) a s ∧ va_O "java/lang/String" a A s s.heap ∧ va_OF "java/lang/String" "coder" "B" (.int 0) a A s s.heap ∧ va_OF "java/lang/String" "value" "[B" (.ref v) a A s s.heap ∧ va_T .byte v (kLen 21) (fun j => .int ((kByt 21).getD j 0)) A s s.heap := by
  obtain ⟨adK, adV, hS, he⟩ := vk_Sof (args := args) (s := s) (N := 1) (tm := fun _ => Term.string "ClapValley" 226) (len := [28]) (byt := [kByt 21]) (A := A) (fun i hi => by rw [show i = 0 by omega]; decide)
    (fun _ _ => (aL (aR (aR (aR (aL (aL (aR (aL (aR h)))))))))) (fun _ _ => (aL (aR (aR (aR (aR (aL (aL (aR (aL (aR h))))))))))) (fun _ _ => (aR (aR (aR (aR (aR (aL (aL (aR (aL (aR h))))))))))) (fun i hi => by rw [show i = 0 by omega]; exact (aL (aL (aL (aL (aR (aL (aR (aL (aR h))))))))))
    (fun i hi j hj => by
      rw [show i = 0 by omega] at hj ⊢
      have hj : j < 28 := hj
      rcases (show j = 0 ∨ j = 1 ∨ j = 2 ∨ j = 3 ∨ j = 4 ∨ j = 5 ∨ j = 6 ∨ j = 7 ∨ j = 8 ∨ j = 9 ∨ j = 10 ∨ j = 11 ∨ j = 12 ∨ j = 13 ∨ j = 14 ∨ j = 15 ∨ j = 16 ∨ j = 17 ∨ j = 18 ∨ j = 19 ∨ j = 20 ∨ j = 21 ∨ j = 22 ∨ j = 23 ∨ j = 24 ∨ j = 25 ∨ j = 26 ∨ j = 27 by omega) with r | r | r | r | r | r | r | r | r | r | r | r | r | r | r | r | r | r | r | r | r | r | r | r | r | r | r | r
      · subst r; exact (aL (aR (aL (aL (aL (aR (aL (aR (aL (aR h))))))))))
      · subst r; exact (aR (aR (aL (aL (aL (aR (aL (aR (aL (aR h))))))))))
      · subst r; exact (aL (aR (aL (aL (aR (aL (aR (aL (aR h)))))))))
      · subst r; exact (aL (aR (aR (aL (aL (aR (aL (aR (aL (aR h))))))))))
      · subst r; exact (aR (aR (aR (aL (aL (aR (aL (aR (aL (aR h))))))))))
      · subst r; exact (aL (aL (aR (aL (aR (aL (aR (aL (aR h)))))))))
      · subst r; exact (aL (aR (aL (aR (aL (aR (aL (aR (aL (aR h))))))))))
      · subst r; exact (aR (aR (aL (aR (aL (aR (aL (aR (aL (aR h))))))))))
      · subst r; exact (aL (aR (aR (aL (aR (aL (aR (aL (aR h)))))))))
      · subst r; exact (aL (aR (aR (aR (aL (aR (aL (aR (aL (aR h))))))))))
      · subst r; exact (aR (aR (aR (aR (aL (aR (aL (aR (aL (aR h))))))))))
      · subst r; exact (aL (aL (aL (aR (aR (aL (aR (aL (aR h)))))))))
      · subst r; exact (aL (aR (aL (aL (aR (aR (aL (aR (aL (aR h))))))))))
      · subst r; exact (aR (aR (aL (aL (aR (aR (aL (aR (aL (aR h))))))))))
      · subst r; exact (aL (aR (aL (aR (aR (aL (aR (aL (aR h)))))))))
      · subst r; exact (aL (aR (aR (aL (aR (aR (aL (aR (aL (aR h))))))))))
      · subst r; exact (aR (aR (aR (aL (aR (aR (aL (aR (aL (aR h))))))))))
      · subst r; exact (aL (aL (aR (aR (aR (aL (aR (aL (aR h)))))))))
      · subst r; exact (aL (aR (aL (aR (aR (aR (aL (aR (aL (aR h))))))))))
      · subst r; exact (aR (aR (aL (aR (aR (aR (aL (aR (aL (aR h))))))))))
      · subst r; exact (aL (aL (aR (aR (aR (aR (aL (aR (aL (aR h))))))))))
      · subst r; exact (aR (aL (aR (aR (aR (aR (aL (aR (aL (aR h))))))))))
      · subst r; exact (aL (aR (aR (aR (aR (aR (aL (aR (aL (aR h))))))))))
      · subst r; exact (aR (aR (aR (aR (aR (aR (aL (aR (aL (aR h))))))))))
      · subst r; exact (aL (aL (aL (aL (aL (aR (aR (aL (aR h)))))))))
      · subst r; exact (aL (aR (aL (aL (aL (aL (aR (aR (aL (aR h))))))))))
      · subst r; exact (aR (aR (aL (aL (aL (aL (aR (aR (aL (aR h))))))))))
      · subst r; exact (aL (aR (aL (aL (aL (aR (aR (aL (aR h))))))))))
    (fun i j h1 h2 h3 => absurd (show i = j by omega) h3) hA
  exact ⟨adK 0, adV 0, vk_R.of hw (he 0 (by omega)), (hS.1 0 (by omega)).1, (hS.1 0 (by omega)).2.1, (hS.1 0 (by omega)).2.2.1, (hS.1 0 (by omega)).2.2.2⟩
theorem str_22 {A : Nat → Prop} {args : Array Value} {s : State} (h : narrow_1.before args s = true) (hw : (Cond.stringRef (kOwn 22) (kIdx 22) (kTxt 22)).before args s = true) (hA : ∀ a : Nat, a < s.heap.size → ¬ A a) : ∃ a v : Nat, vk_R (kOwn 22) (kIdx 22) (kTxt 22) a s ∧ va_O "java/lang/String" a A s s.heap ∧ va_OF "java/lang/String" "coder" "B" (.int 0) a A s s.heap ∧ va_OF "java/lang/String" "value" "[B" (.ref v) a A s s.heap ∧ va_T .byte v (kLen 22) (fun j => .int ((kByt 22).getD j 0)) A s s.heap := by
  obtain ⟨adK, adV, hS, he⟩ := vk_Sof (args := args) (s := s) (N := 1) (tm := fun _ => Term.string "ClapValley" 235) (len := [30]) (byt := [kByt 22]) (A := A) (fun i hi => by rw [show i = 0 by omega]; decide)
    (fun _ _ => (aL (aR (aR (aL (aL (aL (aR (aR (aL (aR h))))))))))) (fun _ _ => (aR (aR (aR (aL (aL (aL (aR (aR (aL (aR h))))))))))) (fun _ _ => (aL (aL (aR (aL (aL (aR (aR (aL (aR h)))))))))) (fun i hi => by rw [show i = 0 by omega]; exact (aL (aR (aL (aR (aL (aL (aR (aR (aL (aR h)))))))))))
    (fun i hi j hj => by
      rw [show i = 0 by omega] at hj ⊢
      have hj : j < 30 := hj
      rcases (show j = 0 ∨ j = 1 ∨ j = 2 ∨ j = 3 ∨ j = 4 ∨ j = 5 ∨ j = 6 ∨ j = 7 ∨ j = 8 ∨ j = 9 ∨ j = 10 ∨ j = 11 ∨ j = 12 ∨ j = 13 ∨ j = 14 ∨ j = 15 ∨ j = 16 ∨ j = 17 ∨ j = 18 ∨ j = 19 ∨ j = 20 ∨ j = 21 ∨ j = 22 ∨ j = 23 ∨ j = 24 ∨ j = 25 ∨ j = 26 ∨ j = 27 ∨ j = 28 ∨ j = 29 by omega) with r | r | r | r | r | r | r | r | r | r | r | r | r | r | r | r | r | r | r | r | r | r | r | r | r | r | r | r | r | r
      · subst r; exact (aR (aR (aL (aR (aL (aL (aR (aR (aL (aR h))))))))))
      · subst r; exact (aL (aR (aR (aL (aL (aR (aR (aL (aR h)))))))))
      · subst r; exact (aL (aR (aR (aR (aL (aL (aR (aR (aL (aR h))))))))))
      · subst r; exact (aR (aR (aR (aR (aL (aL (aR (aR (aL (aR h))))))))))
      · subst r; exact (aL (aL (aL (aR (aL (aR (aR (aL (aR h)))))))))
      · subst r; exact (aL (aR (aL (aL (aR (aL (aR (aR (aL (aR h))))))))))
      · subst r; exact (aR (aR (aL (aL (aR (aL (aR (aR (aL (aR h))))))))))
      · subst r; exact (aL (aR (aL (aR (aL (aR (aR (aL (aR h)))))))))
      · subst r; exact (aL (aR (aR (aL (aR (aL (aR (aR (aL (aR h))))))))))
      · subst r; exact (aR (aR (aR (aL (aR (aL (aR (aR (aL (aR h))))))))))
      · subst r; exact (aL (aL (aR (aR (aL (aR (aR (aL (aR h)))))))))
      · subst r; exact (aL (aR (aL (aR (aR (aL (aR (aR (aL (aR h))))))))))
      · subst r; exact (aR (aR (aL (aR (aR (aL (aR (aR (aL (aR h))))))))))
      · subst r; exact (aL (aL (aR (aR (aR (aL (aR (aR (aL (aR h))))))))))
      · subst r; exact (aR (aL (aR (aR (aR (aL (aR (aR (aL (aR h))))))))))
      · subst r; exact (aL (aR (aR (aR (aR (aL (aR (aR (aL (aR h))))))))))
      · subst r; exact (aR (aR (aR (aR (aR (aL (aR (aR (aL (aR h))))))))))
      · subst r; exact (aL (aL (aL (aL (aR (aR (aR (aL (aR h)))))))))
      · subst r; exact (aL (aR (aL (aL (aL (aR (aR (aR (aL (aR h))))))))))
      · subst r; exact (aR (aR (aL (aL (aL (aR (aR (aR (aL (aR h))))))))))
      · subst r; exact (aL (aR (aL (aL (aR (aR (aR (aL (aR h)))))))))
      · subst r; exact (aL (aR (aR (aL (aL (aR (aR (aR (aL (aR h))))))))))
      · subst r; exact (aR (aR (aR (aL (aL (aR (aR (aR (aL (aR h))))))))))
      · subst r; exact (aL (aL (aR (aL (aR (aR (aR (aL (aR h)))))))))
      · subst r; exact (aL (aR (aL (aR (aL (aR (aR (aR (aL (aR h))))))))))
      · subst r; exact (aR (aR (aL (aR (aL (aR (aR (aR (aL (aR h))))))))))
      · subst r; exact (aL (aR (aR (aL (aR (aR (aR (aL (aR h)))))))))
      · subst r; exact (aL (aR (aR (aR (aL (aR (aR (aR (aL (aR h))))))))))
      · subst r; exact (aR (aR (aR (aR (aL (aR (aR (aR (aL (aR h))))))))))
      · subst r; exact (aL (aL (aL (aR (aR (aR (aR (aL (aR h))))))))))
    (fun i j h1 h2 h3 => absurd (show i = j by omega) h3) hA
  exact ⟨adK 0, adV 0, vk_R.of hw (he 0 (by omega)), (hS.1 0 (by omega)).1, (hS.1 0 (by omega)).2.1, (hS.1 0 (by omega)).2.2.1, (hS.1 0 (by omega)).2.2.2⟩
theorem str_23 {A : Nat → Prop} {args : Array Value} {s : State} (h : narrow_1.before args s = true) (hw : (Cond.stringRef (kOwn 23) (kIdx 23) (kTxt 23)).before args s = true) (hA : ∀ a : Nat, a < s.heap.size → ¬ A a) : ∃ a v : Nat, vk_R (kOwn 23) (kIdx 23) (kTxt 23) a s ∧ va_O "java/lang/String" a A s s.heap ∧ va_OF "java/lang/String" "coder" "B" (.int 0) a A s s.heap ∧ va_OF "java/lang/String" "value" "[B" (.ref v) a A s s.heap ∧ va_T .byte v (kLen 23) (fun j => .int ((kByt 23).getD j 0)) A s s.heap := by
  obtain ⟨adK, adV, hS, he⟩ := vk_Sof (args := args) (s := s) (N := 1) (tm := fun _ => Term.string "ClapValley" 274) (len := [11]) (byt := [kByt 23]) (A := A) (fun i hi => by rw [show i = 0 by omega]; decide)
    (fun _ _ => (aL (aR (aL (aL (aR (aR (aR (aR (aL (aR h))))))))))) (fun _ _ => (aR (aR (aL (aL (aR (aR (aR (aR (aL (aR h))))))))))) (fun _ _ => (aL (aR (aL (aR (aR (aR (aR (aL (aR h)))))))))) (fun i hi => by rw [show i = 0 by omega]; exact (aL (aR (aR (aL (aR (aR (aR (aR (aL (aR h)))))))))))
    (fun i hi j hj => by
      rw [show i = 0 by omega] at hj ⊢
      have hj : j < 11 := hj
      rcases (show j = 0 ∨ j = 1 ∨ j = 2 ∨ j = 3 ∨ j = 4 ∨ j = 5 ∨ j = 6 ∨ j = 7 ∨ j = 8 ∨ j = 9 ∨ j = 10 by omega) with r | r | r | r | r | r | r | r | r | r | r
      · subst r; exact (aR (aR (aR (aL (aR (aR (aR (aR (aL (aR h))))))))))
      · subst r; exact (aL (aL (aR (aR (aR (aR (aR (aL (aR h)))))))))
      · subst r; exact (aL (aR (aL (aR (aR (aR (aR (aR (aL (aR h))))))))))
      · subst r; exact (aR (aR (aL (aR (aR (aR (aR (aR (aL (aR h))))))))))
      · subst r; exact (aL (aL (aR (aR (aR (aR (aR (aR (aL (aR h))))))))))
      · subst r; exact (aR (aL (aR (aR (aR (aR (aR (aR (aL (aR h))))))))))
      · subst r; exact (aL (aR (aR (aR (aR (aR (aR (aR (aL (aR h))))))))))
      · subst r; exact (aR (aR (aR (aR (aR (aR (aR (aR (aL (aR h))))))))))
      · subst r; exact (aL (aL (aL (aL (aL (aL (aL (aR (aR h)))))))))
      · subst r; exact (aL (aR (aL (aL (aL (aL (aL (aL (aR (aR h))))))))))
      · subst r; exact (aR (aR (aL (aL (aL (aL (aL (aL (aR (aR h)))))))))))
    (fun i j h1 h2 h3 => absurd (show i = j by omega) h3) hA
  exact ⟨adK 0, adV 0, vk_R.of hw (he 0 (by omega)), (hS.1 0 (by omega)).1, (hS.1 0 (by omega)).2.1, (hS.1 0 (by omega)).2.2.1, (hS.1 0 (by omega)).2.2.2⟩
theorem str_24 {A : Nat → Prop} {args : Array Value} {s : State} (h : narrow_1.before args s = true) (hw : (Cond.stringRef (kOwn 24) (kIdx 24) (kTxt 24)).before args s = true) (hA : ∀ a : Nat, a < s.heap.size → ¬ A a) : ∃ a v : Nat, vk_R (kOwn 24) (kIdx 24) (kTxt 24) a s ∧ va_O "java/lang/String" a A s s.heap ∧ va_OF "java/lang/String" "coder" "B" (.int 0) a A s s.heap ∧ va_OF "java/lang/String" "value" "[B" (.ref v) a A s s.heap ∧ va_T .byte v (kLen 24) (fun j => .int ((kByt 24).getD j 0)) A s s.heap := by
  obtain ⟨adK, adV, hS, he⟩ := vk_Sof (args := args) (s := s) (N := 1) (tm := fun _ => Term.string "ClapValley" 276) (len := [29]) (byt := [kByt 24]) (A := A) (fun i hi => by rw [show i = 0 by omega]; decide)
    (fun _ _ => (aL (aR (aL (aL (aL (aL (aL (aR (aR h)))))))))) (fun _ _ => (aL (aR (aR (aL (aL (aL (aL (aL (aR (aR h))))))))))) (fun _ _ => (aR (aR (aR (aL (aL (aL (aL (aL (aR (aR h))))))))))) (fun i hi => by rw [show i = 0 by omega]; exact (aL (aL (aR (aL (aL (aL (aL (aR (aR h))))))))))
    (fun i hi j hj => by
      rw [show i = 0 by omega] at hj ⊢
      have hj : j < 29 := hj
      rcases (show j = 0 ∨ j = 1 ∨ j = 2 ∨ j = 3 ∨ j = 4 ∨ j = 5 ∨ j = 6 ∨ j = 7 ∨ j = 8 ∨ j = 9 ∨ j = 10 ∨ j = 11 ∨ j = 12 ∨ j = 13 ∨ j = 14 ∨ j = 15 ∨ j = 16 ∨ j = 17 ∨ j = 18 ∨ j = 19 ∨ j = 20 ∨ j = 21 ∨ j = 22 ∨ j = 23 ∨ j = 24 ∨ j = 25 ∨ j = 26 ∨ j = 27 ∨ j = 28 by omega) with r | r | r | r | r | r | r | r | r | r | r | r | r | r | r | r | r | r | r | r | r | r | r | r | r | r | r | r | r
      · subst r; exact (aL (aR (aL (aR (aL (aL (aL (aL (aR (aR h))))))))))
      · subst r; exact (aR (aR (aL (aR (aL (aL (aL (aL (aR (aR h))))))))))
      · subst r; exact (aL (aR (aR (aL (aL (aL (aL (aR (aR h)))))))))
      · subst r; exact (aL (aR (aR (aR (aL (aL (aL (aL (aR (aR h))))))))))
      · subst r; exact (aR (aR (aR (aR (aL (aL (aL (aL (aR (aR h))))))))))
      · subst r; exact (aL (aL (aL (aR (aL (aL (aL (aR (aR h)))))))))
      · subst r; exact (aL (aR (aL (aL (aR (aL (aL (aL (aR (aR h))))))))))
      · subst r; exact (aR (aR (aL (aL (aR (aL (aL (aL (aR (aR h))))))))))
      · subst r; exact (aL (aR (aL (aR (aL (aL (aL (aR (aR h)))))))))
      · subst r; exact (aL (aR (aR (aL (aR (aL (aL (aL (aR (aR h))))))))))
      · subst r; exact (aR (aR (aR (aL (aR (aL (aL (aL (aR (aR h))))))))))
      · subst r; exact (aL (aL (aR (aR (aL (aL (aL (aR (aR h)))))))))
      · subst r; exact (aL (aR (aL (aR (aR (aL (aL (aL (aR (aR h))))))))))
      · subst r; exact (aR (aR (aL (aR (aR (aL (aL (aL (aR (aR h))))))))))
      · subst r; exact (aL (aR (aR (aR (aL (aL (aL (aR (aR h)))))))))
      · subst r; exact (aL (aR (aR (aR (aR (aL (aL (aL (aR (aR h))))))))))
      · subst r; exact (aR (aR (aR (aR (aR (aL (aL (aL (aR (aR h))))))))))
      · subst r; exact (aL (aL (aL (aL (aR (aL (aL (aR (aR h)))))))))
      · subst r; exact (aL (aR (aL (aL (aL (aR (aL (aL (aR (aR h))))))))))
      · subst r; exact (aR (aR (aL (aL (aL (aR (aL (aL (aR (aR h))))))))))
      · subst r; exact (aL (aR (aL (aL (aR (aL (aL (aR (aR h)))))))))
      · subst r; exact (aL (aR (aR (aL (aL (aR (aL (aL (aR (aR h))))))))))
      · subst r; exact (aR (aR (aR (aL (aL (aR (aL (aL (aR (aR h))))))))))
      · subst r; exact (aL (aL (aR (aL (aR (aL (aL (aR (aR h)))))))))
      · subst r; exact (aL (aR (aL (aR (aL (aR (aL (aL (aR (aR h))))))))))
      · subst r; exact (aR (aR (aL (aR (aL (aR (aL (aL (aR (aR h))))))))))
      · subst r; exact (aL (aR (aR (aL (aR (aL (aL (aR (aR h)))))))))
      · subst r; exact (aL (aR (aR (aR (aL (aR (aL (aL (aR (aR h))))))))))
      · subst r; exact (aR (aR (aR (aR (aL (aR (aL (aL (aR (aR h)))))))))))
    (fun i j h1 h2 h3 => absurd (show i = j by omega) h3) hA
  exact ⟨adK 0, adV 0, vk_R.of hw (he 0 (by omega)), (hS.1 0 (by omega)).1, (hS.1 0 (by omega)).2.1, (hS.1 0 (by omega)).2.2.1, (hS.1 0 (by omega)).2.2.2⟩
theorem str_25 {A : Nat → Prop} {args : Array Value} {s : State} (h : narrow_1.before args s = true) (hw : (Cond.stringRef (kOwn 25) (kIdx 25) (kTxt 25)).before args s = true) (hA : ∀ a : Nat, a < s.heap.size → ¬ A a) : ∃ a v : Nat, vk_R (kOwn 25) (kIdx 25) (kTxt 25) a s ∧ va_O "java/lang/String" a A s s.heap ∧ va_OF "java/lang/String" "coder" "B" (.int 0) a A s s.heap ∧ va_OF "java/lang/String" "value" "[B" (.ref v) a A s s.heap ∧ va_T .byte v (kLen 25) (fun j => .int ((kByt 25).getD j 0)) A s s.heap := by
  obtain ⟨adK, adV, hS, he⟩ := vk_Sof (args := args) (s := s) (N := 1) (tm := fun _ => Term.string "ClapValley" 286) (len := [21]) (byt := [kByt 25]) (A := A) (fun i hi => by rw [show i = 0 by omega]; decide)
    (fun _ _ => (aL (aL (aL (aR (aR (aL (aL (aR (aR h)))))))))) (fun _ _ => (aL (aR (aL (aL (aR (aR (aL (aL (aR (aR h))))))))))) (fun _ _ => (aR (aR (aL (aL (aR (aR (aL (aL (aR (aR h))))))))))) (fun i hi => by rw [show i = 0 by omega]; exact (aL (aR (aL (aR (aR (aL (aL (aR (aR h))))))))))
    (fun i hi j hj => by
      rw [show i = 0 by omega] at hj ⊢
      have hj : j < 21 := hj
      rcases (show j = 0 ∨ j = 1 ∨ j = 2 ∨ j = 3 ∨ j = 4 ∨ j = 5 ∨ j = 6 ∨ j = 7 ∨ j = 8 ∨ j = 9 ∨ j = 10 ∨ j = 11 ∨ j = 12 ∨ j = 13 ∨ j = 14 ∨ j = 15 ∨ j = 16 ∨ j = 17 ∨ j = 18 ∨ j = 19 ∨ j = 20 by omega) with r | r | r | r | r | r | r | r | r | r | r | r | r | r | r | r | r | r | r | r | r
      · subst r; exact (aL (aR (aR (aL (aR (aR (aL (aL (aR (aR h))))))))))
      · subst r; exact (aR (aR (aR (aL (aR (aR (aL (aL (aR (aR h))))))))))
      · subst r; exact (aL (aL (aR (aR (aR (aL (aL (aR (aR h)))))))))
      · subst r; exact (aL (aR (aL (aR (aR (aR (aL (aL (aR (aR h))))))))))
      · subst r; exact (aR (aR (aL (aR (aR (aR (aL (aL (aR (aR h))))))))))
      · subst r; exact (aL (aL (aR (aR (aR (aR (aL (aL (aR (aR h))))))))))
      · subst r; exact (aR (aL (aR (aR (aR (aR (aL (aL (aR (aR h))))))))))
      · subst r; exact (aL (aR (aR (aR (aR (aR (aL (aL (aR (aR h))))))))))
      · subst r; exact (aR (aR (aR (aR (aR (aR (aL (aL (aR (aR h))))))))))
      · subst r; exact (aL (aL (aL (aL (aL (aR (aL (aR (aR h)))))))))
      · subst r; exact (aL (aR (aL (aL (aL (aL (aR (aL (aR (aR h))))))))))
      · subst r; exact (aR (aR (aL (aL (aL (aL (aR (aL (aR (aR h))))))))))
      · subst r; exact (aL (aR (aL (aL (aL (aR (aL (aR (aR h)))))))))
      · subst r; exact (aL (aR (aR (aL (aL (aL (aR (aL (aR (aR h))))))))))
      · subst r; exact (aR (aR (aR (aL (aL (aL (aR (aL (aR (aR h))))))))))
      · subst r; exact (aL (aL (aR (aL (aL (aR (aL (aR (aR h)))))))))
      · subst r; exact (aL (aR (aL (aR (aL (aL (aR (aL (aR (aR h))))))))))
      · subst r; exact (aR (aR (aL (aR (aL (aL (aR (aL (aR (aR h))))))))))
      · subst r; exact (aL (aR (aR (aL (aL (aR (aL (aR (aR h)))))))))
      · subst r; exact (aL (aR (aR (aR (aL (aL (aR (aL (aR (aR h))))))))))
      · subst r; exact (aR (aR (aR (aR (aL (aL (aR (aL (aR (aR h)))))))))))
    (fun i j h1 h2 h3 => absurd (show i = j by omega) h3) hA
  exact ⟨adK 0, adV 0, vk_R.of hw (he 0 (by omega)), (hS.1 0 (by omega)).1, (hS.1 0 (by omega)).2.1, (hS.1 0 (by omega)).2.2.1, (hS.1 0 (by omega)).2.2.2⟩
theorem str_26 {A : Nat → Prop} {args : Array Value} {s : State} (h : narrow_1.before args s = true) (hw : (Cond.stringRef (kOwn 26) (kIdx 26) (kTxt 26)).before args s = true) (hA : ∀ a : Nat, a < s.heap.size → ¬ A a) : ∃ a v : Nat, vk_R (kOwn 26) (kIdx 26) (kTxt 26) a s ∧ va_O "java/lang/String" a A s s.heap ∧ va_OF "java/lang/String" "coder" "B" (.int 0) a A s s.heap ∧ va_OF "java/lang/String" "value" "[B" (.ref v) a A s s.heap ∧ va_T .byte v (kLen 26) (fun j => .int ((kByt 26).getD j 0)) A s s.heap := by
  obtain ⟨adK, adV, hS, he⟩ := vk_Sof (args := args) (s := s) (N := 1) (tm := fun _ => Term.string "ClapValley" 297) (len := [37]) (byt := [kByt 26]) (A := A) (fun i hi => by rw [show i = 0 by omega]; decide)
    (fun _ _ => (aL (aL (aL (aR (aL (aR (aL (aR (aR h)))))))))) (fun _ _ => (aL (aR (aL (aL (aR (aL (aR (aL (aR (aR h))))))))))) (fun _ _ => (aR (aR (aL (aL (aR (aL (aR (aL (aR (aR h))))))))))) (fun i hi => by rw [show i = 0 by omega]; exact (aL (aR (aL (aR (aL (aR (aL (aR (aR h))))))))))
    (fun i hi j hj => by
      rw [show i = 0 by omega] at hj ⊢
      have hj : j < 37 := hj
      rcases (show j = 0 ∨ j = 1 ∨ j = 2 ∨ j = 3 ∨ j = 4 ∨ j = 5 ∨ j = 6 ∨ j = 7 ∨ j = 8 ∨ j = 9 ∨ j = 10 ∨ j = 11 ∨ j = 12 ∨ j = 13 ∨ j = 14 ∨ j = 15 ∨ j = 16 ∨ j = 17 ∨ j = 18 ∨ j = 19 ∨ j = 20 ∨ j = 21 ∨ j = 22 ∨ j = 23 ∨ j = 24 ∨ j = 25 ∨ j = 26 ∨ j = 27 ∨ j = 28 ∨ j = 29 ∨ j = 30 ∨ j = 31 ∨ j = 32 ∨ j = 33 ∨ j = 34 ∨ j = 35 ∨ j = 36 by omega) with r | r | r | r | r | r | r | r | r | r | r | r | r | r | r | r | r | r | r | r | r | r | r | r | r | r | r | r | r | r | r | r | r | r | r | r | r
      · subst r; exact (aL (aR (aR (aL (aR (aL (aR (aL (aR (aR h))))))))))
      · subst r; exact (aR (aR (aR (aL (aR (aL (aR (aL (aR (aR h))))))))))
      · subst r; exact (aL (aL (aR (aR (aL (aR (aL (aR (aR h)))))))))
      · subst r; exact (aL (aR (aL (aR (aR (aL (aR (aL (aR (aR h))))))))))
      · subst r; exact (aR (aR (aL (aR (aR (aL (aR (aL (aR (aR h))))))))))
      · subst r; exact (aL (aL (aR (aR (aR (aL (aR (aL (aR (aR h))))))))))
      · subst r; exact (aR (aL (aR (aR (aR (aL (aR (aL (aR (aR h))))))))))
      · subst r; exact (aL (aR (aR (aR (aR (aL (aR (aL (aR (aR h))))))))))
      · subst r; exact (aR (aR (aR (aR (aR (aL (aR (aL (aR (aR h))))))))))
      · subst r; exact (aL (aL (aL (aL (aR (aR (aL (aR (aR h)))))))))
      · subst r; exact (aL (aR (aL (aL (aL (aR (aR (aL (aR (aR h))))))))))
      · subst r; exact (aR (aR (aL (aL (aL (aR (aR (aL (aR (aR h))))))))))
      · subst r; exact (aL (aR (aL (aL (aR (aR (aL (aR (aR h)))))))))
      · subst r; exact (aL (aR (aR (aL (aL (aR (aR (aL (aR (aR h))))))))))
      · subst r; exact (aR (aR (aR (aL (aL (aR (aR (aL (aR (aR h))))))))))
      · subst r; exact (aL (aL (aR (aL (aR (aR (aL (aR (aR h)))))))))
      · subst r; exact (aL (aR (aL (aR (aL (aR (aR (aL (aR (aR h))))))))))
      · subst r; exact (aR (aR (aL (aR (aL (aR (aR (aL (aR (aR h))))))))))
      · subst r; exact (aL (aR (aR (aL (aR (aR (aL (aR (aR h)))))))))
      · subst r; exact (aL (aR (aR (aR (aL (aR (aR (aL (aR (aR h))))))))))
      · subst r; exact (aR (aR (aR (aR (aL (aR (aR (aL (aR (aR h))))))))))
      · subst r; exact (aL (aL (aL (aR (aR (aR (aL (aR (aR h)))))))))
      · subst r; exact (aL (aR (aL (aL (aR (aR (aR (aL (aR (aR h))))))))))
      · subst r; exact (aR (aR (aL (aL (aR (aR (aR (aL (aR (aR h))))))))))
      · subst r; exact (aL (aR (aL (aR (aR (aR (aL (aR (aR h)))))))))
      · subst r; exact (aL (aR (aR (aL (aR (aR (aR (aL (aR (aR h))))))))))
      · subst r; exact (aR (aR (aR (aL (aR (aR (aR (aL (aR (aR h))))))))))
      · subst r; exact (aL (aL (aR (aR (aR (aR (aL (aR (aR h)))))))))
      · subst r; exact (aL (aR (aL (aR (aR (aR (aR (aL (aR (aR h))))))))))
      · subst r; exact (aR (aR (aL (aR (aR (aR (aR (aL (aR (aR h))))))))))
      · subst r; exact (aL (aL (aR (aR (aR (aR (aR (aL (aR (aR h))))))))))
      · subst r; exact (aR (aL (aR (aR (aR (aR (aR (aL (aR (aR h))))))))))
      · subst r; exact (aL (aR (aR (aR (aR (aR (aR (aL (aR (aR h))))))))))
      · subst r; exact (aR (aR (aR (aR (aR (aR (aR (aL (aR (aR h))))))))))
      · subst r; exact (aL (aL (aL (aL (aL (aL (aR (aR (aR h)))))))))
      · subst r; exact (aL (aR (aL (aL (aL (aL (aL (aR (aR (aR h))))))))))
      · subst r; exact (aR (aR (aL (aL (aL (aL (aL (aR (aR (aR h)))))))))))
    (fun i j h1 h2 h3 => absurd (show i = j by omega) h3) hA
  exact ⟨adK 0, adV 0, vk_R.of hw (he 0 (by omega)), (hS.1 0 (by omega)).1, (hS.1 0 (by omega)).2.1, (hS.1 0 (by omega)).2.2.1, (hS.1 0 (by omega)).2.2.2⟩
theorem str_27 {A : Nat → Prop} {args : Array Value} {s : State} (h : narrow_1.before args s = true) (hw : (Cond.stringRef (kOwn 27) (kIdx 27) (kTxt 27)).before args s = true) (hA : ∀ a : Nat, a < s.heap.size → ¬ A a) : ∃ a v : Nat, vk_R (kOwn 27) (kIdx 27) (kTxt 27) a s ∧ va_O "java/lang/String" a A s s.heap ∧ va_OF "java/lang/String" "coder" "B" (.int 0) a A s s.heap ∧ va_OF "java/lang/String" "value" "[B" (.ref v) a A s s.heap ∧ va_T .byte v (kLen 27) (fun j => .int ((kByt 27).getD j 0)) A s s.heap := by
  obtain ⟨adK, adV, hS, he⟩ := vk_Sof (args := args) (s := s) (N := 1) (tm := fun _ => Term.string "ClapValley" 299) (len := [15]) (byt := [kByt 27]) (A := A) (fun i hi => by rw [show i = 0 by omega]; decide)
    (fun _ _ => (aL (aR (aL (aL (aL (aL (aR (aR (aR h)))))))))) (fun _ _ => (aL (aR (aR (aL (aL (aL (aL (aR (aR (aR h))))))))))) (fun _ _ => (aR (aR (aR (aL (aL (aL (aL (aR (aR (aR h))))))))))) (fun i hi => by rw [show i = 0 by omega]; exact (aL (aL (aR (aL (aL (aL (aR (aR (aR h))))))))))
    (fun i hi j hj => by
      rw [show i = 0 by omega] at hj ⊢
      have hj : j < 15 := hj
      rcases (show j = 0 ∨ j = 1 ∨ j = 2 ∨ j = 3 ∨ j = 4 ∨ j = 5 ∨ j = 6 ∨ j = 7 ∨ j = 8 ∨ j = 9 ∨ j = 10 ∨ j = 11 ∨ j = 12 ∨ j = 13 ∨ j = 14 by omega) with r | r | r | r | r | r | r | r | r | r | r | r | r | r | r
      · subst r; exact (aL (aR (aL (aR (aL (aL (aL (aR (aR (aR h))))))))))
      · subst r; exact (aR (aR (aL (aR (aL (aL (aL (aR (aR (aR h))))))))))
      · subst r; exact (aL (aR (aR (aL (aL (aL (aR (aR (aR h)))))))))
      · subst r; exact (aL (aR (aR (aR (aL (aL (aL (aR (aR (aR h))))))))))
      · subst r; exact (aR (aR (aR (aR (aL (aL (aL (aR (aR (aR h))))))))))
      · subst r; exact (aL (aL (aL (aR (aL (aL (aR (aR (aR h)))))))))
      · subst r; exact (aL (aR (aL (aL (aR (aL (aL (aR (aR (aR h))))))))))
      · subst r; exact (aR (aR (aL (aL (aR (aL (aL (aR (aR (aR h))))))))))
      · subst r; exact (aL (aR (aL (aR (aL (aL (aR (aR (aR h)))))))))
      · subst r; exact (aL (aR (aR (aL (aR (aL (aL (aR (aR (aR h))))))))))
      · subst r; exact (aR (aR (aR (aL (aR (aL (aL (aR (aR (aR h))))))))))
      · subst r; exact (aL (aL (aR (aR (aL (aL (aR (aR (aR h)))))))))
      · subst r; exact (aL (aR (aL (aR (aR (aL (aL (aR (aR (aR h))))))))))
      · subst r; exact (aR (aR (aL (aR (aR (aL (aL (aR (aR (aR h))))))))))
      · subst r; exact (aL (aR (aR (aR (aL (aL (aR (aR (aR h))))))))))
    (fun i j h1 h2 h3 => absurd (show i = j by omega) h3) hA
  exact ⟨adK 0, adV 0, vk_R.of hw (he 0 (by omega)), (hS.1 0 (by omega)).1, (hS.1 0 (by omega)).2.1, (hS.1 0 (by omega)).2.2.1, (hS.1 0 (by omega)).2.2.2⟩
theorem str_28 {A : Nat → Prop} {args : Array Value} {s : State} (h : narrow_1.before args s = true) (hw : (Cond.stringRef (kOwn 28) (kIdx 28) (kTxt 28)).before args s = true) (hA : ∀ a : Nat, a < s.heap.size → ¬ A a) : ∃ a v : Nat, vk_R (kOwn 28) (kIdx 28) (kTxt 28) a s ∧ va_O "java/lang/String" a A s s.heap ∧ va_OF "java/lang/String" "coder" "B" (.int 0) a A s s.heap ∧ va_OF "java/lang/String" "value" "[B" (.ref v) a A s s.heap ∧ va_T .byte v (kLen 28) (fun j => .int ((kByt 28).getD j 0)) A s s.heap := by
  obtain ⟨adK, adV, hS, he⟩ := vk_Sof (args := args) (s := s) (N := 1) (tm := fun _ => Term.string "ClapValleyModel" 9) (len := [7]) (byt := [kByt 28]) (A := A) (fun i hi => by rw [show i = 0 by omega]; decide)
    (fun _ _ => (aL (aR (aR (aR (aR (aL (aL (aR (aR (aR h))))))))))) (fun _ _ => (aR (aR (aR (aR (aR (aL (aL (aR (aR (aR h))))))))))) (fun _ _ => (aL (aL (aL (aL (aR (aL (aR (aR (aR h)))))))))) (fun i hi => by rw [show i = 0 by omega]; exact (aL (aR (aL (aL (aL (aR (aL (aR (aR (aR h)))))))))))
    (fun i hi j hj => by
      rw [show i = 0 by omega] at hj ⊢
      have hj : j < 7 := hj
      rcases (show j = 0 ∨ j = 1 ∨ j = 2 ∨ j = 3 ∨ j = 4 ∨ j = 5 ∨ j = 6 by omega) with r | r | r | r | r | r | r
      · subst r; exact (aR (aR (aL (aL (aL (aR (aL (aR (aR (aR h))))))))))
      · subst r; exact (aL (aR (aL (aL (aR (aL (aR (aR (aR h)))))))))
      · subst r; exact (aL (aR (aR (aL (aL (aR (aL (aR (aR (aR h))))))))))
      · subst r; exact (aR (aR (aR (aL (aL (aR (aL (aR (aR (aR h))))))))))
      · subst r; exact (aL (aL (aR (aL (aR (aL (aR (aR (aR h)))))))))
      · subst r; exact (aL (aR (aL (aR (aL (aR (aL (aR (aR (aR h))))))))))
      · subst r; exact (aR (aR (aL (aR (aL (aR (aL (aR (aR (aR h)))))))))))
    (fun i j h1 h2 h3 => absurd (show i = j by omega) h3) hA
  exact ⟨adK 0, adV 0, vk_R.of hw (he 0 (by omega)), (hS.1 0 (by omega)).1, (hS.1 0 (by omega)).2.1, (hS.1 0 (by omega)).2.2.1, (hS.1 0 (by omega)).2.2.2⟩
theorem str_29 {A : Nat → Prop} {args : Array Value} {s : State} (h : narrow_1.before args s = true) (hw : (Cond.stringRef (kOwn 29) (kIdx 29) (kTxt 29)).before args s = true) (hA : ∀ a : Nat, a < s.heap.size → ¬ A a) : ∃ a v : Nat, vk_R (kOwn 29) (kIdx 29) (kTxt 29) a s ∧ va_O "java/lang/String" a A s s.heap ∧ va_OF "java/lang/String" "coder" "B" (.int 0) a A s s.heap ∧ va_OF "java/lang/String" "value" "[B" (.ref v) a A s s.heap ∧ va_T .byte v (kLen 29) (fun j => .int ((kByt 29).getD j 0)) A s s.heap := by
  obtain ⟨adK, adV, hS, he⟩ := vk_Sof (args := args) (s := s) (N := 1) (tm := fun _ => Term.string "ClapValleyModel" 11) (len := [5]) (byt := [kByt 29]) (A := A) (fun i hi => by rw [show i = 0 by omega]; decide)
    (fun _ _ => (aL (aR (aR (aR (aL (aR (aL (aR (aR (aR h))))))))))) (fun _ _ => (aR (aR (aR (aR (aL (aR (aL (aR (aR (aR h))))))))))) (fun _ _ => (aL (aL (aL (aR (aR (aL (aR (aR (aR h)))))))))) (fun i hi => by rw [show i = 0 by omega]; exact (aL (aR (aL (aL (aR (aR (aL (aR (aR (aR h)))))))))))
    (fun i hi j hj => by
      rw [show i = 0 by omega] at hj ⊢
      have hj : j < 5 := hj
      rcases (show j = 0 ∨ j = 1 ∨ j = 2 ∨ j = 3 ∨ j = 4 by omega) with r | r | r | r | r
      · subst r; exact (aR (aR (aL (aL (aR (aR (aL (aR (aR (aR h))))))))))
      · subst r; exact (aL (aR (aL (aR (aR (aL (aR (aR (aR h)))))))))
      · subst r; exact (aL (aR (aR (aL (aR (aR (aL (aR (aR (aR h))))))))))
      · subst r; exact (aR (aR (aR (aL (aR (aR (aL (aR (aR (aR h))))))))))
      · subst r; exact (aL (aL (aR (aR (aR (aL (aR (aR (aR h))))))))))
    (fun i j h1 h2 h3 => absurd (show i = j by omega) h3) hA
  exact ⟨adK 0, adV 0, vk_R.of hw (he 0 (by omega)), (hS.1 0 (by omega)).1, (hS.1 0 (by omega)).2.1, (hS.1 0 (by omega)).2.2.1, (hS.1 0 (by omega)).2.2.2⟩
theorem str_30 {A : Nat → Prop} {args : Array Value} {s : State} (h : narrow_1.before args s = true) (hw : (Cond.stringRef (kOwn 30) (kIdx 30) (kTxt 30)).before args s = true) (hA : ∀ a : Nat, a < s.heap.size → ¬ A a) : ∃ a v : Nat, vk_R (kOwn 30) (kIdx 30) (kTxt 30) a s ∧ va_O "java/lang/String" a A s s.heap ∧ va_OF "java/lang/String" "coder" "B" (.int 0) a A s s.heap ∧ va_OF "java/lang/String" "value" "[B" (.ref v) a A s s.heap ∧ va_T .byte v (kLen 30) (fun j => .int ((kByt 30).getD j 0)) A s s.heap := by
  obtain ⟨adK, adV, hS, he⟩ := vk_Sof (args := args) (s := s) (N := 1) (tm := fun _ => Term.string "ClapValleyModel" 13) (len := [4]) (byt := [kByt 30]) (A := A) (fun i hi => by rw [show i = 0 by omega]; decide)
    (fun _ _ => (aR (aR (aL (aR (aR (aR (aL (aR (aR (aR h))))))))))) (fun _ _ => (aL (aL (aR (aR (aR (aR (aL (aR (aR (aR h))))))))))) (fun _ _ => (aR (aL (aR (aR (aR (aR (aL (aR (aR (aR h))))))))))) (fun i hi => by rw [show i = 0 by omega]; exact (aL (aR (aR (aR (aR (aR (aL (aR (aR (aR h)))))))))))
    (fun i hi j hj => by
      rw [show i = 0 by omega] at hj ⊢
      have hj : j < 4 := hj
      rcases (show j = 0 ∨ j = 1 ∨ j = 2 ∨ j = 3 by omega) with r | r | r | r
      · subst r; exact (aR (aR (aR (aR (aR (aR (aL (aR (aR (aR h))))))))))
      · subst r; exact (aL (aL (aL (aL (aL (aR (aR (aR (aR h)))))))))
      · subst r; exact (aL (aR (aL (aL (aL (aL (aR (aR (aR (aR h))))))))))
      · subst r; exact (aR (aR (aL (aL (aL (aL (aR (aR (aR (aR h)))))))))))
    (fun i j h1 h2 h3 => absurd (show i = j by omega) h3) hA
  exact ⟨adK 0, adV 0, vk_R.of hw (he 0 (by omega)), (hS.1 0 (by omega)).1, (hS.1 0 (by omega)).2.1, (hS.1 0 (by omega)).2.2.1, (hS.1 0 (by omega)).2.2.2⟩
theorem str_31 {A : Nat → Prop} {args : Array Value} {s : State} (h : narrow_1.before args s = true) (hw : (Cond.stringRef (kOwn 31) (kIdx 31) (kTxt 31)).before args s = true) (hA : ∀ a : Nat, a < s.heap.size → ¬ A a) : ∃ a v : Nat, vk_R (kOwn 31) (kIdx 31) (kTxt 31) a s ∧ va_O "java/lang/String" a A s s.heap ∧ va_OF "java/lang/String" "coder" "B" (.int 0) a A s s.heap ∧ va_OF "java/lang/String" "value" "[B" (.ref v) a A s s.heap ∧ va_T .byte v (kLen 31) (fun j => .int ((kByt 31).getD j 0)) A s s.heap := by
  obtain ⟨adK, adV, hS, he⟩ := vk_Sof (args := args) (s := s) (N := 1) (tm := fun _ => Term.string "ClapValleyModel" 15) (len := [4]) (byt := [kByt 31]) (A := A) (fun i hi => by rw [show i = 0 by omega]; decide)
    (fun _ _ => (aL (aR (aR (aL (aL (aL (aR (aR (aR (aR h))))))))))) (fun _ _ => (aR (aR (aR (aL (aL (aL (aR (aR (aR (aR h))))))))))) (fun _ _ => (aL (aL (aR (aL (aL (aR (aR (aR (aR h)))))))))) (fun i hi => by rw [show i = 0 by omega]; exact (aL (aR (aL (aR (aL (aL (aR (aR (aR (aR h)))))))))))
    (fun i hi j hj => by
      rw [show i = 0 by omega] at hj ⊢
      have hj : j < 4 := hj
      rcases (show j = 0 ∨ j = 1 ∨ j = 2 ∨ j = 3 by omega) with r | r | r | r
      · subst r; exact (aR (aR (aL (aR (aL (aL (aR (aR (aR (aR h))))))))))
      · subst r; exact (aL (aR (aR (aL (aL (aR (aR (aR (aR h)))))))))
      · subst r; exact (aL (aR (aR (aR (aL (aL (aR (aR (aR (aR h))))))))))
      · subst r; exact (aR (aR (aR (aR (aL (aL (aR (aR (aR (aR h)))))))))))
    (fun i j h1 h2 h3 => absurd (show i = j by omega) h3) hA
  exact ⟨adK 0, adV 0, vk_R.of hw (he 0 (by omega)), (hS.1 0 (by omega)).1, (hS.1 0 (by omega)).2.1, (hS.1 0 (by omega)).2.2.1, (hS.1 0 (by omega)).2.2.2⟩
theorem str_32 {A : Nat → Prop} {args : Array Value} {s : State} (h : narrow_1.before args s = true) (hw : (Cond.stringRef (kOwn 32) (kIdx 32) (kTxt 32)).before args s = true) (hA : ∀ a : Nat, a < s.heap.size → ¬ A a) : ∃ a v : Nat, vk_R (kOwn 32) (kIdx 32) (kTxt 32) a s ∧ va_O "java/lang/String" a A s s.heap ∧ va_OF "java/lang/String" "coder" "B" (.int 0) a A s s.heap ∧ va_OF "java/lang/String" "value" "[B" (.ref v) a A s s.heap ∧ va_T .byte v (kLen 32) (fun j => .int ((kByt 32).getD j 0)) A s s.heap := by
  obtain ⟨adK, adV, hS, he⟩ := vk_Sof (args := args) (s := s) (N := 1) (tm := fun _ => Term.string "ClapValleyModel" 17) (len := [5]) (byt := [kByt 32]) (A := A) (fun i hi => by rw [show i = 0 by omega]; decide)
    (fun _ _ => (aL (aR (aL (aL (aR (aL (aR (aR (aR (aR h))))))))))) (fun _ _ => (aR (aR (aL (aL (aR (aL (aR (aR (aR (aR h))))))))))) (fun _ _ => (aL (aR (aL (aR (aL (aR (aR (aR (aR h)))))))))) (fun i hi => by rw [show i = 0 by omega]; exact (aL (aR (aR (aL (aR (aL (aR (aR (aR (aR h)))))))))))
    (fun i hi j hj => by
      rw [show i = 0 by omega] at hj ⊢
      have hj : j < 5 := hj
      rcases (show j = 0 ∨ j = 1 ∨ j = 2 ∨ j = 3 ∨ j = 4 by omega) with r | r | r | r | r
      · subst r; exact (aR (aR (aR (aL (aR (aL (aR (aR (aR (aR h))))))))))
      · subst r; exact (aL (aL (aR (aR (aL (aR (aR (aR (aR h)))))))))
      · subst r; exact (aL (aR (aL (aR (aR (aL (aR (aR (aR (aR h))))))))))
      · subst r; exact (aR (aR (aL (aR (aR (aL (aR (aR (aR (aR h))))))))))
      · subst r; exact (aL (aL (aR (aR (aR (aL (aR (aR (aR (aR h)))))))))))
    (fun i j h1 h2 h3 => absurd (show i = j by omega) h3) hA
  exact ⟨adK 0, adV 0, vk_R.of hw (he 0 (by omega)), (hS.1 0 (by omega)).1, (hS.1 0 (by omega)).2.1, (hS.1 0 (by omega)).2.2.1, (hS.1 0 (by omega)).2.2.2⟩
theorem str_33 {A : Nat → Prop} {args : Array Value} {s : State} (h : narrow_1.before args s = true) (hw : (Cond.stringRef (kOwn 33) (kIdx 33) (kTxt 33)).before args s = true) (hA : ∀ a : Nat, a < s.heap.size → ¬ A a) : ∃ a v : Nat, vk_R (kOwn 33) (kIdx 33) (kTxt 33) a s ∧ va_O "java/lang/String" a A s s.heap ∧ va_OF "java/lang/String" "coder" "B" (.int 0) a A s s.heap ∧ va_OF "java/lang/String" "value" "[B" (.ref v) a A s s.heap ∧ va_T .byte v (kLen 33) (fun j => .int ((kByt 33).getD j 0)) A s s.heap := by
  obtain ⟨adK, adV, hS, he⟩ := vk_Sof (args := args) (s := s) (N := 1) (tm := fun _ => Term.string "ClapValleyModel" 19) (len := [3]) (byt := [kByt 33]) (A := A) (fun i hi => by rw [show i = 0 by omega]; decide)
    (fun _ _ => (aL (aR (aR (aR (aR (aL (aR (aR (aR (aR h))))))))))) (fun _ _ => (aR (aR (aR (aR (aR (aL (aR (aR (aR (aR h))))))))))) (fun _ _ => (aL (aL (aL (aL (aR (aR (aR (aR (aR h)))))))))) (fun i hi => by rw [show i = 0 by omega]; exact (aL (aR (aL (aL (aL (aR (aR (aR (aR (aR h)))))))))))
    (fun i hi j hj => by
      rw [show i = 0 by omega] at hj ⊢
      have hj : j < 3 := hj
      rcases (show j = 0 ∨ j = 1 ∨ j = 2 by omega) with r | r | r
      · subst r; exact (aR (aR (aL (aL (aL (aR (aR (aR (aR (aR h))))))))))
      · subst r; exact (aL (aR (aL (aL (aR (aR (aR (aR (aR h)))))))))
      · subst r; exact (aL (aR (aR (aL (aL (aR (aR (aR (aR (aR h)))))))))))
    (fun i j h1 h2 h3 => absurd (show i = j by omega) h3) hA
  exact ⟨adK 0, adV 0, vk_R.of hw (he 0 (by omega)), (hS.1 0 (by omega)).1, (hS.1 0 (by omega)).2.1, (hS.1 0 (by omega)).2.2.1, (hS.1 0 (by omega)).2.2.2⟩
theorem str_34 {A : Nat → Prop} {args : Array Value} {s : State} (h : narrow_1.before args s = true) (hw : (Cond.stringRef (kOwn 34) (kIdx 34) (kTxt 34)).before args s = true) (hA : ∀ a : Nat, a < s.heap.size → ¬ A a) : ∃ a v : Nat, vk_R (kOwn 34) (kIdx 34) (kTxt 34) a s ∧ va_O "java/lang/String" a A s s.heap ∧ va_OF "java/lang/String" "coder" "B" (.int 0) a A s s.heap ∧ va_OF "java/lang/String" "value" "[B" (.ref v) a A s s.heap ∧ va_T .byte v (kLen 34) (fun j => .int ((kByt 34).getD j 0)) A s s.heap := by
  obtain ⟨adK, adV, hS, he⟩ := vk_Sof (args := args) (s := s) (N := 1) (tm := fun _ => Term.string "ClapValleyModel" 223) (len := [4]) (byt := [kByt 34]) (A := A) (fun i hi => by rw [show i = 0 by omega]; decide)
    (fun _ _ => (aL (aL (aR (aL (aR (aR (aR (aR (aR h)))))))))) (fun _ _ => (aL (aR (aL (aR (aL (aR (aR (aR (aR (aR h))))))))))) (fun _ _ => (aR (aR (aL (aR (aL (aR (aR (aR (aR (aR h))))))))))) (fun i hi => by rw [show i = 0 by omega]; exact (aL (aR (aR (aL (aR (aR (aR (aR (aR h))))))))))
    (fun i hi j hj => by
      rw [show i = 0 by omega] at hj ⊢
      have hj : j < 4 := hj
      rcases (show j = 0 ∨ j = 1 ∨ j = 2 ∨ j = 3 by omega) with r | r | r | r
      · subst r; exact (aL (aR (aR (aR (aL (aR (aR (aR (aR (aR h))))))))))
      · subst r; exact (aR (aR (aR (aR (aL (aR (aR (aR (aR (aR h))))))))))
      · subst r; exact (aL (aL (aL (aR (aR (aR (aR (aR (aR h)))))))))
      · subst r; exact (aL (aR (aL (aL (aR (aR (aR (aR (aR (aR h)))))))))))
    (fun i j h1 h2 h3 => absurd (show i = j by omega) h3) hA
  exact ⟨adK 0, adV 0, vk_R.of hw (he 0 (by omega)), (hS.1 0 (by omega)).1, (hS.1 0 (by omega)).2.1, (hS.1 0 (by omega)).2.2.1, (hS.1 0 (by omega)).2.2.2⟩
theorem str_35 {A : Nat → Prop} {args : Array Value} {s : State} (h : narrow_1.before args s = true) (hw : (Cond.stringRef (kOwn 35) (kIdx 35) (kTxt 35)).before args s = true) (hA : ∀ a : Nat, a < s.heap.size → ¬ A a) : ∃ a v : Nat, vk_R (kOwn 35) (kIdx 35) (kTxt 35) a s ∧ va_O "java/lang/String" a A s s.heap ∧ va_OF "java/lang/String" "coder" "B" (.int 0) a A s s.heap ∧ va_OF "java/lang/String" "value" "[B" (.ref v) a A s s.heap ∧ va_T .byte v (kLen 35) (fun j => .int ((kByt 35).getD j 0)) A s s.heap := by
  obtain ⟨adK, adV, hS, he⟩ := vk_Sof (args := args) (s := s) (N := 1) (tm := fun _ => Term.string "ClapValleyModel" 229) (len := [5]) (byt := [kByt 35]) (A := A) (fun i hi => by rw [show i = 0 by omega]; decide)
    (fun _ _ => (aL (aR (aL (aR (aR (aR (aR (aR (aR h)))))))))) (fun _ _ => (aL (aR (aR (aL (aR (aR (aR (aR (aR (aR h))))))))))) (fun _ _ => (aR (aR (aR (aL (aR (aR (aR (aR (aR (aR h))))))))))) (fun i hi => by rw [show i = 0 by omega]; exact (aL (aL (aR (aR (aR (aR (aR (aR (aR h))))))))))
    (fun i hi j hj => by
      rw [show i = 0 by omega] at hj ⊢
      have hj : j < 5 := hj
      rcases (show j = 0 ∨ j = 1 ∨ j = 2 ∨ j = 3 ∨ j = 4 by omega) with r | r | r | r | r
      · subst r; exact (aL (aR (aL (aR (aR (aR (aR (aR (aR (aR h))))))))))
      · subst r; exact (aR (aR (aL (aR (aR (aR (aR (aR (aR (aR h))))))))))
      · subst r; exact (aL (aL (aR (aR (aR (aR (aR (aR (aR (aR h))))))))))
      · subst r; exact (aR (aL (aR (aR (aR (aR (aR (aR (aR (aR h))))))))))
      · subst r; exact (aL (aR (aR (aR (aR (aR (aR (aR (aR (aR h)))))))))))
    (fun i j h1 h2 h3 => absurd (show i = j by omega) h3) hA
  exact ⟨adK 0, adV 0, vk_R.of hw (he 0 (by omega)), (hS.1 0 (by omega)).1, (hS.1 0 (by omega)).2.1, (hS.1 0 (by omega)).2.2.1, (hS.1 0 (by omega)).2.2.2⟩
