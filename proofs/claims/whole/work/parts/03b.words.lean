theorem aoa_moved {t : FieldType} {u U : State} {A B : Array Value} (hvm : u.vm.Alike U.vm) (h : (Cond.arrayOver (.array t)).before A u = true) : (Cond.arrayOver (.array t)).before B U = true := by
  obtain ⟨comp, c, k, h1, h2, h3, h4, h5⟩ := arrayOverA_spec h
  obtain ⟨k', hk', he⟩ := hvm.2.2 _ _ h3
  have hi : (U.vm.classes.findIdx? fun (x : Class) => match x.kind with | .array component _ => component == comp | _ => false) = some c := by
    refine (va_idx_bare U.vm comp).symm.trans ?_
    have e : U.vm.bare = u.vm.bare := by first | exact hvm.bare_eq.symm | exact hvm.bare_eq
    rw [e]
    exact (va_idx_bare u.vm comp).trans h2
  have hkind : k'.kind = .array comp (.array t) := by rw [he]; exact h4
  have f1 : U.vm.findClass (FieldType.array t).toString = some comp := by rw [hvm.findClass]; exact h1
  have f2 : U.vm.findClass ("[" ++ (FieldType.array t).toString) = some c := by rw [hvm.findClass]; exact h5
  unfold Cond.before Cond.holds
  simp only [Cond.value]
  rw [f1, Option.bind_some]
  refine (congrArg (fun o : Option Nat => (o.bind (fun c => (U.vm.classes[c]?).map fun (k : Class) => match k.kind with | .array _ ty => decide (ty = FieldType.array t) && decide (U.vm.findClass ("[" ++ (FieldType.array t).toString) = some c) | _ => false) == some true)) hi).trans ?_
  simp [hk', hkind, f2]
def okN (w : Cond) : Bool := goodWord w || (match w with | .fieldLinkNest .. => true | .methodLinkNest .. => true | .arrayOver (.object _) => true | .arrayOver (.array _) => true | .castable _ _ => true | .declares _ => true | _ => false)
def AllW (U : State) : Prop := ∀ w ∈ lw_tbl, okN w = true → w.before #[] U = true
theorem okN_to {w : Cond} (hg : okN w = true) {s U : State} {A B : Array Value} (hW : s.WarmedH U.vm) (h : w.before A s = true) : w.before B U = true := by
  unfold okN at hg
  rcases (Bool.or_eq_true _ _).mp hg with q | q
  · exact word_at hW (good_of_word q) h
  · split at q
    · exact va_Nw.use rfl (va_Nw.warmF hW (va_Nw.of rfl h))
    · exact va_Nw.use rfl (va_Nw.warmM hW (va_Nw.of rfl h))
    · exact va_AO.use (va_AO.moved hW.alike (va_AO.of h))
    · exact aoa_moved hW.alike h
    · exact va_Nw.use rfl (va_Nw.warmC hW (va_Nw.of rfl h))
    · exact va_Nw.use rfl (va_Nw.warmD hW (va_Nw.of rfl h))
    · cases q
theorem AllW.warm {s U : State} (h : AllW s) (hW : s.WarmedH U.vm) : AllW U := fun w hm hg => okN_to hg hW (h w hm hg)
theorem AllW.use {U : State} (h : AllW U) {w : Cond} (hm : w ∈ lw_tbl) (hg : okN w = true) {A : Array Value} : w.before A U = true := okN_to hg (State.WarmedH.refl U) (h w hm hg)
theorem AllW.of {s : State} {A : Array Value} (h : ∀ w ∈ lw_tbl, w.before A s = true) : AllW s := fun w hm hg => okN_to hg (State.WarmedH.refl s) (h w hm)
theorem mw_1 {w : Cond} (h : w ∈ tables_1_1) : w ∈ lw_tbl := List.mem_append_right _ (List.mem_append_left _ h)
theorem mw_2 {w : Cond} (h : w ∈ tables_1_2) : w ∈ lw_tbl := List.mem_append_right _ (List.mem_append_right _ (List.mem_append_left _ h))
theorem mw_3 {w : Cond} (h : w ∈ tables_1_3) : w ∈ lw_tbl := List.mem_append_right _ (List.mem_append_right _ (List.mem_append_right _ (List.mem_append_left _ h)))
theorem mw_4 {w : Cond} (h : w ∈ tables_1_4) : w ∈ lw_tbl := List.mem_append_right _ (List.mem_append_right _ (List.mem_append_right _ (List.mem_append_right _ (List.mem_append_left _ h))))
theorem mw_5 {w : Cond} (h : w ∈ tables_1_5) : w ∈ lw_tbl := List.mem_append_right _ (List.mem_append_right _ (List.mem_append_right _ (List.mem_append_right _ (List.mem_append_right _ (List.mem_append_left _ h)))))
theorem mw_6 {w : Cond} (h : w ∈ tables_1_6) : w ∈ lw_tbl := List.mem_append_right _ (List.mem_append_right _ (List.mem_append_right _ (List.mem_append_right _ (List.mem_append_right _ (List.mem_append_right _ (List.mem_append_left _ h))))))
theorem mw_7 {w : Cond} (h : w ∈ tables_1_7) : w ∈ lw_tbl := List.mem_append_right _ (List.mem_append_right _ (List.mem_append_right _ (List.mem_append_right _ (List.mem_append_right _ (List.mem_append_right _ (List.mem_append_right _ (h)))))))
theorem mp_1 {w : Cond} (h : w ∈ k2_sels lw_privs_1) : w ∈ lw_tbl := List.mem_append_left _ (by unfold k2_sels lw_privs at *; obtain ⟨q, hq, e⟩ := List.mem_map.mp h; exact List.mem_map.mpr ⟨q, (show q ∈ _ from (fun (h : q ∈ lw_privs_1) => List.mem_append_left _ h) hq), e⟩)
theorem mp_2 {w : Cond} (h : w ∈ k2_sels lw_privs_2) : w ∈ lw_tbl := List.mem_append_left _ (by unfold k2_sels lw_privs at *; obtain ⟨q, hq, e⟩ := List.mem_map.mp h; exact List.mem_map.mpr ⟨q, (show q ∈ _ from (fun (h : q ∈ lw_privs_2) => List.mem_append_right _ (List.mem_append_left _ h)) hq), e⟩)
theorem mp_3 {w : Cond} (h : w ∈ k2_sels lw_privs_3) : w ∈ lw_tbl := List.mem_append_left _ (by unfold k2_sels lw_privs at *; obtain ⟨q, hq, e⟩ := List.mem_map.mp h; exact List.mem_map.mpr ⟨q, (show q ∈ _ from (fun (h : q ∈ lw_privs_3) => List.mem_append_right _ (List.mem_append_right _ (List.mem_append_left _ h))) hq), e⟩)
theorem mp_4 {w : Cond} (h : w ∈ k2_sels lw_privs_4) : w ∈ lw_tbl := List.mem_append_left _ (by unfold k2_sels lw_privs at *; obtain ⟨q, hq, e⟩ := List.mem_map.mp h; exact List.mem_map.mpr ⟨q, (show q ∈ _ from (fun (h : q ∈ lw_privs_4) => List.mem_append_right _ (List.mem_append_right _ (List.mem_append_right _ (List.mem_append_left _ h)))) hq), e⟩)
theorem mp_5 {w : Cond} (h : w ∈ k2_sels lw_privs_5) : w ∈ lw_tbl := List.mem_append_left _ (by unfold k2_sels lw_privs at *; obtain ⟨q, hq, e⟩ := List.mem_map.mp h; exact List.mem_map.mpr ⟨q, (show q ∈ _ from (fun (h : q ∈ lw_privs_5) => List.mem_append_right _ (List.mem_append_right _ (List.mem_append_right _ (List.mem_append_right _ (List.mem_append_left _ h))))) hq), e⟩)
theorem mp_6 {w : Cond} (h : w ∈ k2_sels lw_privs_6) : w ∈ lw_tbl := List.mem_append_left _ (by unfold k2_sels lw_privs at *; obtain ⟨q, hq, e⟩ := List.mem_map.mp h; exact List.mem_map.mpr ⟨q, (show q ∈ _ from (fun (h : q ∈ lw_privs_6) => List.mem_append_right _ (List.mem_append_right _ (List.mem_append_right _ (List.mem_append_right _ (List.mem_append_right _ (List.mem_append_left _ h)))))) hq), e⟩)
theorem mp_7 {w : Cond} (h : w ∈ k2_sels lw_privs_7) : w ∈ lw_tbl := List.mem_append_left _ (by unfold k2_sels lw_privs at *; obtain ⟨q, hq, e⟩ := List.mem_map.mp h; exact List.mem_map.mpr ⟨q, (show q ∈ _ from (fun (h : q ∈ lw_privs_7) => List.mem_append_right _ (List.mem_append_right _ (List.mem_append_right _ (List.mem_append_right _ (List.mem_append_right _ (List.mem_append_right _ (h))))))) hq), e⟩)
theorem ini_L {U : State} (h : AllW U) {A : Array Value} : (Cond.initialized "ClapValleyLaw").before A U = true := h.use (mw_1 (List.mem_of_getElem? (i := 0) rfl)) rfl
theorem ini_X11 {U : State} (h : AllW U) {A : Array Value} : (Cond.initialized "ClapValley").before A U = true := h.use (mw_1 (List.mem_of_getElem? (i := 1) rfl)) rfl
theorem ini_X8 {U : State} (h : AllW U) {A : Array Value} : (Cond.initialized "ClapValley$Tape").before A U = true := h.use (mw_1 (List.mem_of_getElem? (i := 2) rfl)) rfl
theorem ini_X4 {U : State} (h : AllW U) {A : Array Value} : (Cond.initialized "ClapValley$Land").before A U = true := h.use (mw_1 (List.mem_of_getElem? (i := 3) rfl)) rfl
theorem ini_X9 {U : State} (h : AllW U) {A : Array Value} : (Cond.initialized "ClapValley$Wall").before A U = true := h.use (mw_1 (List.mem_of_getElem? (i := 4) rfl)) rfl
theorem ini_X0 {U : State} (h : AllW U) {A : Array Value} : (Cond.initialized "ClapValley$Barn").before A U = true := h.use (mw_1 (List.mem_of_getElem? (i := 5) rfl)) rfl
theorem ini_X10 {U : State} (h : AllW U) {A : Array Value} : (Cond.initialized "ClapValley$Wood").before A U = true := h.use (mw_1 (List.mem_of_getElem? (i := 6) rfl)) rfl
theorem ini_X1 {U : State} (h : AllW U) {A : Array Value} : (Cond.initialized "ClapValley$Book").before A U = true := h.use (mw_1 (List.mem_of_getElem? (i := 7) rfl)) rfl
theorem ini_X7 {U : State} (h : AllW U) {A : Array Value} : (Cond.initialized "ClapValley$Station").before A U = true := h.use (mw_1 (List.mem_of_getElem? (i := 8) rfl)) rfl
theorem ini_X6 {U : State} (h : AllW U) {A : Array Value} : (Cond.initialized "ClapValley$Scene").before A U = true := h.use (mw_1 (List.mem_of_getElem? (i := 9) rfl)) rfl
theorem ini_X3 {U : State} (h : AllW U) {A : Array Value} : (Cond.initialized "ClapValley$Echoes").before A U = true := h.use (mw_1 (List.mem_of_getElem? (i := 10) rfl)) rfl
theorem ini_X5 {U : State} (h : AllW U) {A : Array Value} : (Cond.initialized "ClapValley$Planner").before A U = true := h.use (mw_1 (List.mem_of_getElem? (i := 11) rfl)) rfl
theorem ini_X2 {U : State} (h : AllW U) {A : Array Value} : (Cond.initialized "ClapValley$Chooser").before A U = true := h.use (mw_1 (List.mem_of_getElem? (i := 12) rfl)) rfl
theorem ini_X12 {U : State} (h : AllW U) {A : Array Value} : (Cond.initialized "ClapValleyModel").before A U = true := h.use (mw_1 (List.mem_of_getElem? (i := 13) rfl)) rfl
theorem ini_java_lang_Throwable {U : State} (h : AllW U) {A : Array Value} : (Cond.initialized "java/lang/Throwable").before A U = true := h.use (mw_1 (List.mem_of_getElem? (i := 14) rfl)) rfl
theorem ini_java_lang_Exception {U : State} (h : AllW U) {A : Array Value} : (Cond.initialized "java/lang/Exception").before A U = true := h.use (mw_1 (List.mem_of_getElem? (i := 15) rfl)) rfl
theorem ini_java_lang_RuntimeException {U : State} (h : AllW U) {A : Array Value} : (Cond.initialized "java/lang/RuntimeException").before A U = true := h.use (mw_1 (List.mem_of_getElem? (i := 16) rfl)) rfl
theorem ini_java_util_NoSuchElementException {U : State} (h : AllW U) {A : Array Value} : (Cond.initialized "java/util/NoSuchElementException").before A U = true := h.use (mw_1 (List.mem_of_getElem? (i := 17) rfl)) rfl
theorem ini_java_lang_IllegalArgumentException {U : State} (h : AllW U) {A : Array Value} : (Cond.initialized "java/lang/IllegalArgumentException").before A U = true := h.use (mw_1 (List.mem_of_getElem? (i := 18) rfl)) rfl
theorem ini_J9 {U : State} (h : AllW U) {A : Array Value} : (Cond.initialized "java/lang/Math").before A U = true := h.use (mw_1 (List.mem_of_getElem? (i := 19) rfl)) rfl
theorem ini_J0 {U : State} (h : AllW U) {A : Array Value} : (Cond.initialized "java/lang/String").before A U = true := h.use (mw_1 (List.mem_of_getElem? (i := 20) rfl)) rfl
theorem ini_J1 {U : State} (h : AllW U) {A : Array Value} : (Cond.initialized "java/lang/StringLatin1").before A U = true := h.use (mw_1 (List.mem_of_getElem? (i := 21) rfl)) rfl
theorem ini_J3 {U : State} (h : AllW U) {A : Array Value} : (Cond.initialized "jdk/internal/util/Preconditions").before A U = true := h.use (mw_1 (List.mem_of_getElem? (i := 22) rfl)) rfl
theorem ini_J2 {U : State} (h : AllW U) {A : Array Value} : (Cond.initialized "java/lang/StringUTF16").before A U = true := h.use (mw_1 (List.mem_of_getElem? (i := 23) rfl)) rfl
theorem ini_J6 {U : State} (h : AllW U) {A : Array Value} : (Cond.initialized "java/lang/Integer").before A U = true := h.use (mw_1 (List.mem_of_getElem? (i := 24) rfl)) rfl
theorem ini_J10 {U : State} (h : AllW U) {A : Array Value} : (Cond.initialized "java/lang/System").before A U = true := h.use (mw_1 (List.mem_of_getElem? (i := 25) rfl)) rfl
theorem cl_L_8 {U : State} (h : AllW U) {A : Array Value} : (Cond.classLink "ClapValleyLaw" 8 "ClapValley").before A U = true := h.use (mw_1 (List.mem_of_getElem? (i := 26) rfl)) rfl
theorem inst_X11 {U : State} (h : AllW U) {A : Array Value} : (Cond.instantiable "ClapValley" 12).before A U = true := h.use (mw_1 (List.mem_of_getElem? (i := 27) rfl)) rfl
theorem ml_L_68 {U : State} (h : AllW U) {A : Array Value} : (Cond.methodLink "ClapValleyLaw" 68 yX11_init).before A U = true := h.use (mw_1 (List.mem_of_getElem? (i := 28) rfl)) rfl
theorem im_X11_init {U : State} (h : AllW U) {A : Array Value} : (Cond.instanceMethod yX11_init).before A U = true := h.use (mw_1 (List.mem_of_getElem? (i := 29) rfl)) rfl
theorem cd_X11_init {U : State} (h : AllW U) {A : Array Value} : (Cond.code yX11_init cX11_init 2 none).before A U = true := h.use (mw_1 (List.mem_of_getElem? (i := 30) rfl)) rfl
theorem ml_X11_3 {U : State} (h : AllW U) {A : Array Value} : (Cond.methodLink "ClapValley" 3 ({ cls := "java/lang/Object", name := "<init>", desc := "()V" } : Jvm.MethodName)).before A U = true := h.use (mw_1 (List.mem_of_getElem? (i := 31) rfl)) rfl
theorem im_java_lang_Object__init___V {U : State} (h : AllW U) {A : Array Value} : (Cond.instanceMethod ({ cls := "java/lang/Object", name := "<init>", desc := "()V" } : Jvm.MethodName)).before A U = true := h.use (mw_1 (List.mem_of_getElem? (i := 32) rfl)) rfl
theorem cd_java_lang_Object__init___V {U : State} (h : AllW U) {A : Array Value} : (Cond.code ({ cls := "java/lang/Object", name := "<init>", desc := "()V" } : Jvm.MethodName) object_method_1_code 1 none).before A U = true := h.use (mw_1 (List.mem_of_getElem? (i := 33) rfl)) rfl
theorem cl_X11_9 {U : State} (h : AllW U) {A : Array Value} : (Cond.classLink "ClapValley" 9 "ClapValley$Tape").before A U = true := h.use (mw_1 (List.mem_of_getElem? (i := 34) rfl)) rfl
theorem inst_X8 {U : State} (h : AllW U) {A : Array Value} : (Cond.instantiable "ClapValley$Tape" 12).before A U = true := h.use (mw_1 (List.mem_of_getElem? (i := 35) rfl)) rfl
theorem mn_X11_11 {U : State} (h : AllW U) {A : Array Value} : (Cond.methodLinkNest "ClapValley" 11 yX8_init "ClapValley").before A U = true := h.use (mw_1 (List.mem_of_getElem? (i := 36) rfl)) rfl
theorem im_X8_init {U : State} (h : AllW U) {A : Array Value} : (Cond.instanceMethod yX8_init).before A U = true := h.use (mw_1 (List.mem_of_getElem? (i := 37) rfl)) rfl
theorem cd_X8_init {U : State} (h : AllW U) {A : Array Value} : (Cond.code yX8_init cX8_init 1 none).before A U = true := h.use (mw_1 (List.mem_of_getElem? (i := 38) rfl)) rfl
theorem ml_X8_3 {U : State} (h : AllW U) {A : Array Value} : (Cond.methodLink "ClapValley$Tape" 3 ({ cls := "java/lang/Object", name := "<init>", desc := "()V" } : Jvm.MethodName)).before A U = true := h.use (mw_1 (List.mem_of_getElem? (i := 39) rfl)) rfl
theorem cl_X8_15 {U : State} (h : AllW U) {A : Array Value} : (Cond.classLink "ClapValley$Tape" 15 "ClapValley$Land").before A U = true := h.use (mw_1 (List.mem_of_getElem? (i := 40) rfl)) rfl
theorem inst_X4 {U : State} (h : AllW U) {A : Array Value} : (Cond.instantiable "ClapValley$Land" 8).before A U = true := h.use (mw_1 (List.mem_of_getElem? (i := 41) rfl)) rfl
theorem mn_X8_17 {U : State} (h : AllW U) {A : Array Value} : (Cond.methodLinkNest "ClapValley$Tape" 17 yX4_init "ClapValley").before A U = true := h.use (mw_1 (List.mem_of_getElem? (i := 42) rfl)) rfl
theorem im_X4_init {U : State} (h : AllW U) {A : Array Value} : (Cond.instanceMethod yX4_init).before A U = true := h.use (mw_1 (List.mem_of_getElem? (i := 43) rfl)) rfl
theorem cd_X4_init {U : State} (h : AllW U) {A : Array Value} : (Cond.code yX4_init cX4_init 2 none).before A U = true := h.use (mw_1 (List.mem_of_getElem? (i := 44) rfl)) rfl
theorem ml_X4_3 {U : State} (h : AllW U) {A : Array Value} : (Cond.methodLink "ClapValley$Land" 3 ({ cls := "java/lang/Object", name := "<init>", desc := "()V" } : Jvm.MethodName)).before A U = true := h.use (mw_1 (List.mem_of_getElem? (i := 45) rfl)) rfl
theorem cl_X4_9 {U : State} (h : AllW U) {A : Array Value} : (Cond.classLink "ClapValley$Land" 9 "ClapValley$Wall").before A U = true := h.use (mw_1 (List.mem_of_getElem? (i := 46) rfl)) rfl
theorem ao_object_ClapValley_Wall {U : State} (h : AllW U) {A : Array Value} : (Cond.arrayOver (FieldType.object "ClapValley$Wall")).before A U = true := h.use (mw_1 (List.mem_of_getElem? (i := 47) rfl)) rfl
theorem inst_X9 {U : State} (h : AllW U) {A : Array Value} : (Cond.instantiable "ClapValley$Wall" 5).before A U = true := h.use (mw_1 (List.mem_of_getElem? (i := 48) rfl)) rfl
theorem mn_X4_17 {U : State} (h : AllW U) {A : Array Value} : (Cond.methodLinkNest "ClapValley$Land" 17 yX9_init "ClapValley").before A U = true := h.use (mw_1 (List.mem_of_getElem? (i := 49) rfl)) rfl
theorem im_X9_init {U : State} (h : AllW U) {A : Array Value} : (Cond.instanceMethod yX9_init).before A U = true := h.use (mw_1 (List.mem_of_getElem? (i := 50) rfl)) rfl
theorem cd_X9_init {U : State} (h : AllW U) {A : Array Value} : (Cond.code yX9_init cX9_init 1 none).before A U = true := h.use (mw_1 (List.mem_of_getElem? (i := 51) rfl)) rfl
theorem ml_X9_1 {U : State} (h : AllW U) {A : Array Value} : (Cond.methodLink "ClapValley$Wall" 1 ({ cls := "java/lang/Object", name := "<init>", desc := "()V" } : Jvm.MethodName)).before A U = true := h.use (mw_1 (List.mem_of_getElem? (i := 52) rfl)) rfl
theorem fl_X9_16 {U : State} (h : AllW U) {A : Array Value} : (Cond.fieldLink "ClapValley$Wall" 16 "ClapValley$Wall" "upright" "Z").before A U = true := h.use (mw_1 (List.mem_of_getElem? (i := 53) rfl)) rfl
theorem fn_X6_82 {U : State} (h : AllW U) {A : Array Value} : (Cond.fieldLinkNest "ClapValley$Scene" 82 "ClapValley$Wall" "upright" "Z" "ClapValley").before A U = true := h.use (mw_1 (List.mem_of_getElem? (i := 54) rfl)) rfl
theorem fn_X8_103 {U : State} (h : AllW U) {A : Array Value} : (Cond.fieldLinkNest "ClapValley$Tape" 103 "ClapValley$Wall" "upright" "Z" "ClapValley").before A U = true := h.use (mw_1 (List.mem_of_getElem? (i := 55) rfl)) rfl
theorem fn_X6_77 {U : State} (h : AllW U) {A : Array Value} : (Cond.fieldLinkNest "ClapValley$Scene" 77 "ClapValley$Wall" "at" "I" "ClapValley").before A U = true := h.use (mw_1 (List.mem_of_getElem? (i := 56) rfl)) rfl
theorem fl_X9_20 {U : State} (h : AllW U) {A : Array Value} : (Cond.fieldLink "ClapValley$Wall" 20 "ClapValley$Wall" "at" "I").before A U = true := h.use (mw_1 (List.mem_of_getElem? (i := 57) rfl)) rfl
theorem fn_X8_111 {U : State} (h : AllW U) {A : Array Value} : (Cond.fieldLinkNest "ClapValley$Tape" 111 "ClapValley$Wall" "at" "I" "ClapValley").before A U = true := h.use (mw_1 (List.mem_of_getElem? (i := 58) rfl)) rfl
theorem fl_X9_7 {U : State} (h : AllW U) {A : Array Value} : (Cond.fieldLink "ClapValley$Wall" 7 "ClapValley$Wall" "from" "I").before A U = true := h.use (mw_1 (List.mem_of_getElem? (i := 59) rfl)) rfl
theorem fn_X8_114 {U : State} (h : AllW U) {A : Array Value} : (Cond.fieldLinkNest "ClapValley$Tape" 114 "ClapValley$Wall" "from" "I" "ClapValley").before A U = true := h.use (mw_1 (List.mem_of_getElem? (i := 60) rfl)) rfl
theorem fl_X9_13 {U : State} (h : AllW U) {A : Array Value} : (Cond.fieldLink "ClapValley$Wall" 13 "ClapValley$Wall" "to" "I").before A U = true := h.use (mw_1 (List.mem_of_getElem? (i := 61) rfl)) rfl
theorem fn_X8_117 {U : State} (h : AllW U) {A : Array Value} : (Cond.fieldLinkNest "ClapValley$Tape" 117 "ClapValley$Wall" "to" "I" "ClapValley").before A U = true := h.use (mw_1 (List.mem_of_getElem? (i := 62) rfl)) rfl
theorem fn_X6_96 {U : State} (h : AllW U) {A : Array Value} : (Cond.fieldLinkNest "ClapValley$Scene" 96 "ClapValley$Wall" "loss" "I" "ClapValley").before A U = true := h.use (mw_1 (List.mem_of_getElem? (i := 63) rfl)) rfl
theorem fn_X8_124 {U : State} (h : AllW U) {A : Array Value} : (Cond.fieldLinkNest "ClapValley$Tape" 124 "ClapValley$Wall" "loss" "I" "ClapValley").before A U = true := h.use (mw_1 (List.mem_of_getElem? (i := 64) rfl)) rfl
theorem ac_byte {U : State} (h : AllW U) {A : Array Value} : (Cond.arrayClass FieldType.byte).before A U = true := h.use (mw_1 (List.mem_of_getElem? (i := 76) rfl)) rfl
theorem cl_X4_18 {U : State} (h : AllW U) {A : Array Value} : (Cond.classLink "ClapValley$Land" 18 "ClapValley$Barn").before A U = true := h.use (mw_1 (List.mem_of_getElem? (i := 77) rfl)) rfl
theorem ao_object_ClapValley_Barn {U : State} (h : AllW U) {A : Array Value} : (Cond.arrayOver (FieldType.object "ClapValley$Barn")).before A U = true := h.use (mw_1 (List.mem_of_getElem? (i := 78) rfl)) rfl
theorem inst_X0 {U : State} (h : AllW U) {A : Array Value} : (Cond.instantiable "ClapValley$Barn" 5).before A U = true := h.use (mw_1 (List.mem_of_getElem? (i := 79) rfl)) rfl
theorem mn_X4_24 {U : State} (h : AllW U) {A : Array Value} : (Cond.methodLinkNest "ClapValley$Land" 24 yX0_init "ClapValley").before A U = true := h.use (mw_1 (List.mem_of_getElem? (i := 80) rfl)) rfl
theorem im_X0_init {U : State} (h : AllW U) {A : Array Value} : (Cond.instanceMethod yX0_init).before A U = true := h.use (mw_1 (List.mem_of_getElem? (i := 81) rfl)) rfl
theorem cd_X0_init {U : State} (h : AllW U) {A : Array Value} : (Cond.code yX0_init cX0_init 1 none).before A U = true := h.use (mw_1 (List.mem_of_getElem? (i := 82) rfl)) rfl
theorem ml_X0_1 {U : State} (h : AllW U) {A : Array Value} : (Cond.methodLink "ClapValley$Barn" 1 ({ cls := "java/lang/Object", name := "<init>", desc := "()V" } : Jvm.MethodName)).before A U = true := h.use (mw_1 (List.mem_of_getElem? (i := 83) rfl)) rfl
theorem fn_X6_68 {U : State} (h : AllW U) {A : Array Value} : (Cond.fieldLinkNest "ClapValley$Scene" 68 "ClapValley$Barn" "x" "I" "ClapValley").before A U = true := h.use (mw_1 (List.mem_of_getElem? (i := 84) rfl)) rfl
theorem fn_X8_137 {U : State} (h : AllW U) {A : Array Value} : (Cond.fieldLinkNest "ClapValley$Tape" 137 "ClapValley$Barn" "x" "I" "ClapValley").before A U = true := h.use (mw_1 (List.mem_of_getElem? (i := 85) rfl)) rfl
theorem fn_X3_146 {U : State} (h : AllW U) {A : Array Value} : (Cond.fieldLinkNest "ClapValley$Echoes" 146 "ClapValley$Barn" "x" "I" "ClapValley").before A U = true := h.use (mw_1 (List.mem_of_getElem? (i := 86) rfl)) rfl
theorem fn_X6_69 {U : State} (h : AllW U) {A : Array Value} : (Cond.fieldLinkNest "ClapValley$Scene" 69 "ClapValley$Barn" "y" "I" "ClapValley").before A U = true := h.use (mw_1 (List.mem_of_getElem? (i := 87) rfl)) rfl
theorem fn_X8_142 {U : State} (h : AllW U) {A : Array Value} : (Cond.fieldLinkNest "ClapValley$Tape" 142 "ClapValley$Barn" "y" "I" "ClapValley").before A U = true := h.use (mw_1 (List.mem_of_getElem? (i := 88) rfl)) rfl
theorem fn_X3_149 {U : State} (h : AllW U) {A : Array Value} : (Cond.fieldLinkNest "ClapValley$Echoes" 149 "ClapValley$Barn" "y" "I" "ClapValley").before A U = true := h.use (mw_1 (List.mem_of_getElem? (i := 89) rfl)) rfl
theorem fn_X6_109 {U : State} (h : AllW U) {A : Array Value} : (Cond.fieldLinkNest "ClapValley$Scene" 109 "ClapValley$Barn" "loss" "I" "ClapValley").before A U = true := h.use (mw_1 (List.mem_of_getElem? (i := 90) rfl)) rfl
theorem fn_X8_145 {U : State} (h : AllW U) {A : Array Value} : (Cond.fieldLinkNest "ClapValley$Tape" 145 "ClapValley$Barn" "loss" "I" "ClapValley").before A U = true := h.use (mw_1 (List.mem_of_getElem? (i := 91) rfl)) rfl
theorem fn_X6_60 {U : State} (h : AllW U) {A : Array Value} : (Cond.fieldLinkNest "ClapValley$Scene" 60 "ClapValley$Barn" "from" "I" "ClapValley").before A U = true := h.use (mw_1 (List.mem_of_getElem? (i := 92) rfl)) rfl
theorem fn_X8_146 {U : State} (h : AllW U) {A : Array Value} : (Cond.fieldLinkNest "ClapValley$Tape" 146 "ClapValley$Barn" "from" "I" "ClapValley").before A U = true := h.use (mw_1 (List.mem_of_getElem? (i := 93) rfl)) rfl
theorem fn_X6_65 {U : State} (h : AllW U) {A : Array Value} : (Cond.fieldLinkNest "ClapValley$Scene" 65 "ClapValley$Barn" "to" "I" "ClapValley").before A U = true := h.use (mw_1 (List.mem_of_getElem? (i := 94) rfl)) rfl
theorem fn_X8_147 {U : State} (h : AllW U) {A : Array Value} : (Cond.fieldLinkNest "ClapValley$Tape" 147 "ClapValley$Barn" "to" "I" "ClapValley").before A U = true := h.use (mw_1 (List.mem_of_getElem? (i := 95) rfl)) rfl
theorem cl_X4_25 {U : State} (h : AllW U) {A : Array Value} : (Cond.classLink "ClapValley$Land" 25 "ClapValley$Wood").before A U = true := h.use (mw_1 (List.mem_of_getElem? (i := 107) rfl)) rfl
theorem ao_object_ClapValley_Wood {U : State} (h : AllW U) {A : Array Value} : (Cond.arrayOver (FieldType.object "ClapValley$Wood")).before A U = true := h.use (mw_1 (List.mem_of_getElem? (i := 108) rfl)) rfl
theorem inst_X10 {U : State} (h : AllW U) {A : Array Value} : (Cond.instantiable "ClapValley$Wood" 5).before A U = true := h.use (mw_1 (List.mem_of_getElem? (i := 109) rfl)) rfl
theorem mn_X4_31 {U : State} (h : AllW U) {A : Array Value} : (Cond.methodLinkNest "ClapValley$Land" 31 yX10_init "ClapValley").before A U = true := h.use (mw_1 (List.mem_of_getElem? (i := 110) rfl)) rfl
theorem im_X10_init {U : State} (h : AllW U) {A : Array Value} : (Cond.instanceMethod yX10_init).before A U = true := h.use (mw_1 (List.mem_of_getElem? (i := 111) rfl)) rfl
theorem cd_X10_init {U : State} (h : AllW U) {A : Array Value} : (Cond.code yX10_init cX10_init 1 none).before A U = true := h.use (mw_1 (List.mem_of_getElem? (i := 112) rfl)) rfl
theorem ml_X10_3 {U : State} (h : AllW U) {A : Array Value} : (Cond.methodLink "ClapValley$Wood" 3 ({ cls := "java/lang/Object", name := "<init>", desc := "()V" } : Jvm.MethodName)).before A U = true := h.use (mw_1 (List.mem_of_getElem? (i := 113) rfl)) rfl
theorem fl_X10_21 {U : State} (h : AllW U) {A : Array Value} : (Cond.fieldLink "ClapValley$Wood" 21 "ClapValley$Wood" "lowX" "I").before A U = true := h.use (mw_1 (List.mem_of_getElem? (i := 114) rfl)) rfl
theorem fn_X8_157 {U : State} (h : AllW U) {A : Array Value} : (Cond.fieldLinkNest "ClapValley$Tape" 157 "ClapValley$Wood" "lowX" "I" "ClapValley").before A U = true := h.use (mw_1 (List.mem_of_getElem? (i := 115) rfl)) rfl
theorem fl_X10_31 {U : State} (h : AllW U) {A : Array Value} : (Cond.fieldLink "ClapValley$Wood" 31 "ClapValley$Wood" "lowY" "I").before A U = true := h.use (mw_1 (List.mem_of_getElem? (i := 116) rfl)) rfl
theorem fn_X8_162 {U : State} (h : AllW U) {A : Array Value} : (Cond.fieldLinkNest "ClapValley$Tape" 162 "ClapValley$Wood" "lowY" "I" "ClapValley").before A U = true := h.use (mw_1 (List.mem_of_getElem? (i := 117) rfl)) rfl
theorem fl_X10_28 {U : State} (h : AllW U) {A : Array Value} : (Cond.fieldLink "ClapValley$Wood" 28 "ClapValley$Wood" "highX" "I").before A U = true := h.use (mw_1 (List.mem_of_getElem? (i := 118) rfl)) rfl
theorem fn_X8_165 {U : State} (h : AllW U) {A : Array Value} : (Cond.fieldLinkNest "ClapValley$Tape" 165 "ClapValley$Wood" "highX" "I" "ClapValley").before A U = true := h.use (mw_1 (List.mem_of_getElem? (i := 119) rfl)) rfl
theorem fl_X10_34 {U : State} (h : AllW U) {A : Array Value} : (Cond.fieldLink "ClapValley$Wood" 34 "ClapValley$Wood" "highY" "I").before A U = true := h.use (mw_1 (List.mem_of_getElem? (i := 120) rfl)) rfl
theorem fn_X8_168 {U : State} (h : AllW U) {A : Array Value} : (Cond.fieldLinkNest "ClapValley$Tape" 168 "ClapValley$Wood" "highY" "I" "ClapValley").before A U = true := h.use (mw_1 (List.mem_of_getElem? (i := 121) rfl)) rfl
theorem fl_X10_9 {U : State} (h : AllW U) {A : Array Value} : (Cond.fieldLink "ClapValley$Wood" 9 "ClapValley$Wood" "takes" "[I").before A U = true := h.use (mw_1 (List.mem_of_getElem? (i := 122) rfl)) rfl
theorem fn_X4_58 {U : State} (h : AllW U) {A : Array Value} : (Cond.fieldLinkNest "ClapValley$Land" 58 "ClapValley$Wood" "takes" "[I" "ClapValley").before A U = true := h.use (mw_1 (List.mem_of_getElem? (i := 123) rfl)) rfl
theorem fn_X8_171 {U : State} (h : AllW U) {A : Array Value} : (Cond.fieldLinkNest "ClapValley$Tape" 171 "ClapValley$Wood" "takes" "[I" "ClapValley").before A U = true := h.use (mw_1 (List.mem_of_getElem? (i := 124) rfl)) rfl
theorem ac_int {U : State} (h : AllW U) {A : Array Value} : (Cond.arrayClass FieldType.int).before A U = true := h.use (mw_1 (List.mem_of_getElem? (i := 136) rfl)) rfl
theorem ml_X4_32 {U : State} (h : AllW U) {A : Array Value} : (Cond.methodLink "ClapValley$Land" 32 yX4_empty).before A U = true := h.use (mw_1 (List.mem_of_getElem? (i := 137) rfl)) rfl
theorem im_X4_empty {U : State} (h : AllW U) {A : Array Value} : (Cond.instanceMethod yX4_empty).before A U = true := h.use (mw_1 (List.mem_of_getElem? (i := 139) rfl)) rfl
theorem cd_X4_empty {U : State} (h : AllW U) {A : Array Value} : (Cond.code yX4_empty cX4_empty 1 none).before A U = true := h.use (mw_1 (List.mem_of_getElem? (i := 140) rfl)) rfl
theorem fl_X4_11 {U : State} (h : AllW U) {A : Array Value} : (Cond.fieldLink "ClapValley$Land" 11 "ClapValley$Land" "walls" "[LClapValley$Wall;").before A U = true := h.use (mw_1 (List.mem_of_getElem? (i := 141) rfl)) rfl
theorem fn_X6_45 {U : State} (h : AllW U) {A : Array Value} : (Cond.fieldLinkNest "ClapValley$Scene" 45 "ClapValley$Land" "walls" "[LClapValley$Wall;" "ClapValley").before A U = true := h.use (mw_1 (List.mem_of_getElem? (i := 142) rfl)) rfl
theorem fn_X8_99 {U : State} (h : AllW U) {A : Array Value} : (Cond.fieldLinkNest "ClapValley$Tape" 99 "ClapValley$Land" "walls" "[LClapValley$Wall;" "ClapValley").before A U = true := h.use (mw_1 (List.mem_of_getElem? (i := 143) rfl)) rfl
theorem fn_X3_150 {U : State} (h : AllW U) {A : Array Value} : (Cond.fieldLinkNest "ClapValley$Echoes" 150 "ClapValley$Land" "walls" "[LClapValley$Wall;" "ClapValley").before A U = true := h.use (mw_1 (List.mem_of_getElem? (i := 144) rfl)) rfl
theorem fl_X4_20 {U : State} (h : AllW U) {A : Array Value} : (Cond.fieldLink "ClapValley$Land" 20 "ClapValley$Land" "barns" "[LClapValley$Barn;").before A U = true := h.use (mw_1 (List.mem_of_getElem? (i := 145) rfl)) rfl
theorem fn_X6_56 {U : State} (h : AllW U) {A : Array Value} : (Cond.fieldLinkNest "ClapValley$Scene" 56 "ClapValley$Land" "barns" "[LClapValley$Barn;" "ClapValley").before A U = true := h.use (mw_1 (List.mem_of_getElem? (i := 146) rfl)) rfl
theorem fn_X8_133 {U : State} (h : AllW U) {A : Array Value} : (Cond.fieldLinkNest "ClapValley$Tape" 133 "ClapValley$Land" "barns" "[LClapValley$Barn;" "ClapValley").before A U = true := h.use (mw_1 (List.mem_of_getElem? (i := 147) rfl)) rfl
theorem fn_X3_142 {U : State} (h : AllW U) {A : Array Value} : (Cond.fieldLinkNest "ClapValley$Echoes" 142 "ClapValley$Land" "barns" "[LClapValley$Barn;" "ClapValley").before A U = true := h.use (mw_1 (List.mem_of_getElem? (i := 148) rfl)) rfl
theorem fl_X4_27 {U : State} (h : AllW U) {A : Array Value} : (Cond.fieldLink "ClapValley$Land" 27 "ClapValley$Land" "woods" "[LClapValley$Wood;").before A U = true := h.use (mw_1 (List.mem_of_getElem? (i := 149) rfl)) rfl
theorem fn_X8_153 {U : State} (h : AllW U) {A : Array Value} : (Cond.fieldLinkNest "ClapValley$Tape" 153 "ClapValley$Land" "woods" "[LClapValley$Wood;" "ClapValley").before A U = true := h.use (mw_1 (List.mem_of_getElem? (i := 150) rfl)) rfl
theorem fl_X4_35 {U : State} (h : AllW U) {A : Array Value} : (Cond.fieldLink "ClapValley$Land" 35 "ClapValley$Land" "wallCount" "I").before A U = true := h.use (mw_1 (List.mem_of_getElem? (i := 151) rfl)) rfl
theorem fn_X3_33 {U : State} (h : AllW U) {A : Array Value} : (Cond.fieldLinkNest "ClapValley$Echoes" 33 "ClapValley$Land" "wallCount" "I" "ClapValley").before A U = true := h.use (mw_1 (List.mem_of_getElem? (i := 152) rfl)) rfl
theorem fn_X6_40 {U : State} (h : AllW U) {A : Array Value} : (Cond.fieldLinkNest "ClapValley$Scene" 40 "ClapValley$Land" "wallCount" "I" "ClapValley").before A U = true := h.use (mw_1 (List.mem_of_getElem? (i := 153) rfl)) rfl
theorem fn_X8_96 {U : State} (h : AllW U) {A : Array Value} : (Cond.fieldLinkNest "ClapValley$Tape" 96 "ClapValley$Land" "wallCount" "I" "ClapValley").before A U = true := h.use (mw_1 (List.mem_of_getElem? (i := 154) rfl)) rfl
theorem fn_X11_120 {U : State} (h : AllW U) {A : Array Value} : (Cond.fieldLinkNest "ClapValley" 120 "ClapValley$Land" "wallCount" "I" "ClapValley").before A U = true := h.use (mw_1 (List.mem_of_getElem? (i := 155) rfl)) rfl
theorem fl_X4_39 {U : State} (h : AllW U) {A : Array Value} : (Cond.fieldLink "ClapValley$Land" 39 "ClapValley$Land" "barnCount" "I").before A U = true := h.use (mw_1 (List.mem_of_getElem? (i := 156) rfl)) rfl
theorem fn_X6_53 {U : State} (h : AllW U) {A : Array Value} : (Cond.fieldLinkNest "ClapValley$Scene" 53 "ClapValley$Land" "barnCount" "I" "ClapValley").before A U = true := h.use (mw_1 (List.mem_of_getElem? (i := 157) rfl)) rfl
theorem fn_X3_60 {U : State} (h : AllW U) {A : Array Value} : (Cond.fieldLinkNest "ClapValley$Echoes" 60 "ClapValley$Land" "barnCount" "I" "ClapValley").before A U = true := h.use (mw_1 (List.mem_of_getElem? (i := 158) rfl)) rfl
theorem fn_X8_130 {U : State} (h : AllW U) {A : Array Value} : (Cond.fieldLinkNest "ClapValley$Tape" 130 "ClapValley$Land" "barnCount" "I" "ClapValley").before A U = true := h.use (mw_1 (List.mem_of_getElem? (i := 159) rfl)) rfl
theorem fn_X11_123 {U : State} (h : AllW U) {A : Array Value} : (Cond.fieldLinkNest "ClapValley" 123 "ClapValley$Land" "barnCount" "I" "ClapValley").before A U = true := h.use (mw_1 (List.mem_of_getElem? (i := 160) rfl)) rfl
theorem fl_X4_42 {U : State} (h : AllW U) {A : Array Value} : (Cond.fieldLink "ClapValley$Land" 42 "ClapValley$Land" "woodCount" "I").before A U = true := h.use (mw_1 (List.mem_of_getElem? (i := 161) rfl)) rfl
theorem fn_X11_126 {U : State} (h : AllW U) {A : Array Value} : (Cond.fieldLinkNest "ClapValley" 126 "ClapValley$Land" "woodCount" "I" "ClapValley").before A U = true := h.use (mw_1 (List.mem_of_getElem? (i := 162) rfl)) rfl
theorem fn_X8_150 {U : State} (h : AllW U) {A : Array Value} : (Cond.fieldLinkNest "ClapValley$Tape" 150 "ClapValley$Land" "woodCount" "I" "ClapValley").before A U = true := h.use (mw_1 (List.mem_of_getElem? (i := 163) rfl)) rfl
theorem fn_X2_29 {U : State} (h : AllW U) {A : Array Value} : (Cond.fieldLinkNest "ClapValley$Chooser" 29 "ClapValley$Land" "hears" "I" "ClapValley").before A U = true := h.use (mw_1 (List.mem_of_getElem? (i := 164) rfl)) rfl
theorem fl_X4_45 {U : State} (h : AllW U) {A : Array Value} : (Cond.fieldLink "ClapValley$Land" 45 "ClapValley$Land" "hears" "I").before A U = true := h.use (mw_1 (List.mem_of_getElem? (i := 165) rfl)) rfl
theorem fn_X11_129 {U : State} (h : AllW U) {A : Array Value} : (Cond.fieldLinkNest "ClapValley" 129 "ClapValley$Land" "hears" "I" "ClapValley").before A U = true := h.use (mw_1 (List.mem_of_getElem? (i := 166) rfl)) rfl
theorem fn_X8_175 {U : State} (h : AllW U) {A : Array Value} : (Cond.fieldLinkNest "ClapValley$Tape" 175 "ClapValley$Land" "hears" "I" "ClapValley").before A U = true := h.use (mw_1 (List.mem_of_getElem? (i := 167) rfl)) rfl
theorem fn_X3_100 {U : State} (h : AllW U) {A : Array Value} : (Cond.fieldLinkNest "ClapValley$Echoes" 100 "ClapValley$Land" "hears" "I" "ClapValley").before A U = true := h.use (mw_1 (List.mem_of_getElem? (i := 168) rfl)) rfl
theorem fl_X4_48 {U : State} (h : AllW U) {A : Array Value} : (Cond.fieldLink "ClapValley$Land" 48 "ClapValley$Land" "air" "I").before A U = true := h.use (mw_1 (List.mem_of_getElem? (i := 169) rfl)) rfl
theorem fn_X2_44 {U : State} (h : AllW U) {A : Array Value} : (Cond.fieldLinkNest "ClapValley$Chooser" 44 "ClapValley$Land" "air" "I" "ClapValley").before A U = true := h.use (mw_1 (List.mem_of_getElem? (i := 170) rfl)) rfl
theorem fn_X11_132 {U : State} (h : AllW U) {A : Array Value} : (Cond.fieldLinkNest "ClapValley" 132 "ClapValley$Land" "air" "I" "ClapValley").before A U = true := h.use (mw_1 (List.mem_of_getElem? (i := 171) rfl)) rfl
theorem fn_X8_177 {U : State} (h : AllW U) {A : Array Value} : (Cond.fieldLinkNest "ClapValley$Tape" 177 "ClapValley$Land" "air" "I" "ClapValley").before A U = true := h.use (mw_1 (List.mem_of_getElem? (i := 172) rfl)) rfl
theorem fn_X3_117 {U : State} (h : AllW U) {A : Array Value} : (Cond.fieldLinkNest "ClapValley$Echoes" 117 "ClapValley$Land" "air" "I" "ClapValley").before A U = true := h.use (mw_1 (List.mem_of_getElem? (i := 173) rfl)) rfl
theorem fl_X8_9 {U : State} (h : AllW U) {A : Array Value} : (Cond.fieldLink "ClapValley$Tape" 9 "ClapValley$Tape" "bytes" "[B").before A U = true := h.use (mw_1 (List.mem_of_getElem? (i := 191) rfl)) rfl
theorem fn_X11_76 {U : State} (h : AllW U) {A : Array Value} : (Cond.fieldLinkNest "ClapValley" 76 "ClapValley$Tape" "length" "I" "ClapValley").before A U = true := h.use (mw_1 (List.mem_of_getElem? (i := 192) rfl)) rfl
theorem fl_X8_26 {U : State} (h : AllW U) {A : Array Value} : (Cond.fieldLink "ClapValley$Tape" 26 "ClapValley$Tape" "length" "I").before A U = true := h.use (mw_1 (List.mem_of_getElem? (i := 193) rfl)) rfl
theorem fl_X8_35 {U : State} (h : AllW U) {A : Array Value} : (Cond.fieldLink "ClapValley$Tape" 35 "ClapValley$Tape" "limit" "I").before A U = true := h.use (mw_1 (List.mem_of_getElem? (i := 194) rfl)) rfl
theorem fl_X8_18 {U : State} (h : AllW U) {A : Array Value} : (Cond.fieldLink "ClapValley$Tape" 18 "ClapValley$Tape" "land" "LClapValley$Land;").before A U = true := h.use (mw_1 (List.mem_of_getElem? (i := 195) rfl)) rfl
theorem fl_X8_41 {U : State} (h : AllW U) {A : Array Value} : (Cond.fieldLink "ClapValley$Tape" 41 "ClapValley$Tape" "hearsTold" "Z").before A U = true := h.use (mw_1 (List.mem_of_getElem? (i := 196) rfl)) rfl
theorem fl_X8_45 {U : State} (h : AllW U) {A : Array Value} : (Cond.fieldLink "ClapValley$Tape" 45 "ClapValley$Tape" "airTold" "Z").before A U = true := h.use (mw_1 (List.mem_of_getElem? (i := 197) rfl)) rfl
theorem fl_X8_57 {U : State} (h : AllW U) {A : Array Value} : (Cond.fieldLink "ClapValley$Tape" 57 "ClapValley$Tape" "kind" "I").before A U = true := h.use (mw_1 (List.mem_of_getElem? (i := 198) rfl)) rfl
theorem fl_X8_183 {U : State} (h : AllW U) {A : Array Value} : (Cond.fieldLink "ClapValley$Tape" 183 "ClapValley$Tape" "start" "I").before A U = true := h.use (mw_1 (List.mem_of_getElem? (i := 199) rfl)) rfl
theorem fl_X8_51 {U : State} (h : AllW U) {A : Array Value} : (Cond.fieldLink "ClapValley$Tape" 51 "ClapValley$Tape" "end" "I").before A U = true := h.use (mw_1 (List.mem_of_getElem? (i := 200) rfl)) rfl
theorem fl_X8_180 {U : State} (h : AllW U) {A : Array Value} : (Cond.fieldLink "ClapValley$Tape" 180 "ClapValley$Tape" "value" "I").before A U = true := h.use (mw_1 (List.mem_of_getElem? (i := 201) rfl)) rfl
theorem fl_X8_48 {U : State} (h : AllW U) {A : Array Value} : (Cond.fieldLink "ClapValley$Tape" 48 "ClapValley$Tape" "found" "I").before A U = true := h.use (mw_1 (List.mem_of_getElem? (i := 202) rfl)) rfl
theorem fl_X8_22 {U : State} (h : AllW U) {A : Array Value} : (Cond.fieldLink "ClapValley$Tape" 22 "ClapValley$Tape" "place" "I").before A U = true := h.use (mw_1 (List.mem_of_getElem? (i := 203) rfl)) rfl
theorem fn_X11_106 {U : State} (h : AllW U) {A : Array Value} : (Cond.fieldLinkNest "ClapValley" 106 "ClapValley$Tape" "place" "I" "ClapValley").before A U = true := h.use (mw_1 (List.mem_of_getElem? (i := 204) rfl)) rfl
theorem cl_X11_16 {U : State} (h : AllW U) {A : Array Value} : (Cond.classLink "ClapValley" 16 "ClapValley$Land").before A U = true := h.use (mw_1 (List.mem_of_getElem? (i := 230) rfl)) rfl
theorem ao_object_ClapValley_Land {U : State} (h : AllW U) {A : Array Value} : (Cond.arrayOver (FieldType.object "ClapValley$Land")).before A U = true := h.use (mw_1 (List.mem_of_getElem? (i := 231) rfl)) rfl
theorem mn_X11_22 {U : State} (h : AllW U) {A : Array Value} : (Cond.methodLinkNest "ClapValley" 22 yX4_init "ClapValley").before A U = true := h.use (mw_1 (List.mem_of_getElem? (i := 232) rfl)) rfl
theorem cl_X11_23 {U : State} (h : AllW U) {A : Array Value} : (Cond.classLink "ClapValley" 23 "ClapValley$Book").before A U = true := h.use (mw_1 (List.mem_of_getElem? (i := 233) rfl)) rfl
theorem inst_X1 {U : State} (h : AllW U) {A : Array Value} : (Cond.instantiable "ClapValley$Book" 8).before A U = true := h.use (mw_1 (List.mem_of_getElem? (i := 234) rfl)) rfl
theorem mn_X11_25 {U : State} (h : AllW U) {A : Array Value} : (Cond.methodLinkNest "ClapValley" 25 yX1_init "ClapValley").before A U = true := h.use (mw_1 (List.mem_of_getElem? (i := 235) rfl)) rfl
theorem im_X1_init {U : State} (h : AllW U) {A : Array Value} : (Cond.instanceMethod yX1_init).before A U = true := h.use (mw_1 (List.mem_of_getElem? (i := 236) rfl)) rfl
theorem cd_X1_init {U : State} (h : AllW U) {A : Array Value} : (Cond.code yX1_init cX1_init 2 none).before A U = true := h.use (mw_1 (List.mem_of_getElem? (i := 237) rfl)) rfl
theorem ml_X1_3 {U : State} (h : AllW U) {A : Array Value} : (Cond.methodLink "ClapValley$Book" 3 ({ cls := "java/lang/Object", name := "<init>", desc := "()V" } : Jvm.MethodName)).before A U = true := h.use (mw_1 (List.mem_of_getElem? (i := 238) rfl)) rfl
theorem cl_X1_21 {U : State} (h : AllW U) {A : Array Value} : (Cond.classLink "ClapValley$Book" 21 "ClapValley$Station").before A U = true := h.use (mw_1 (List.mem_of_getElem? (i := 239) rfl)) rfl
theorem ao_object_ClapValley_Station {U : State} (h : AllW U) {A : Array Value} : (Cond.arrayOver (FieldType.object "ClapValley$Station")).before A U = true := h.use (mw_2 (List.mem_of_getElem? (i := 0) rfl)) rfl
theorem inst_X7 {U : State} (h : AllW U) {A : Array Value} : (Cond.instantiable "ClapValley$Station" 7).before A U = true := h.use (mw_2 (List.mem_of_getElem? (i := 1) rfl)) rfl
theorem mn_X1_30 {U : State} (h : AllW U) {A : Array Value} : (Cond.methodLinkNest "ClapValley$Book" 30 yX7_init "ClapValley").before A U = true := h.use (mw_2 (List.mem_of_getElem? (i := 2) rfl)) rfl
theorem im_X7_init {U : State} (h : AllW U) {A : Array Value} : (Cond.instanceMethod yX7_init).before A U = true := h.use (mw_2 (List.mem_of_getElem? (i := 3) rfl)) rfl
theorem cd_X7_init {U : State} (h : AllW U) {A : Array Value} : (Cond.code yX7_init cX7_init 1 none).before A U = true := h.use (mw_2 (List.mem_of_getElem? (i := 4) rfl)) rfl
theorem ml_X7_3 {U : State} (h : AllW U) {A : Array Value} : (Cond.methodLink "ClapValley$Station" 3 ({ cls := "java/lang/Object", name := "<init>", desc := "()V" } : Jvm.MethodName)).before A U = true := h.use (mw_2 (List.mem_of_getElem? (i := 5) rfl)) rfl
theorem fl_X7_18 {U : State} (h : AllW U) {A : Array Value} : (Cond.fieldLink "ClapValley$Station" 18 "ClapValley$Station" "x" "I").before A U = true := h.use (mw_2 (List.mem_of_getElem? (i := 6) rfl)) rfl
theorem fn_X5_57 {U : State} (h : AllW U) {A : Array Value} : (Cond.fieldLinkNest "ClapValley$Planner" 57 "ClapValley$Station" "x" "I" "ClapValley").before A U = true := h.use (mw_2 (List.mem_of_getElem? (i := 7) rfl)) rfl
theorem fn_X11_197 {U : State} (h : AllW U) {A : Array Value} : (Cond.fieldLinkNest "ClapValley" 197 "ClapValley$Station" "x" "I" "ClapValley").before A U = true := h.use (mw_2 (List.mem_of_getElem? (i := 8) rfl)) rfl
theorem fl_X7_22 {U : State} (h : AllW U) {A : Array Value} : (Cond.fieldLink "ClapValley$Station" 22 "ClapValley$Station" "y" "I").before A U = true := h.use (mw_2 (List.mem_of_getElem? (i := 9) rfl)) rfl
theorem fn_X5_60 {U : State} (h : AllW U) {A : Array Value} : (Cond.fieldLinkNest "ClapValley$Planner" 60 "ClapValley$Station" "y" "I" "ClapValley").before A U = true := h.use (mw_2 (List.mem_of_getElem? (i := 10) rfl)) rfl
theorem fn_X11_200 {U : State} (h : AllW U) {A : Array Value} : (Cond.fieldLinkNest "ClapValley" 200 "ClapValley$Station" "y" "I" "ClapValley").before A U = true := h.use (mw_2 (List.mem_of_getElem? (i := 11) rfl)) rfl
theorem fl_X7_25 {U : State} (h : AllW U) {A : Array Value} : (Cond.fieldLink "ClapValley$Station" 25 "ClapValley$Station" "year" "I").before A U = true := h.use (mw_2 (List.mem_of_getElem? (i := 12) rfl)) rfl
theorem fn_X1_45 {U : State} (h : AllW U) {A : Array Value} : (Cond.fieldLinkNest "ClapValley$Book" 45 "ClapValley$Station" "year" "I" "ClapValley").before A U = true := h.use (mw_2 (List.mem_of_getElem? (i := 13) rfl)) rfl
theorem fn_X11_203 {U : State} (h : AllW U) {A : Array Value} : (Cond.fieldLinkNest "ClapValley" 203 "ClapValley$Station" "year" "I" "ClapValley").before A U = true := h.use (mw_2 (List.mem_of_getElem? (i := 14) rfl)) rfl
theorem fl_X7_28 {U : State} (h : AllW U) {A : Array Value} : (Cond.fieldLink "ClapValley$Station" 28 "ClapValley$Station" "tone" "I").before A U = true := h.use (mw_2 (List.mem_of_getElem? (i := 15) rfl)) rfl
theorem fn_X11_206 {U : State} (h : AllW U) {A : Array Value} : (Cond.fieldLinkNest "ClapValley" 206 "ClapValley$Station" "tone" "I" "ClapValley").before A U = true := h.use (mw_2 (List.mem_of_getElem? (i := 16) rfl)) rfl
theorem fl_X7_31 {U : State} (h : AllW U) {A : Array Value} : (Cond.fieldLink "ClapValley$Station" 31 "ClapValley$Station" "ticks" "I").before A U = true := h.use (mw_2 (List.mem_of_getElem? (i := 17) rfl)) rfl
theorem fn_X5_37 {U : State} (h : AllW U) {A : Array Value} : (Cond.fieldLinkNest "ClapValley$Planner" 37 "ClapValley$Station" "ticks" "I" "ClapValley").before A U = true := h.use (mw_2 (List.mem_of_getElem? (i := 18) rfl)) rfl
theorem fn_X11_191 {U : State} (h : AllW U) {A : Array Value} : (Cond.fieldLinkNest "ClapValley" 191 "ClapValley$Station" "ticks" "I" "ClapValley").before A U = true := h.use (mw_2 (List.mem_of_getElem? (i := 19) rfl)) rfl
theorem fn_X3_106 {U : State} (h : AllW U) {A : Array Value} : (Cond.fieldLinkNest "ClapValley$Echoes" 106 "ClapValley$Station" "ticks" "I" "ClapValley").before A U = true := h.use (mw_2 (List.mem_of_getElem? (i := 20) rfl)) rfl
theorem fl_X7_9 {U : State} (h : AllW U) {A : Array Value} : (Cond.fieldLink "ClapValley$Station" 9 "ClapValley$Station" "written" "[I").before A U = true := h.use (mw_2 (List.mem_of_getElem? (i := 21) rfl)) rfl
theorem fn_X5_54 {U : State} (h : AllW U) {A : Array Value} : (Cond.fieldLinkNest "ClapValley$Planner" 54 "ClapValley$Station" "written" "[I" "ClapValley").before A U = true := h.use (mw_2 (List.mem_of_getElem? (i := 22) rfl)) rfl
theorem fn_X11_250 {U : State} (h : AllW U) {A : Array Value} : (Cond.fieldLinkNest "ClapValley" 250 "ClapValley$Station" "written" "[I" "ClapValley").before A U = true := h.use (mw_2 (List.mem_of_getElem? (i := 23) rfl)) rfl
theorem fl_X7_15 {U : State} (h : AllW U) {A : Array Value} : (Cond.fieldLink "ClapValley$Station" 15 "ClapValley$Station" "ordered" "[I").before A U = true := h.use (mw_2 (List.mem_of_getElem? (i := 24) rfl)) rfl
theorem fn_X5_97 {U : State} (h : AllW U) {A : Array Value} : (Cond.fieldLinkNest "ClapValley$Planner" 97 "ClapValley$Station" "ordered" "[I" "ClapValley").before A U = true := h.use (mw_2 (List.mem_of_getElem? (i := 25) rfl)) rfl
theorem fn_X3_114 {U : State} (h : AllW U) {A : Array Value} : (Cond.fieldLinkNest "ClapValley$Echoes" 114 "ClapValley$Station" "ordered" "[I" "ClapValley").before A U = true := h.use (mw_2 (List.mem_of_getElem? (i := 26) rfl)) rfl
theorem fn_X11_228 {U : State} (h : AllW U) {A : Array Value} : (Cond.fieldLinkNest "ClapValley" 228 "ClapValley$Station" "ordered" "[I" "ClapValley").before A U = true := h.use (mw_2 (List.mem_of_getElem? (i := 27) rfl)) rfl
theorem fl_X1_23 {U : State} (h : AllW U) {A : Array Value} : (Cond.fieldLink "ClapValley$Book" 23 "ClapValley$Book" "stations" "[LClapValley$Station;").before A U = true := h.use (mw_2 (List.mem_of_getElem? (i := 43) rfl)) rfl
theorem fn_X11_177 {U : State} (h : AllW U) {A : Array Value} : (Cond.fieldLinkNest "ClapValley" 177 "ClapValley$Book" "stations" "[LClapValley$Station;" "ClapValley").before A U = true := h.use (mw_2 (List.mem_of_getElem? (i := 44) rfl)) rfl
theorem fl_X1_31 {U : State} (h : AllW U) {A : Array Value} : (Cond.fieldLink "ClapValley$Book" 31 "ClapValley$Book" "stationCount" "I").before A U = true := h.use (mw_2 (List.mem_of_getElem? (i := 45) rfl)) rfl
theorem fn_X11_109 {U : State} (h : AllW U) {A : Array Value} : (Cond.fieldLinkNest "ClapValley" 109 "ClapValley$Book" "stationCount" "I" "ClapValley").before A U = true := h.use (mw_2 (List.mem_of_getElem? (i := 46) rfl)) rfl
theorem fl_X1_9 {U : State} (h : AllW U) {A : Array Value} : (Cond.fieldLink "ClapValley$Book" 9 "ClapValley$Book" "spotX" "[I").before A U = true := h.use (mw_2 (List.mem_of_getElem? (i := 47) rfl)) rfl
theorem fn_X11_288 {U : State} (h : AllW U) {A : Array Value} : (Cond.fieldLinkNest "ClapValley" 288 "ClapValley$Book" "spotX" "[I" "ClapValley").before A U = true := h.use (mw_2 (List.mem_of_getElem? (i := 48) rfl)) rfl
theorem fl_X1_15 {U : State} (h : AllW U) {A : Array Value} : (Cond.fieldLink "ClapValley$Book" 15 "ClapValley$Book" "spotY" "[I").before A U = true := h.use (mw_2 (List.mem_of_getElem? (i := 49) rfl)) rfl
theorem fn_X11_291 {U : State} (h : AllW U) {A : Array Value} : (Cond.fieldLinkNest "ClapValley" 291 "ClapValley$Book" "spotY" "[I" "ClapValley").before A U = true := h.use (mw_2 (List.mem_of_getElem? (i := 50) rfl)) rfl
theorem fl_X1_35 {U : State} (h : AllW U) {A : Array Value} : (Cond.fieldLink "ClapValley$Book" 35 "ClapValley$Book" "spotCount" "I").before A U = true := h.use (mw_2 (List.mem_of_getElem? (i := 51) rfl)) rfl
theorem fn_X11_112 {U : State} (h : AllW U) {A : Array Value} : (Cond.fieldLinkNest "ClapValley" 112 "ClapValley$Book" "spotCount" "I" "ClapValley").before A U = true := h.use (mw_2 (List.mem_of_getElem? (i := 52) rfl)) rfl
theorem fl_X1_18 {U : State} (h : AllW U) {A : Array Value} : (Cond.fieldLink "ClapValley$Book" 18 "ClapValley$Book" "refused" "[I").before A U = true := h.use (mw_2 (List.mem_of_getElem? (i := 53) rfl)) rfl
theorem fn_X11_99 {U : State} (h : AllW U) {A : Array Value} : (Cond.fieldLinkNest "ClapValley" 99 "ClapValley$Book" "refused" "[I" "ClapValley").before A U = true := h.use (mw_2 (List.mem_of_getElem? (i := 54) rfl)) rfl
theorem fl_X1_27 {U : State} (h : AllW U) {A : Array Value} : (Cond.fieldLink "ClapValley$Book" 27 "ClapValley$Book" "picked" "[LClapValley$Station;").before A U = true := h.use (mw_2 (List.mem_of_getElem? (i := 55) rfl)) rfl
theorem fn_X5_33 {U : State} (h : AllW U) {A : Array Value} : (Cond.fieldLinkNest "ClapValley$Planner" 33 "ClapValley$Book" "picked" "[LClapValley$Station;" "ClapValley").before A U = true := h.use (mw_2 (List.mem_of_getElem? (i := 56) rfl)) rfl
theorem fn_X11_259 {U : State} (h : AllW U) {A : Array Value} : (Cond.fieldLinkNest "ClapValley" 259 "ClapValley$Book" "picked" "[LClapValley$Station;" "ClapValley").before A U = true := h.use (mw_2 (List.mem_of_getElem? (i := 57) rfl)) rfl
theorem fn_X5_28 {U : State} (h : AllW U) {A : Array Value} : (Cond.fieldLinkNest "ClapValley$Planner" 28 "ClapValley$Book" "pickedCount" "I" "ClapValley").before A U = true := h.use (mw_2 (List.mem_of_getElem? (i := 58) rfl)) rfl
theorem fl_X1_38 {U : State} (h : AllW U) {A : Array Value} : (Cond.fieldLink "ClapValley$Book" 38 "ClapValley$Book" "pickedCount" "I").before A U = true := h.use (mw_2 (List.mem_of_getElem? (i := 59) rfl)) rfl
theorem cl_X11_37 {U : State} (h : AllW U) {A : Array Value} : (Cond.classLink "ClapValley" 37 "ClapValley$Scene").before A U = true := h.use (mw_2 (List.mem_of_getElem? (i := 77) rfl)) rfl
theorem inst_X6 {U : State} (h : AllW U) {A : Array Value} : (Cond.instantiable "ClapValley$Scene" 9).before A U = true := h.use (mw_2 (List.mem_of_getElem? (i := 78) rfl)) rfl
theorem mn_X11_39 {U : State} (h : AllW U) {A : Array Value} : (Cond.methodLinkNest "ClapValley" 39 yX6_init "ClapValley").before A U = true := h.use (mw_2 (List.mem_of_getElem? (i := 79) rfl)) rfl
theorem im_X6_init {U : State} (h : AllW U) {A : Array Value} : (Cond.instanceMethod yX6_init).before A U = true := h.use (mw_2 (List.mem_of_getElem? (i := 80) rfl)) rfl
theorem cd_X6_init {U : State} (h : AllW U) {A : Array Value} : (Cond.code yX6_init cX6_init 1 none).before A U = true := h.use (mw_2 (List.mem_of_getElem? (i := 81) rfl)) rfl
theorem ml_X6_3 {U : State} (h : AllW U) {A : Array Value} : (Cond.methodLink "ClapValley$Scene" 3 ({ cls := "java/lang/Object", name := "<init>", desc := "()V" } : Jvm.MethodName)).before A U = true := h.use (mw_2 (List.mem_of_getElem? (i := 82) rfl)) rfl
theorem fl_X6_30 {U : State} (h : AllW U) {A : Array Value} : (Cond.fieldLink "ClapValley$Scene" 30 "ClapValley$Scene" "x" "I").before A U = true := h.use (mw_2 (List.mem_of_getElem? (i := 83) rfl)) rfl
theorem fn_X3_128 {U : State} (h : AllW U) {A : Array Value} : (Cond.fieldLinkNest "ClapValley$Echoes" 128 "ClapValley$Scene" "x" "I" "ClapValley").before A U = true := h.use (mw_2 (List.mem_of_getElem? (i := 84) rfl)) rfl
theorem fl_X6_34 {U : State} (h : AllW U) {A : Array Value} : (Cond.fieldLink "ClapValley$Scene" 34 "ClapValley$Scene" "y" "I").before A U = true := h.use (mw_2 (List.mem_of_getElem? (i := 85) rfl)) rfl
theorem fn_X3_131 {U : State} (h : AllW U) {A : Array Value} : (Cond.fieldLinkNest "ClapValley$Echoes" 131 "ClapValley$Scene" "y" "I" "ClapValley").before A U = true := h.use (mw_2 (List.mem_of_getElem? (i := 86) rfl)) rfl
theorem fl_X6_37 {U : State} (h : AllW U) {A : Array Value} : (Cond.fieldLink "ClapValley$Scene" 37 "ClapValley$Scene" "tone" "I").before A U = true := h.use (mw_2 (List.mem_of_getElem? (i := 87) rfl)) rfl
theorem fl_X6_9 {U : State} (h : AllW U) {A : Array Value} : (Cond.fieldLink "ClapValley$Scene" 9 "ClapValley$Scene" "sides" "[I").before A U = true := h.use (mw_2 (List.mem_of_getElem? (i := 88) rfl)) rfl
theorem fn_X3_72 {U : State} (h : AllW U) {A : Array Value} : (Cond.fieldLinkNest "ClapValley$Echoes" 72 "ClapValley$Scene" "sides" "[I" "ClapValley").before A U = true := h.use (mw_2 (List.mem_of_getElem? (i := 89) rfl)) rfl
theorem fl_X6_15 {U : State} (h : AllW U) {A : Array Value} : (Cond.fieldLink "ClapValley$Scene" 15 "ClapValley$Scene" "distances" "[I").before A U = true := h.use (mw_2 (List.mem_of_getElem? (i := 90) rfl)) rfl
theorem fn_X3_42 {U : State} (h : AllW U) {A : Array Value} : (Cond.fieldLinkNest "ClapValley$Echoes" 42 "ClapValley$Scene" "distances" "[I" "ClapValley").before A U = true := h.use (mw_2 (List.mem_of_getElem? (i := 91) rfl)) rfl
theorem fl_X6_18 {U : State} (h : AllW U) {A : Array Value} : (Cond.fieldLink "ClapValley$Scene" 18 "ClapValley$Scene" "barnSquares" "[I").before A U = true := h.use (mw_2 (List.mem_of_getElem? (i := 92) rfl)) rfl
theorem fn_X3_66 {U : State} (h : AllW U) {A : Array Value} : (Cond.fieldLinkNest "ClapValley$Echoes" 66 "ClapValley$Scene" "barnSquares" "[I" "ClapValley").before A U = true := h.use (mw_2 (List.mem_of_getElem? (i := 93) rfl)) rfl
theorem fl_X6_21 {U : State} (h : AllW U) {A : Array Value} : (Cond.fieldLink "ClapValley$Scene" 21 "ClapValley$Scene" "hiders" "[I").before A U = true := h.use (mw_2 (List.mem_of_getElem? (i := 94) rfl)) rfl
theorem fn_X3_63 {U : State} (h : AllW U) {A : Array Value} : (Cond.fieldLinkNest "ClapValley$Echoes" 63 "ClapValley$Scene" "hiders" "[I" "ClapValley").before A U = true := h.use (mw_2 (List.mem_of_getElem? (i := 95) rfl)) rfl
theorem fl_X6_24 {U : State} (h : AllW U) {A : Array Value} : (Cond.fieldLink "ClapValley$Scene" 24 "ClapValley$Scene" "wallStrengths" "[I").before A U = true := h.use (mw_2 (List.mem_of_getElem? (i := 96) rfl)) rfl
theorem fn_X3_84 {U : State} (h : AllW U) {A : Array Value} : (Cond.fieldLinkNest "ClapValley$Echoes" 84 "ClapValley$Scene" "wallStrengths" "[I" "ClapValley").before A U = true := h.use (mw_2 (List.mem_of_getElem? (i := 97) rfl)) rfl
theorem fl_X6_27 {U : State} (h : AllW U) {A : Array Value} : (Cond.fieldLink "ClapValley$Scene" 27 "ClapValley$Scene" "barnStrengths" "[I").before A U = true := h.use (mw_2 (List.mem_of_getElem? (i := 98) rfl)) rfl
theorem ao_object_ClapValley_Scene {U : State} (h : AllW U) {A : Array Value} : (Cond.arrayOver (FieldType.object "ClapValley$Scene")).before A U = true := h.use (mw_2 (List.mem_of_getElem? (i := 118) rfl)) rfl
theorem cl_X11_48 {U : State} (h : AllW U) {A : Array Value} : (Cond.classLink "ClapValley" 48 "ClapValley$Echoes").before A U = true := h.use (mw_2 (List.mem_of_getElem? (i := 119) rfl)) rfl
theorem inst_X3 {U : State} (h : AllW U) {A : Array Value} : (Cond.instantiable "ClapValley$Echoes" 7).before A U = true := h.use (mw_2 (List.mem_of_getElem? (i := 120) rfl)) rfl
theorem mn_X11_50 {U : State} (h : AllW U) {A : Array Value} : (Cond.methodLinkNest "ClapValley" 50 yX3_init "ClapValley").before A U = true := h.use (mw_2 (List.mem_of_getElem? (i := 121) rfl)) rfl
theorem im_X3_init {U : State} (h : AllW U) {A : Array Value} : (Cond.instanceMethod yX3_init).before A U = true := h.use (mw_2 (List.mem_of_getElem? (i := 122) rfl)) rfl
theorem cd_X3_init {U : State} (h : AllW U) {A : Array Value} : (Cond.code yX3_init cX3_init 1 none).before A U = true := h.use (mw_2 (List.mem_of_getElem? (i := 123) rfl)) rfl
theorem ml_X3_3 {U : State} (h : AllW U) {A : Array Value} : (Cond.methodLink "ClapValley$Echoes" 3 ({ cls := "java/lang/Object", name := "<init>", desc := "()V" } : Jvm.MethodName)).before A U = true := h.use (mw_2 (List.mem_of_getElem? (i := 124) rfl)) rfl
theorem fl_X3_29 {U : State} (h : AllW U) {A : Array Value} : (Cond.fieldLink "ClapValley$Echoes" 29 "ClapValley$Echoes" "size" "I").before A U = true := h.use (mw_2 (List.mem_of_getElem? (i := 125) rfl)) rfl
theorem fl_X3_9 {U : State} (h : AllW U) {A : Array Value} : (Cond.fieldLink "ClapValley$Echoes" 9 "ClapValley$Echoes" "numbers" "[I").before A U = true := h.use (mw_2 (List.mem_of_getElem? (i := 126) rfl)) rfl
theorem fl_X3_15 {U : State} (h : AllW U) {A : Array Value} : (Cond.fieldLink "ClapValley$Echoes" 15 "ClapValley$Echoes" "squares" "[I").before A U = true := h.use (mw_2 (List.mem_of_getElem? (i := 127) rfl)) rfl
theorem fl_X3_18 {U : State} (h : AllW U) {A : Array Value} : (Cond.fieldLink "ClapValley$Echoes" 18 "ClapValley$Echoes" "strengths" "[I").before A U = true := h.use (mw_2 (List.mem_of_getElem? (i := 128) rfl)) rfl
theorem fl_X3_23 {U : State} (h : AllW U) {A : Array Value} : (Cond.fieldLink "ClapValley$Echoes" 23 "ClapValley$Echoes" "nearest" "[I").before A U = true := h.use (mw_2 (List.mem_of_getElem? (i := 129) rfl)) rfl
theorem fl_X3_87 {U : State} (h : AllW U) {A : Array Value} : (Cond.fieldLink "ClapValley$Echoes" 87 "ClapValley$Echoes" "heard" "I").before A U = true := h.use (mw_2 (List.mem_of_getElem? (i := 130) rfl)) rfl
theorem fl_X3_26 {U : State} (h : AllW U) {A : Array Value} : (Cond.fieldLink "ClapValley$Echoes" 26 "ClapValley$Echoes" "roots" "[I").before A U = true := h.use (mw_2 (List.mem_of_getElem? (i := 131) rfl)) rfl
theorem fn_X2_41 {U : State} (h : AllW U) {A : Array Value} : (Cond.fieldLinkNest "ClapValley$Chooser" 41 "ClapValley$Echoes" "roots" "[I" "ClapValley").before A U = true := h.use (mw_2 (List.mem_of_getElem? (i := 132) rfl)) rfl
theorem fn_X11_154 {U : State} (h : AllW U) {A : Array Value} : (Cond.fieldLinkNest "ClapValley" 154 "ClapValley$Echoes" "roots" "[I" "ClapValley").before A U = true := h.use (mw_2 (List.mem_of_getElem? (i := 133) rfl)) rfl
theorem cl_X11_55 {U : State} (h : AllW U) {A : Array Value} : (Cond.classLink "ClapValley" 55 "ClapValley$Planner").before A U = true := h.use (mw_2 (List.mem_of_getElem? (i := 149) rfl)) rfl
theorem inst_X5 {U : State} (h : AllW U) {A : Array Value} : (Cond.instantiable "ClapValley$Planner" 8).before A U = true := h.use (mw_2 (List.mem_of_getElem? (i := 150) rfl)) rfl
theorem mn_X11_57 {U : State} (h : AllW U) {A : Array Value} : (Cond.methodLinkNest "ClapValley" 57 yX5_init "ClapValley").before A U = true := h.use (mw_2 (List.mem_of_getElem? (i := 151) rfl)) rfl
theorem im_X5_init {U : State} (h : AllW U) {A : Array Value} : (Cond.instanceMethod yX5_init).before A U = true := h.use (mw_2 (List.mem_of_getElem? (i := 152) rfl)) rfl
theorem cd_X5_init {U : State} (h : AllW U) {A : Array Value} : (Cond.code yX5_init cX5_init 1 none).before A U = true := h.use (mw_2 (List.mem_of_getElem? (i := 153) rfl)) rfl
theorem ml_X5_5 {U : State} (h : AllW U) {A : Array Value} : (Cond.methodLink "ClapValley$Planner" 5 ({ cls := "java/lang/Object", name := "<init>", desc := "()V" } : Jvm.MethodName)).before A U = true := h.use (mw_2 (List.mem_of_getElem? (i := 154) rfl)) rfl
theorem fl_X5_21 {U : State} (h : AllW U) {A : Array Value} : (Cond.fieldLink "ClapValley$Planner" 21 "ClapValley$Planner" "air" "I").before A U = true := h.use (mw_2 (List.mem_of_getElem? (i := 155) rfl)) rfl
theorem fl_X5_11 {U : State} (h : AllW U) {A : Array Value} : (Cond.fieldLink "ClapValley$Planner" 11 "ClapValley$Planner" "lines" "[I").before A U = true := h.use (mw_2 (List.mem_of_getElem? (i := 156) rfl)) rfl
theorem fl_X5_25 {U : State} (h : AllW U) {A : Array Value} : (Cond.fieldLink "ClapValley$Planner" 25 "ClapValley$Planner" "lineCount" "I").before A U = true := h.use (mw_2 (List.mem_of_getElem? (i := 157) rfl)) rfl
theorem fl_X5_15 {U : State} (h : AllW U) {A : Array Value} : (Cond.fieldLink "ClapValley$Planner" 15 "ClapValley$Planner" "plan" "[I").before A U = true := h.use (mw_2 (List.mem_of_getElem? (i := 158) rfl)) rfl
theorem fl_X5_18 {U : State} (h : AllW U) {A : Array Value} : (Cond.fieldLink "ClapValley$Planner" 18 "ClapValley$Planner" "row" "[I").before A U = true := h.use (mw_2 (List.mem_of_getElem? (i := 159) rfl)) rfl
theorem fl_X5_76 {U : State} (h : AllW U) {A : Array Value} : (Cond.fieldLink "ClapValley$Planner" 76 "ClapValley$Planner" "wanted" "I").before A U = true := h.use (mw_2 (List.mem_of_getElem? (i := 160) rfl)) rfl
theorem fl_X5_79 {U : State} (h : AllW U) {A : Array Value} : (Cond.fieldLink "ClapValley$Planner" 79 "ClapValley$Planner" "found" "I").before A U = true := h.use (mw_2 (List.mem_of_getElem? (i := 161) rfl)) rfl
theorem fl_X5_82 {U : State} (h : AllW U) {A : Array Value} : (Cond.fieldLink "ClapValley$Planner" 82 "ClapValley$Planner" "answer" "I").before A U = true := h.use (mw_2 (List.mem_of_getElem? (i := 162) rfl)) rfl
theorem cl_X11_62 {U : State} (h : AllW U) {A : Array Value} : (Cond.classLink "ClapValley" 62 "ClapValley$Chooser").before A U = true := h.use (mw_2 (List.mem_of_getElem? (i := 180) rfl)) rfl
theorem inst_X2 {U : State} (h : AllW U) {A : Array Value} : (Cond.instantiable "ClapValley$Chooser" 5).before A U = true := h.use (mw_2 (List.mem_of_getElem? (i := 181) rfl)) rfl
theorem mn_X11_64 {U : State} (h : AllW U) {A : Array Value} : (Cond.methodLinkNest "ClapValley" 64 yX2_init "ClapValley").before A U = true := h.use (mw_2 (List.mem_of_getElem? (i := 182) rfl)) rfl
theorem im_X2_init {U : State} (h : AllW U) {A : Array Value} : (Cond.instanceMethod yX2_init).before A U = true := h.use (mw_2 (List.mem_of_getElem? (i := 183) rfl)) rfl
theorem cd_X2_init {U : State} (h : AllW U) {A : Array Value} : (Cond.code yX2_init cX2_init 1 none).before A U = true := h.use (mw_2 (List.mem_of_getElem? (i := 184) rfl)) rfl
theorem ml_X2_3 {U : State} (h : AllW U) {A : Array Value} : (Cond.methodLink "ClapValley$Chooser" 3 ({ cls := "java/lang/Object", name := "<init>", desc := "()V" } : Jvm.MethodName)).before A U = true := h.use (mw_2 (List.mem_of_getElem? (i := 185) rfl)) rfl
theorem cl_X2_9 {U : State} (h : AllW U) {A : Array Value} : (Cond.classLink "ClapValley$Chooser" 9 "[[I").before A U = true := h.use (mw_2 (List.mem_of_getElem? (i := 186) rfl)) rfl
theorem ao_array_FieldType_int {U : State} (h : AllW U) {A : Array Value} : (Cond.arrayOver (FieldType.array FieldType.int)).before A U = true := h.use (mw_2 (List.mem_of_getElem? (i := 187) rfl)) rfl
theorem fl_X2_11 {U : State} (h : AllW U) {A : Array Value} : (Cond.fieldLink "ClapValley$Chooser" 11 "ClapValley$Chooser" "rows" "[[I").before A U = true := h.use (mw_2 (List.mem_of_getElem? (i := 188) rfl)) rfl
theorem fl_X2_16 {U : State} (h : AllW U) {A : Array Value} : (Cond.fieldLink "ClapValley$Chooser" 16 "ClapValley$Chooser" "lengths" "[I").before A U = true := h.use (mw_2 (List.mem_of_getElem? (i := 189) rfl)) rfl
theorem fl_X2_20 {U : State} (h : AllW U) {A : Array Value} : (Cond.fieldLink "ClapValley$Chooser" 20 "ClapValley$Chooser" "alike" "[I").before A U = true := h.use (mw_2 (List.mem_of_getElem? (i := 190) rfl)) rfl
theorem fl_X2_23 {U : State} (h : AllW U) {A : Array Value} : (Cond.fieldLink "ClapValley$Chooser" 23 "ClapValley$Chooser" "claps" "[I").before A U = true := h.use (mw_2 (List.mem_of_getElem? (i := 191) rfl)) rfl
theorem fn_X11_312 {U : State} (h : AllW U) {A : Array Value} : (Cond.fieldLinkNest "ClapValley" 312 "ClapValley$Chooser" "claps" "[I" "ClapValley").before A U = true := h.use (mw_2 (List.mem_of_getElem? (i := 192) rfl)) rfl
theorem fl_X2_26 {U : State} (h : AllW U) {A : Array Value} : (Cond.fieldLink "ClapValley$Chooser" 26 "ClapValley$Chooser" "firstSpot" "[I").before A U = true := h.use (mw_2 (List.mem_of_getElem? (i := 193) rfl)) rfl
theorem fn_X11_315 {U : State} (h : AllW U) {A : Array Value} : (Cond.fieldLinkNest "ClapValley" 315 "ClapValley$Chooser" "firstSpot" "[I" "ClapValley").before A U = true := h.use (mw_2 (List.mem_of_getElem? (i := 194) rfl)) rfl
theorem fl_X11_12 {U : State} (h : AllW U) {A : Array Value} : (Cond.fieldLink "ClapValley" 12 "ClapValley" "tape" "LClapValley$Tape;").before A U = true := h.use (mw_2 (List.mem_of_getElem? (i := 206) rfl)) rfl
theorem fl_X11_18 {U : State} (h : AllW U) {A : Array Value} : (Cond.fieldLink "ClapValley" 18 "ClapValley" "lands" "[LClapValley$Land;").before A U = true := h.use (mw_2 (List.mem_of_getElem? (i := 207) rfl)) rfl
theorem fl_X11_26 {U : State} (h : AllW U) {A : Array Value} : (Cond.fieldLink "ClapValley" 26 "ClapValley" "book" "LClapValley$Book;").before A U = true := h.use (mw_2 (List.mem_of_getElem? (i := 208) rfl)) rfl
theorem fl_X11_30 {U : State} (h : AllW U) {A : Array Value} : (Cond.fieldLink "ClapValley" 30 "ClapValley" "kept" "LClapValley$Book;").before A U = true := h.use (mw_2 (List.mem_of_getElem? (i := 209) rfl)) rfl
theorem fl_X11_33 {U : State} (h : AllW U) {A : Array Value} : (Cond.fieldLink "ClapValley" 33 "ClapValley" "hasImage" "Z").before A U = true := h.use (mw_2 (List.mem_of_getElem? (i := 210) rfl)) rfl
theorem fl_X11_40 {U : State} (h : AllW U) {A : Array Value} : (Cond.fieldLink "ClapValley" 40 "ClapValley" "scene" "LClapValley$Scene;").before A U = true := h.use (mw_2 (List.mem_of_getElem? (i := 211) rfl)) rfl
theorem fl_X11_44 {U : State} (h : AllW U) {A : Array Value} : (Cond.fieldLink "ClapValley" 44 "ClapValley" "stationScenes" "[LClapValley$Scene;").before A U = true := h.use (mw_2 (List.mem_of_getElem? (i := 212) rfl)) rfl
theorem fl_X11_51 {U : State} (h : AllW U) {A : Array Value} : (Cond.fieldLink "ClapValley" 51 "ClapValley" "echoes" "LClapValley$Echoes;").before A U = true := h.use (mw_2 (List.mem_of_getElem? (i := 213) rfl)) rfl
theorem fl_X11_58 {U : State} (h : AllW U) {A : Array Value} : (Cond.fieldLink "ClapValley" 58 "ClapValley" "planner" "LClapValley$Planner;").before A U = true := h.use (mw_2 (List.mem_of_getElem? (i := 214) rfl)) rfl
theorem fl_X11_65 {U : State} (h : AllW U) {A : Array Value} : (Cond.fieldLink "ClapValley" 65 "ClapValley" "chooser" "LClapValley$Chooser;").before A U = true := h.use (mw_2 (List.mem_of_getElem? (i := 215) rfl)) rfl
theorem fl_X11_69 {U : State} (h : AllW U) {A : Array Value} : (Cond.fieldLink "ClapValley" 69 "ClapValley" "heardByThief" "[I").before A U = true := h.use (mw_2 (List.mem_of_getElem? (i := 216) rfl)) rfl
theorem fl_X11_73 {U : State} (h : AllW U) {A : Array Value} : (Cond.fieldLink "ClapValley" 73 "ClapValley" "maybeHeard" "[I").before A U = true := h.use (mw_2 (List.mem_of_getElem? (i := 217) rfl)) rfl
theorem ml_L_72 {U : State} (h : AllW U) {A : Array Value} : (Cond.methodLink "ClapValleyLaw" 72 yX11_feed).before A U = true := h.use (mw_3 (List.mem_of_getElem? (i := 3) rfl)) rfl
theorem im_X11_feed {U : State} (h : AllW U) {A : Array Value} : (Cond.instanceMethod yX11_feed).before A U = true := h.use (mw_3 (List.mem_of_getElem? (i := 4) rfl)) rfl
theorem sl_X11_feed {U : State} (h : AllW U) {A : Array Value} : (Cond.selects "ClapValley" yX11_feed yX11_feed).before A U = true := h.use (mw_3 (List.mem_of_getElem? (i := 5) rfl)) rfl
theorem cd_X11_feed {U : State} (h : AllW U) {A : Array Value} : (Cond.code yX11_feed cX11_feed 6 (some FieldType.int)).before A U = true := h.use (mw_3 (List.mem_of_getElem? (i := 6) rfl)) rfl
theorem mn_X11_80 {U : State} (h : AllW U) {A : Array Value} : (Cond.methodLinkNest "ClapValley" 80 yX8_append "ClapValley").before A U = true := h.use (mw_3 (List.mem_of_getElem? (i := 7) rfl)) rfl
theorem im_X8_append {U : State} (h : AllW U) {A : Array Value} : (Cond.instanceMethod yX8_append).before A U = true := h.use (mw_3 (List.mem_of_getElem? (i := 9) rfl)) rfl
theorem cd_X8_append {U : State} (h : AllW U) {A : Array Value} : (Cond.code yX8_append cX8_append 3 none).before A U = true := h.use (mw_3 (List.mem_of_getElem? (i := 10) rfl)) rfl
theorem ml_L_86 {U : State} (h : AllW U) {A : Array Value} : (Cond.methodLink "ClapValleyLaw" 86 yX11_fault).before A U = true := h.use (mw_3 (List.mem_of_getElem? (i := 11) rfl)) rfl
theorem im_X11_fault {U : State} (h : AllW U) {A : Array Value} : (Cond.instanceMethod yX11_fault).before A U = true := h.use (mw_3 (List.mem_of_getElem? (i := 12) rfl)) rfl
theorem sl_X11_fault {U : State} (h : AllW U) {A : Array Value} : (Cond.selects "ClapValley" yX11_fault yX11_fault).before A U = true := h.use (mw_3 (List.mem_of_getElem? (i := 13) rfl)) rfl
theorem cd_X11_fault {U : State} (h : AllW U) {A : Array Value} : (Cond.code yX11_fault cX11_fault 1 (some FieldType.int)).before A U = true := h.use (mw_3 (List.mem_of_getElem? (i := 14) rfl)) rfl
theorem ml_L_104 {U : State} (h : AllW U) {A : Array Value} : (Cond.methodLink "ClapValleyLaw" 104 yX11_station).before A U = true := h.use (mw_3 (List.mem_of_getElem? (i := 15) rfl)) rfl
theorem im_X11_station {U : State} (h : AllW U) {A : Array Value} : (Cond.instanceMethod yX11_station).before A U = true := h.use (mw_3 (List.mem_of_getElem? (i := 16) rfl)) rfl
theorem sl_X11_station {U : State} (h : AllW U) {A : Array Value} : (Cond.selects "ClapValley" yX11_station yX11_station).before A U = true := h.use (mw_3 (List.mem_of_getElem? (i := 17) rfl)) rfl
theorem cd_X11_station {U : State} (h : AllW U) {A : Array Value} : (Cond.code yX11_station cX11_station 7 (some FieldType.int)).before A U = true := h.use (mw_3 (List.mem_of_getElem? (i := 18) rfl)) rfl
theorem ml_X11_166 {U : State} (h : AllW U) {A : Array Value} : (Cond.methodLink "ClapValley" 166 yX11_isPlace).before A U = true := h.use (mw_3 (List.mem_of_getElem? (i := 19) rfl)) rfl
theorem st_X11_isPlace {U : State} (h : AllW U) {A : Array Value} : (Cond.static yX11_isPlace).before A U = true := h.use (mw_3 (List.mem_of_getElem? (i := 20) rfl)) rfl
theorem cd_X11_isPlace {U : State} (h : AllW U) {A : Array Value} : (Cond.code yX11_isPlace cX11_isPlace 2 (some FieldType.boolean)).before A U = true := h.use (mw_3 (List.mem_of_getElem? (i := 21) rfl)) rfl
theorem ml_X11_170 {U : State} (h : AllW U) {A : Array Value} : (Cond.methodLink "ClapValley" 170 yX11_isYear).before A U = true := h.use (mw_3 (List.mem_of_getElem? (i := 22) rfl)) rfl
theorem st_X11_isYear {U : State} (h : AllW U) {A : Array Value} : (Cond.static yX11_isYear).before A U = true := h.use (mw_3 (List.mem_of_getElem? (i := 23) rfl)) rfl
theorem cd_X11_isYear {U : State} (h : AllW U) {A : Array Value} : (Cond.code yX11_isYear cX11_isYear 1 (some FieldType.boolean)).before A U = true := h.use (mw_3 (List.mem_of_getElem? (i := 24) rfl)) rfl
theorem ml_X11_174 {U : State} (h : AllW U) {A : Array Value} : (Cond.methodLink "ClapValley" 174 yX11_isTone).before A U = true := h.use (mw_3 (List.mem_of_getElem? (i := 25) rfl)) rfl
theorem st_X11_isTone {U : State} (h : AllW U) {A : Array Value} : (Cond.static yX11_isTone).before A U = true := h.use (mw_3 (List.mem_of_getElem? (i := 26) rfl)) rfl
theorem cd_X11_isTone {U : State} (h : AllW U) {A : Array Value} : (Cond.code yX11_isTone cX11_isTone 1 (some FieldType.boolean)).before A U = true := h.use (mw_3 (List.mem_of_getElem? (i := 27) rfl)) rfl
theorem mn_X11_181 {U : State} (h : AllW U) {A : Array Value} : (Cond.methodLinkNest "ClapValley" 181 yX7_begin "ClapValley").before A U = true := h.use (mw_3 (List.mem_of_getElem? (i := 28) rfl)) rfl
theorem im_X7_begin {U : State} (h : AllW U) {A : Array Value} : (Cond.instanceMethod yX7_begin).before A U = true := h.use (mw_3 (List.mem_of_getElem? (i := 30) rfl)) rfl
theorem cd_X7_begin {U : State} (h : AllW U) {A : Array Value} : (Cond.code yX7_begin cX7_begin 5 none).before A U = true := h.use (mw_3 (List.mem_of_getElem? (i := 31) rfl)) rfl
theorem ml_L_134 {U : State} (h : AllW U) {A : Array Value} : (Cond.methodLink "ClapValleyLaw" 134 yX11_spot).before A U = true := h.use (mw_3 (List.mem_of_getElem? (i := 32) rfl)) rfl
theorem im_X11_spot {U : State} (h : AllW U) {A : Array Value} : (Cond.instanceMethod yX11_spot).before A U = true := h.use (mw_3 (List.mem_of_getElem? (i := 33) rfl)) rfl
theorem sl_X11_spot {U : State} (h : AllW U) {A : Array Value} : (Cond.selects "ClapValley" yX11_spot yX11_spot).before A U = true := h.use (mw_3 (List.mem_of_getElem? (i := 34) rfl)) rfl
theorem cd_X11_spot {U : State} (h : AllW U) {A : Array Value} : (Cond.code yX11_spot cX11_spot 4 (some FieldType.int)).before A U = true := h.use (mw_3 (List.mem_of_getElem? (i := 35) rfl)) rfl
theorem ml_L_148 {U : State} (h : AllW U) {A : Array Value} : (Cond.methodLink "ClapValleyLaw" 148 yX11_clear).before A U = true := h.use (mw_3 (List.mem_of_getElem? (i := 36) rfl)) rfl
theorem im_X11_clear {U : State} (h : AllW U) {A : Array Value} : (Cond.instanceMethod yX11_clear).before A U = true := h.use (mw_3 (List.mem_of_getElem? (i := 37) rfl)) rfl
theorem sl_X11_clear {U : State} (h : AllW U) {A : Array Value} : (Cond.selects "ClapValley" yX11_clear yX11_clear).before A U = true := h.use (mw_3 (List.mem_of_getElem? (i := 38) rfl)) rfl
theorem cd_X11_clear {U : State} (h : AllW U) {A : Array Value} : (Cond.code yX11_clear cX11_clear 1 none).before A U = true := h.use (mw_3 (List.mem_of_getElem? (i := 39) rfl)) rfl
theorem mn_X11_344 {U : State} (h : AllW U) {A : Array Value} : (Cond.methodLinkNest "ClapValley" 344 yX1_empty "ClapValley").before A U = true := h.use (mw_3 (List.mem_of_getElem? (i := 40) rfl)) rfl
theorem im_X1_empty {U : State} (h : AllW U) {A : Array Value} : (Cond.instanceMethod yX1_empty).before A U = true := h.use (mw_3 (List.mem_of_getElem? (i := 42) rfl)) rfl
theorem cd_X1_empty {U : State} (h : AllW U) {A : Array Value} : (Cond.code yX1_empty cX1_empty 1 none).before A U = true := h.use (mw_3 (List.mem_of_getElem? (i := 43) rfl)) rfl
theorem ml_L_152 {U : State} (h : AllW U) {A : Array Value} : (Cond.methodLink "ClapValleyLaw" 152 yX11_image).before A U = true := h.use (mw_3 (List.mem_of_getElem? (i := 44) rfl)) rfl
theorem im_X11_image {U : State} (h : AllW U) {A : Array Value} : (Cond.instanceMethod yX11_image).before A U = true := h.use (mw_3 (List.mem_of_getElem? (i := 45) rfl)) rfl
theorem sl_X11_image {U : State} (h : AllW U) {A : Array Value} : (Cond.selects "ClapValley" yX11_image yX11_image).before A U = true := h.use (mw_3 (List.mem_of_getElem? (i := 46) rfl)) rfl
theorem cd_X11_image {U : State} (h : AllW U) {A : Array Value} : (Cond.code yX11_image cX11_image 1 none).before A U = true := h.use (mw_3 (List.mem_of_getElem? (i := 47) rfl)) rfl
theorem mn_X11_347 {U : State} (h : AllW U) {A : Array Value} : (Cond.methodLinkNest "ClapValley" 347 yX1_copyFrom "ClapValley").before A U = true := h.use (mw_3 (List.mem_of_getElem? (i := 48) rfl)) rfl
theorem im_X1_copyFrom {U : State} (h : AllW U) {A : Array Value} : (Cond.instanceMethod yX1_copyFrom).before A U = true := h.use (mw_3 (List.mem_of_getElem? (i := 50) rfl)) rfl
theorem cd_X1_copyFrom {U : State} (h : AllW U) {A : Array Value} : (Cond.code yX1_copyFrom cX1_copyFrom 3 none).before A U = true := h.use (mw_3 (List.mem_of_getElem? (i := 51) rfl)) rfl
theorem mn_X1_48 {U : State} (h : AllW U) {A : Array Value} : (Cond.methodLinkNest "ClapValley$Book" 48 yX7_copyFrom "ClapValley").before A U = true := h.use (mw_3 (List.mem_of_getElem? (i := 52) rfl)) rfl
theorem im_X7_copyFrom {U : State} (h : AllW U) {A : Array Value} : (Cond.instanceMethod yX7_copyFrom).before A U = true := h.use (mw_3 (List.mem_of_getElem? (i := 54) rfl)) rfl
theorem cd_X7_copyFrom {U : State} (h : AllW U) {A : Array Value} : (Cond.code yX7_copyFrom cX7_copyFrom 2 none).before A U = true := h.use (mw_3 (List.mem_of_getElem? (i := 55) rfl)) rfl
theorem ml_X7_38 {U : State} (h : AllW U) {A : Array Value} : (Cond.methodLink "ClapValley$Station" 38 yX7_begin).before A U = true := h.use (mw_3 (List.mem_of_getElem? (i := 56) rfl)) rfl
theorem ml_X7_42 {U : State} (h : AllW U) {A : Array Value} : (Cond.methodLink "ClapValley$Station" 42 ({ cls := "java/lang/System", name := "arraycopy", desc := "(Ljava/lang/Object;ILjava/lang/Object;II)V" } : Jvm.MethodName)).before A U = true := h.use (mw_3 (List.mem_of_getElem? (i := 57) rfl)) rfl
theorem st_J10_arraycopy_Ljava_lang_Object_ILjava_lang_Object_II_V {U : State} (h : AllW U) {A : Array Value} : (Cond.static ({ cls := "java/lang/System", name := "arraycopy", desc := "(Ljava/lang/Object;ILjava/lang/Object;II)V" } : Jvm.MethodName)).before A U = true := h.use (mw_3 (List.mem_of_getElem? (i := 58) rfl)) rfl
theorem nat_J10_arraycopy_Ljava_lang_Object_ILjava_lang_Object_II_V {U : State} (h : AllW U) {A : Array Value} : (Cond.native ({ cls := "java/lang/System", name := "arraycopy", desc := "(Ljava/lang/Object;ILjava/lang/Object;II)V" } : Jvm.MethodName)).before A U = true := h.use (mw_3 (List.mem_of_getElem? (i := 59) rfl)) rfl
theorem ml_X1_52 {U : State} (h : AllW U) {A : Array Value} : (Cond.methodLink "ClapValley$Book" 52 ({ cls := "java/lang/System", name := "arraycopy", desc := "(Ljava/lang/Object;ILjava/lang/Object;II)V" } : Jvm.MethodName)).before A U = true := h.use (mw_3 (List.mem_of_getElem? (i := 60) rfl)) rfl
theorem ml_L_156 {U : State} (h : AllW U) {A : Array Value} : (Cond.methodLink "ClapValleyLaw" 156 yX11_restore).before A U = true := h.use (mw_3 (List.mem_of_getElem? (i := 61) rfl)) rfl
theorem im_X11_restore {U : State} (h : AllW U) {A : Array Value} : (Cond.instanceMethod yX11_restore).before A U = true := h.use (mw_3 (List.mem_of_getElem? (i := 62) rfl)) rfl
theorem sl_X11_restore {U : State} (h : AllW U) {A : Array Value} : (Cond.selects "ClapValley" yX11_restore yX11_restore).before A U = true := h.use (mw_3 (List.mem_of_getElem? (i := 63) rfl)) rfl
theorem cd_X11_restore {U : State} (h : AllW U) {A : Array Value} : (Cond.code yX11_restore cX11_restore 1 (some FieldType.boolean)).before A U = true := h.use (mw_3 (List.mem_of_getElem? (i := 64) rfl)) rfl
theorem ml_L_76 {U : State} (h : AllW U) {A : Array Value} : (Cond.methodLink "ClapValleyLaw" 76 yL_land).before A U = true := h.use (mw_3 (List.mem_of_getElem? (i := 65) rfl)) rfl
theorem st_L_land {U : State} (h : AllW U) {A : Array Value} : (Cond.static yL_land).before A U = true := h.use (mw_3 (List.mem_of_getElem? (i := 66) rfl)) rfl
theorem cw_L_land {U : State} (h : AllW U) {A : Array Value} : (Cond.codeWith yL_land method_3_code 5 (some FieldType.int) [(0, 10, 13, 13), (0, 10, 17, 15)]).before A U = true := h.use (mw_3 (List.mem_of_getElem? (i := 67) rfl)) rfl
theorem cl_L_13 {U : State} (h : AllW U) {A : Array Value} : (Cond.classLink "ClapValleyLaw" 13 "java/util/NoSuchElementException").before A U = true := h.use (mw_3 (List.mem_of_getElem? (i := 68) rfl)) rfl
theorem cl_L_15 {U : State} (h : AllW U) {A : Array Value} : (Cond.classLink "ClapValleyLaw" 15 "java/lang/IllegalArgumentException").before A U = true := h.use (mw_3 (List.mem_of_getElem? (i := 69) rfl)) rfl
theorem ml_L_7 {U : State} (h : AllW U) {A : Array Value} : (Cond.methodLink "ClapValleyLaw" 7 yX11_land).before A U = true := h.use (mw_3 (List.mem_of_getElem? (i := 70) rfl)) rfl
theorem im_X11_land {U : State} (h : AllW U) {A : Array Value} : (Cond.instanceMethod yX11_land).before A U = true := h.use (mw_3 (List.mem_of_getElem? (i := 71) rfl)) rfl
theorem sl_X11_land {U : State} (h : AllW U) {A : Array Value} : (Cond.selects "ClapValley" yX11_land yX11_land).before A U = true := h.use (mw_3 (List.mem_of_getElem? (i := 72) rfl)) rfl
theorem cd_X11_land {U : State} (h : AllW U) {A : Array Value} : (Cond.code yX11_land cX11_land 5 (some FieldType.int)).before A U = true := h.use (mw_3 (List.mem_of_getElem? (i := 73) rfl)) rfl
theorem ml_X11_84 {U : State} (h : AllW U) {A : Array Value} : (Cond.methodLink "ClapValley" 84 yX11_needLand).before A U = true := h.use (mw_3 (List.mem_of_getElem? (i := 74) rfl)) rfl
theorem im_X11_needLand {U : State} (h : AllW U) {A : Array Value} : (Cond.instanceMethod yX11_needLand).before A U = true := h.use (mw_3 (List.mem_of_getElem? (i := 76) rfl)) rfl
theorem cd_X11_needLand {U : State} (h : AllW U) {A : Array Value} : (Cond.code yX11_needLand cX11_needLand 2 (some (FieldType.object "ClapValley$Land"))).before A U = true := h.use (mw_3 (List.mem_of_getElem? (i := 77) rfl)) rfl
theorem cl_X11_115 {U : State} (h : AllW U) {A : Array Value} : (Cond.classLink "ClapValley" 115 "java/util/NoSuchElementException").before A U = true := h.use (mw_3 (List.mem_of_getElem? (i := 78) rfl)) rfl
theorem inst_java_util_NoSuchElementException {U : State} (h : AllW U) {A : Array Value} : (Cond.instantiable "java/util/NoSuchElementException" 6).before A U = true := h.use (mw_3 (List.mem_of_getElem? (i := 79) rfl)) rfl
theorem sl_java_lang_Throwable_fillInStackTrace_I_Ljava_lang_Throwable_ {U : State} (h : AllW U) {A : Array Value} : (Cond.selects "java/util/NoSuchElementException" ({ cls := "java/lang/Throwable", name := "fillInStackTrace", desc := "(I)Ljava/lang/Throwable;" } : Jvm.MethodName) ({ cls := "java/lang/Throwable", name := "fillInStackTrace", desc := "(I)Ljava/lang/Throwable;" } : Jvm.MethodName)).before A U = true := h.use (mw_3 (List.mem_of_getElem? (i := 87) rfl)) rfl
theorem sl_java_lang_Throwable_fillInStackTrace__Ljava_lang_Throwable_ {U : State} (h : AllW U) {A : Array Value} : (Cond.selects "java/util/NoSuchElementException" ({ cls := "java/lang/Throwable", name := "fillInStackTrace", desc := "()Ljava/lang/Throwable;" } : Jvm.MethodName) ({ cls := "java/lang/Throwable", name := "fillInStackTrace", desc := "()Ljava/lang/Throwable;" } : Jvm.MethodName)).before A U = true := h.use (mw_3 (List.mem_of_getElem? (i := 88) rfl)) rfl
theorem fl_java_lang_Throwable_198 {U : State} (h : AllW U) {A : Array Value} : (Cond.fieldLink "java/lang/Throwable" 198 "java/lang/Throwable" "backtrace" "Ljava/lang/Object;").before A U = true := h.use (mw_3 (List.mem_of_getElem? (i := 99) rfl)) rfl
theorem im_java_lang_Throwable__init___V {U : State} (h : AllW U) {A : Array Value} : (Cond.instanceMethod ({ cls := "java/lang/Throwable", name := "<init>", desc := "()V" } : Jvm.MethodName)).before A U = true := h.use (mw_3 (List.mem_of_getElem? (i := 101) rfl)) rfl
theorem cd_java_lang_Throwable__init___V {U : State} (h : AllW U) {A : Array Value} : (Cond.code ({ cls := "java/lang/Throwable", name := "<init>", desc := "()V" } : Jvm.MethodName) prog_27_method_1_code 1 none).before A U = true := h.use (mw_3 (List.mem_of_getElem? (i := 102) rfl)) rfl
theorem ml_java_lang_Throwable_1 {U : State} (h : AllW U) {A : Array Value} : (Cond.methodLink "java/lang/Throwable" 1 ({ cls := "java/lang/Object", name := "<init>", desc := "()V" } : Jvm.MethodName)).before A U = true := h.use (mw_3 (List.mem_of_getElem? (i := 103) rfl)) rfl
theorem fl_java_lang_Throwable_13 {U : State} (h : AllW U) {A : Array Value} : (Cond.fieldLink "java/lang/Throwable" 13 "java/lang/Throwable" "UNASSIGNED_STACK" "[Ljava/lang/StackTraceElement;").before A U = true := h.use (mw_3 (List.mem_of_getElem? (i := 104) rfl)) rfl
theorem fl_java_lang_Throwable_20 {U : State} (h : AllW U) {A : Array Value} : (Cond.fieldLink "java/lang/Throwable" 20 "java/lang/Throwable" "SUPPRESSED_SENTINEL" "Ljava/util/List;").before A U = true := h.use (mw_3 (List.mem_of_getElem? (i := 106) rfl)) rfl
theorem ml_java_lang_Throwable_27 {U : State} (h : AllW U) {A : Array Value} : (Cond.methodLink "java/lang/Throwable" 27 ({ cls := "java/lang/Throwable", name := "fillInStackTrace", desc := "()Ljava/lang/Throwable;" } : Jvm.MethodName)).before A U = true := h.use (mw_3 (List.mem_of_getElem? (i := 108) rfl)) rfl
theorem im_java_lang_Throwable_fillInStackTrace__Ljava_lang_Throwable_ {U : State} (h : AllW U) {A : Array Value} : (Cond.instanceMethod ({ cls := "java/lang/Throwable", name := "fillInStackTrace", desc := "()Ljava/lang/Throwable;" } : Jvm.MethodName)).before A U = true := h.use (mw_3 (List.mem_of_getElem? (i := 109) rfl)) rfl
theorem ml_java_lang_Throwable_202 {U : State} (h : AllW U) {A : Array Value} : (Cond.methodLink "java/lang/Throwable" 202 ({ cls := "java/lang/Throwable", name := "fillInStackTrace", desc := "(I)Ljava/lang/Throwable;" } : Jvm.MethodName)).before A U = true := h.use (mw_3 (List.mem_of_getElem? (i := 113) rfl)) rfl
theorem im_java_lang_Throwable_fillInStackTrace_I_Ljava_lang_Throwable_ {U : State} (h : AllW U) {A : Array Value} : (Cond.instanceMethod ({ cls := "java/lang/Throwable", name := "fillInStackTrace", desc := "(I)Ljava/lang/Throwable;" } : Jvm.MethodName)).before A U = true := h.use (mw_3 (List.mem_of_getElem? (i := 115) rfl)) rfl
theorem inst_java_lang_Throwable {U : State} (h : AllW U) {A : Array Value} : (Cond.instantiable "java/lang/Throwable" 6).before A U = true := h.use (mw_3 (List.mem_of_getElem? (i := 116) rfl)) rfl
theorem nat_java_lang_Throwable_fillInStackTrace_I_Ljava_lang_Throwable_ {U : State} (h : AllW U) {A : Array Value} : (Cond.native ({ cls := "java/lang/Throwable", name := "fillInStackTrace", desc := "(I)Ljava/lang/Throwable;" } : Jvm.MethodName)).before A U = true := h.use (mw_3 (List.mem_of_getElem? (i := 117) rfl)) rfl
theorem ml_X11_119 {U : State} (h : AllW U) {A : Array Value} : (Cond.methodLink "ClapValley" 119 ({ cls := "java/util/NoSuchElementException", name := "<init>", desc := "(Ljava/lang/String;)V" } : Jvm.MethodName)).before A U = true := h.use (mw_3 (List.mem_of_getElem? (i := 119) rfl)) rfl
theorem im_java_util_NoSuchElementException__init__Ljava_lang_String__V {U : State} (h : AllW U) {A : Array Value} : (Cond.instanceMethod ({ cls := "java/util/NoSuchElementException", name := "<init>", desc := "(Ljava/lang/String;)V" } : Jvm.MethodName)).before A U = true := h.use (mw_3 (List.mem_of_getElem? (i := 120) rfl)) rfl
theorem cd_java_util_NoSuchElementException__init__Ljava_lang_String__V {U : State} (h : AllW U) {A : Array Value} : (Cond.code ({ cls := "java/util/NoSuchElementException", name := "<init>", desc := "(Ljava/lang/String;)V" } : Jvm.MethodName) prog_30_method_4_code 2 none).before A U = true := h.use (mw_3 (List.mem_of_getElem? (i := 121) rfl)) rfl
theorem ml_java_util_NoSuchElementException_13 {U : State} (h : AllW U) {A : Array Value} : (Cond.methodLink "java/util/NoSuchElementException" 13 ({ cls := "java/lang/RuntimeException", name := "<init>", desc := "(Ljava/lang/String;)V" } : Jvm.MethodName)).before A U = true := h.use (mw_3 (List.mem_of_getElem? (i := 122) rfl)) rfl
theorem im_java_lang_RuntimeException__init__Ljava_lang_String__V {U : State} (h : AllW U) {A : Array Value} : (Cond.instanceMethod ({ cls := "java/lang/RuntimeException", name := "<init>", desc := "(Ljava/lang/String;)V" } : Jvm.MethodName)).before A U = true := h.use (mw_3 (List.mem_of_getElem? (i := 123) rfl)) rfl
theorem cd_java_lang_RuntimeException__init__Ljava_lang_String__V {U : State} (h : AllW U) {A : Array Value} : (Cond.code ({ cls := "java/lang/RuntimeException", name := "<init>", desc := "(Ljava/lang/String;)V" } : Jvm.MethodName) prog_22_method_2_code 2 none).before A U = true := h.use (mw_3 (List.mem_of_getElem? (i := 124) rfl)) rfl
theorem ml_java_lang_RuntimeException_7 {U : State} (h : AllW U) {A : Array Value} : (Cond.methodLink "java/lang/RuntimeException" 7 ({ cls := "java/lang/Exception", name := "<init>", desc := "(Ljava/lang/String;)V" } : Jvm.MethodName)).before A U = true := h.use (mw_3 (List.mem_of_getElem? (i := 125) rfl)) rfl
theorem im_java_lang_Exception__init__Ljava_lang_String__V {U : State} (h : AllW U) {A : Array Value} : (Cond.instanceMethod ({ cls := "java/lang/Exception", name := "<init>", desc := "(Ljava/lang/String;)V" } : Jvm.MethodName)).before A U = true := h.use (mw_3 (List.mem_of_getElem? (i := 126) rfl)) rfl
theorem cd_java_lang_Exception__init__Ljava_lang_String__V {U : State} (h : AllW U) {A : Array Value} : (Cond.code ({ cls := "java/lang/Exception", name := "<init>", desc := "(Ljava/lang/String;)V" } : Jvm.MethodName) prog_18_method_2_code 2 none).before A U = true := h.use (mw_3 (List.mem_of_getElem? (i := 127) rfl)) rfl
theorem ml_java_lang_Exception_7 {U : State} (h : AllW U) {A : Array Value} : (Cond.methodLink "java/lang/Exception" 7 ({ cls := "java/lang/Throwable", name := "<init>", desc := "(Ljava/lang/String;)V" } : Jvm.MethodName)).before A U = true := h.use (mw_3 (List.mem_of_getElem? (i := 128) rfl)) rfl
theorem im_java_lang_Throwable__init__Ljava_lang_String__V {U : State} (h : AllW U) {A : Array Value} : (Cond.instanceMethod ({ cls := "java/lang/Throwable", name := "<init>", desc := "(Ljava/lang/String;)V" } : Jvm.MethodName)).before A U = true := h.use (mw_3 (List.mem_of_getElem? (i := 129) rfl)) rfl
theorem cd_java_lang_Throwable__init__Ljava_lang_String__V {U : State} (h : AllW U) {A : Array Value} : (Cond.code ({ cls := "java/lang/Throwable", name := "<init>", desc := "(Ljava/lang/String;)V" } : Jvm.MethodName) prog_27_method_2_code 2 none).before A U = true := h.use (mw_3 (List.mem_of_getElem? (i := 130) rfl)) rfl
theorem fl_java_lang_Throwable_31 {U : State} (h : AllW U) {A : Array Value} : (Cond.fieldLink "java/lang/Throwable" 31 "java/lang/Throwable" "detailMessage" "Ljava/lang/String;").before A U = true := h.use (mw_3 (List.mem_of_getElem? (i := 132) rfl)) rfl
theorem fl_java_lang_Throwable_7 {U : State} (h : AllW U) {A : Array Value} : (Cond.fieldLink "java/lang/Throwable" 7 "java/lang/Throwable" "cause" "Ljava/lang/Throwable;").before A U = true := h.use (mw_3 (List.mem_of_getElem? (i := 133) rfl)) rfl
theorem fl_java_lang_Throwable_17 {U : State} (h : AllW U) {A : Array Value} : (Cond.fieldLink "java/lang/Throwable" 17 "java/lang/Throwable" "stackTrace" "[Ljava/lang/StackTraceElement;").before A U = true := h.use (mw_3 (List.mem_of_getElem? (i := 134) rfl)) rfl
theorem fl_java_lang_Throwable_24 {U : State} (h : AllW U) {A : Array Value} : (Cond.fieldLink "java/lang/Throwable" 24 "java/lang/Throwable" "suppressedExceptions" "Ljava/util/List;").before A U = true := h.use (mw_3 (List.mem_of_getElem? (i := 135) rfl)) rfl
theorem cl_X11_88 {U : State} (h : AllW U) {A : Array Value} : (Cond.classLink "ClapValley" 88 "java/lang/IllegalArgumentException").before A U = true := h.use (mw_3 (List.mem_of_getElem? (i := 144) rfl)) rfl
theorem inst_java_lang_IllegalArgumentException {U : State} (h : AllW U) {A : Array Value} : (Cond.instantiable "java/lang/IllegalArgumentException" 6).before A U = true := h.use (mw_3 (List.mem_of_getElem? (i := 145) rfl)) rfl
theorem ml_X11_92 {U : State} (h : AllW U) {A : Array Value} : (Cond.methodLink "ClapValley" 92 ({ cls := "java/lang/IllegalArgumentException", name := "<init>", desc := "(Ljava/lang/String;)V" } : Jvm.MethodName)).before A U = true := h.use (mw_3 (List.mem_of_getElem? (i := 154) rfl)) rfl
theorem im_java_lang_IllegalArgumentException__init__Ljava_lang_String__V {U : State} (h : AllW U) {A : Array Value} : (Cond.instanceMethod ({ cls := "java/lang/IllegalArgumentException", name := "<init>", desc := "(Ljava/lang/String;)V" } : Jvm.MethodName)).before A U = true := h.use (mw_3 (List.mem_of_getElem? (i := 155) rfl)) rfl
theorem cd_java_lang_IllegalArgumentException__init__Ljava_lang_String__V {U : State} (h : AllW U) {A : Array Value} : (Cond.code ({ cls := "java/lang/IllegalArgumentException", name := "<init>", desc := "(Ljava/lang/String;)V" } : Jvm.MethodName) prog_19_method_2_code 2 none).before A U = true := h.use (mw_3 (List.mem_of_getElem? (i := 156) rfl)) rfl
theorem ml_java_lang_IllegalArgumentException_7 {U : State} (h : AllW U) {A : Array Value} : (Cond.methodLink "java/lang/IllegalArgumentException" 7 ({ cls := "java/lang/RuntimeException", name := "<init>", desc := "(Ljava/lang/String;)V" } : Jvm.MethodName)).before A U = true := h.use (mw_3 (List.mem_of_getElem? (i := 157) rfl)) rfl
theorem mn_X11_95 {U : State} (h : AllW U) {A : Array Value} : (Cond.methodLinkNest "ClapValley" 95 yX8_readLand "ClapValley").before A U = true := h.use (mw_3 (List.mem_of_getElem? (i := 160) rfl)) rfl
theorem im_X8_readLand {U : State} (h : AllW U) {A : Array Value} : (Cond.instanceMethod yX8_readLand).before A U = true := h.use (mw_3 (List.mem_of_getElem? (i := 162) rfl)) rfl
theorem cd_X8_readLand {U : State} (h : AllW U) {A : Array Value} : (Cond.code yX8_readLand cX8_readLand 3 (some FieldType.int)).before A U = true := h.use (mw_3 (List.mem_of_getElem? (i := 163) rfl)) rfl
theorem ml_X8_29 {U : State} (h : AllW U) {A : Array Value} : (Cond.methodLink "ClapValley$Tape" 29 yJ9_min_7cf53).before A U = true := h.use (mw_3 (List.mem_of_getElem? (i := 164) rfl)) rfl
theorem st_J9_min_7cf53 {U : State} (h : AllW U) {A : Array Value} : (Cond.static yJ9_min_7cf53).before A U = true := h.use (mw_3 (List.mem_of_getElem? (i := 165) rfl)) rfl
theorem cd_J9_min_7cf53 {U : State} (h : AllW U) {A : Array Value} : (Cond.code yJ9_min_7cf53 cJ9_min_7cf53 2 (some FieldType.int)).before A U = true := h.use (mw_3 (List.mem_of_getElem? (i := 166) rfl)) rfl
theorem mn_X8_38 {U : State} (h : AllW U) {A : Array Value} : (Cond.methodLinkNest "ClapValley$Tape" 38 yX4_empty "ClapValley").before A U = true := h.use (mw_3 (List.mem_of_getElem? (i := 167) rfl)) rfl
theorem ml_X8_54 {U : State} (h : AllW U) {A : Array Value} : (Cond.methodLink "ClapValley$Tape" 54 yX8_takeToken).before A U = true := h.use (mw_3 (List.mem_of_getElem? (i := 168) rfl)) rfl
theorem im_X8_takeToken {U : State} (h : AllW U) {A : Array Value} : (Cond.instanceMethod yX8_takeToken).before A U = true := h.use (mw_3 (List.mem_of_getElem? (i := 170) rfl)) rfl
theorem cd_X8_takeToken {U : State} (h : AllW U) {A : Array Value} : (Cond.code yX8_takeToken cX8_takeToken 2 none).before A U = true := h.use (mw_3 (List.mem_of_getElem? (i := 171) rfl)) rfl
theorem ml_X8_194 {U : State} (h : AllW U) {A : Array Value} : (Cond.methodLink "ClapValley$Tape" 194 yX8_kindOf).before A U = true := h.use (mw_3 (List.mem_of_getElem? (i := 172) rfl)) rfl
theorem st_X8_kindOf {U : State} (h : AllW U) {A : Array Value} : (Cond.static yX8_kindOf).before A U = true := h.use (mw_3 (List.mem_of_getElem? (i := 173) rfl)) rfl
theorem cd_X8_kindOf {U : State} (h : AllW U) {A : Array Value} : (Cond.code yX8_kindOf cX8_kindOf 1 (some FieldType.int)).before A U = true := h.use (mw_3 (List.mem_of_getElem? (i := 174) rfl)) rfl
theorem ml_X8_62 {U : State} (h : AllW U) {A : Array Value} : (Cond.methodLink "ClapValley$Tape" 62 yX8_isWord).before A U = true := h.use (mw_3 (List.mem_of_getElem? (i := 176) rfl)) rfl
theorem im_X8_isWord {U : State} (h : AllW U) {A : Array Value} : (Cond.instanceMethod yX8_isWord).before A U = true := h.use (mw_3 (List.mem_of_getElem? (i := 178) rfl)) rfl
theorem cd_X8_isWord {U : State} (h : AllW U) {A : Array Value} : (Cond.code yX8_isWord cX8_isWord 3 (some FieldType.boolean)).before A U = true := h.use (mw_3 (List.mem_of_getElem? (i := 179) rfl)) rfl
theorem ml_X8_186 {U : State} (h : AllW U) {A : Array Value} : (Cond.methodLink "ClapValley$Tape" 186 yJ0_length_8abf5).before A U = true := h.use (mw_3 (List.mem_of_getElem? (i := 180) rfl)) rfl
theorem im_J0_length_8abf5 {U : State} (h : AllW U) {A : Array Value} : (Cond.instanceMethod yJ0_length_8abf5).before A U = true := h.use (mw_3 (List.mem_of_getElem? (i := 181) rfl)) rfl
theorem sl_J0_length_8abf5 {U : State} (h : AllW U) {A : Array Value} : (Cond.selects "java/lang/String" yJ0_length_8abf5 yJ0_length_8abf5).before A U = true := h.use (mw_3 (List.mem_of_getElem? (i := 182) rfl)) rfl
theorem cd_J0_length_8abf5 {U : State} (h : AllW U) {A : Array Value} : (Cond.code yJ0_length_8abf5 cJ0_length_8abf5 1 (some FieldType.int)).before A U = true := h.use (mw_3 (List.mem_of_getElem? (i := 183) rfl)) rfl
theorem ml_J0_335 {U : State} (h : AllW U) {A : Array Value} : (Cond.methodLink "java/lang/String" 335 yJ0_coder_7d493).before A U = true := h.use (mw_3 (List.mem_of_getElem? (i := 184) rfl)) rfl
theorem im_J0_coder_7d493 {U : State} (h : AllW U) {A : Array Value} : (Cond.instanceMethod yJ0_coder_7d493).before A U = true := h.use (mw_3 (List.mem_of_getElem? (i := 185) rfl)) rfl
theorem sl_J0_coder_7d493 {U : State} (h : AllW U) {A : Array Value} : (Cond.selects "java/lang/String" yJ0_coder_7d493 yJ0_coder_7d493).before A U = true := h.use (mw_3 (List.mem_of_getElem? (i := 186) rfl)) rfl
theorem cd_J0_coder_7d493 {U : State} (h : AllW U) {A : Array Value} : (Cond.code yJ0_coder_7d493 cJ0_coder_7d493 1 (some FieldType.byte)).before A U = true := h.use (mw_3 (List.mem_of_getElem? (i := 187) rfl)) rfl
theorem fl_J0_38 {U : State} (h : AllW U) {A : Array Value} : (Cond.fieldLink "java/lang/String" 38 "java/lang/String" "COMPACT_STRINGS" "Z").before A U = true := h.use (mw_3 (List.mem_of_getElem? (i := 188) rfl)) rfl
theorem ml_X8_190 {U : State} (h : AllW U) {A : Array Value} : (Cond.methodLink "ClapValley$Tape" 190 yJ0_charAt_5068e).before A U = true := h.use (mw_3 (List.mem_of_getElem? (i := 190) rfl)) rfl
theorem im_J0_charAt_5068e {U : State} (h : AllW U) {A : Array Value} : (Cond.instanceMethod yJ0_charAt_5068e).before A U = true := h.use (mw_3 (List.mem_of_getElem? (i := 191) rfl)) rfl
theorem sl_J0_charAt_5068e {U : State} (h : AllW U) {A : Array Value} : (Cond.selects "java/lang/String" yJ0_charAt_5068e yJ0_charAt_5068e).before A U = true := h.use (mw_3 (List.mem_of_getElem? (i := 192) rfl)) rfl
theorem cd_J0_charAt_5068e {U : State} (h : AllW U) {A : Array Value} : (Cond.code yJ0_charAt_5068e cJ0_charAt_5068e 2 (some FieldType.char)).before A U = true := h.use (mw_3 (List.mem_of_getElem? (i := 193) rfl)) rfl
theorem ml_J0_492 {U : State} (h : AllW U) {A : Array Value} : (Cond.methodLink "java/lang/String" 492 yJ0_isLatin1_aae02).before A U = true := h.use (mw_3 (List.mem_of_getElem? (i := 194) rfl)) rfl
theorem im_J0_isLatin1_aae02 {U : State} (h : AllW U) {A : Array Value} : (Cond.instanceMethod yJ0_isLatin1_aae02).before A U = true := h.use (mw_3 (List.mem_of_getElem? (i := 195) rfl)) rfl
theorem sl_J0_isLatin1_aae02 {U : State} (h : AllW U) {A : Array Value} : (Cond.selects "java/lang/String" yJ0_isLatin1_aae02 yJ0_isLatin1_aae02).before A U = true := h.use (mw_3 (List.mem_of_getElem? (i := 196) rfl)) rfl
theorem cd_J0_isLatin1_aae02 {U : State} (h : AllW U) {A : Array Value} : (Cond.code yJ0_isLatin1_aae02 cJ0_isLatin1_aae02 1 (some FieldType.boolean)).before A U = true := h.use (mw_3 (List.mem_of_getElem? (i := 197) rfl)) rfl
theorem ml_J0_495 {U : State} (h : AllW U) {A : Array Value} : (Cond.methodLink "java/lang/String" 495 yJ1_charAt_3b067).before A U = true := h.use (mw_3 (List.mem_of_getElem? (i := 198) rfl)) rfl
theorem st_J1_charAt_3b067 {U : State} (h : AllW U) {A : Array Value} : (Cond.static yJ1_charAt_3b067).before A U = true := h.use (mw_3 (List.mem_of_getElem? (i := 199) rfl)) rfl
theorem cd_J1_charAt_3b067 {U : State} (h : AllW U) {A : Array Value} : (Cond.code yJ1_charAt_3b067 cJ1_charAt_3b067 2 (some FieldType.char)).before A U = true := h.use (mw_3 (List.mem_of_getElem? (i := 200) rfl)) rfl
theorem ml_J1_9 {U : State} (h : AllW U) {A : Array Value} : (Cond.methodLink "java/lang/StringLatin1" 9 yJ0_checkIndex_df160).before A U = true := h.use (mw_3 (List.mem_of_getElem? (i := 201) rfl)) rfl
theorem st_J0_checkIndex_df160 {U : State} (h : AllW U) {A : Array Value} : (Cond.static yJ0_checkIndex_df160).before A U = true := h.use (mw_3 (List.mem_of_getElem? (i := 202) rfl)) rfl
theorem cd_J0_checkIndex_df160 {U : State} (h : AllW U) {A : Array Value} : (Cond.code yJ0_checkIndex_df160 cJ0_checkIndex_df160 2 none).before A U = true := h.use (mw_3 (List.mem_of_getElem? (i := 203) rfl)) rfl
theorem fl_J0_1053 {U : State} (h : AllW U) {A : Array Value} : (Cond.fieldLink "java/lang/String" 1053 "jdk/internal/util/Preconditions" "SIOOBE_FORMATTER" "Ljava/util/function/BiFunction;").before A U = true := h.use (mw_3 (List.mem_of_getElem? (i := 204) rfl)) rfl
theorem ml_J0_1059 {U : State} (h : AllW U) {A : Array Value} : (Cond.methodLink "java/lang/String" 1059 yJ3_checkIndex_8e157).before A U = true := h.use (mw_3 (List.mem_of_getElem? (i := 206) rfl)) rfl
theorem st_J3_checkIndex_8e157 {U : State} (h : AllW U) {A : Array Value} : (Cond.static yJ3_checkIndex_8e157).before A U = true := h.use (mw_3 (List.mem_of_getElem? (i := 207) rfl)) rfl
theorem cd_J3_checkIndex_8e157 {U : State} (h : AllW U) {A : Array Value} : (Cond.code yJ3_checkIndex_8e157 cJ3_checkIndex_8e157 3 (some FieldType.int)).before A U = true := h.use (mw_3 (List.mem_of_getElem? (i := 208) rfl)) rfl
theorem ml_J0_498 {U : State} (h : AllW U) {A : Array Value} : (Cond.methodLink "java/lang/String" 498 yJ2_charAt_3b067).before A U = true := h.use (mw_3 (List.mem_of_getElem? (i := 209) rfl)) rfl
theorem st_J2_charAt_3b067 {U : State} (h : AllW U) {A : Array Value} : (Cond.static yJ2_charAt_3b067).before A U = true := h.use (mw_3 (List.mem_of_getElem? (i := 210) rfl)) rfl
theorem cd_J2_charAt_3b067 {U : State} (h : AllW U) {A : Array Value} : (Cond.code yJ2_charAt_3b067 cJ2_charAt_3b067 2 (some FieldType.char)).before A U = true := h.use (mw_3 (List.mem_of_getElem? (i := 211) rfl)) rfl
theorem ml_J2_67 {U : State} (h : AllW U) {A : Array Value} : (Cond.methodLink "java/lang/StringUTF16" 67 yJ2_checkIndex_2214a).before A U = true := h.use (mw_3 (List.mem_of_getElem? (i := 212) rfl)) rfl
theorem st_J2_checkIndex_2214a {U : State} (h : AllW U) {A : Array Value} : (Cond.static yJ2_checkIndex_2214a).before A U = true := h.use (mw_3 (List.mem_of_getElem? (i := 213) rfl)) rfl
theorem cd_J2_checkIndex_2214a {U : State} (h : AllW U) {A : Array Value} : (Cond.code yJ2_checkIndex_2214a cJ2_checkIndex_2214a 2 none).before A U = true := h.use (mw_3 (List.mem_of_getElem? (i := 214) rfl)) rfl
theorem ml_J2_48 {U : State} (h : AllW U) {A : Array Value} : (Cond.methodLink "java/lang/StringUTF16" 48 yJ2_length_9d52b).before A U = true := h.use (mw_3 (List.mem_of_getElem? (i := 215) rfl)) rfl
theorem st_J2_length_9d52b {U : State} (h : AllW U) {A : Array Value} : (Cond.static yJ2_length_9d52b).before A U = true := h.use (mw_3 (List.mem_of_getElem? (i := 216) rfl)) rfl
theorem cd_J2_length_9d52b {U : State} (h : AllW U) {A : Array Value} : (Cond.code yJ2_length_9d52b cJ2_length_9d52b 1 (some FieldType.int)).before A U = true := h.use (mw_3 (List.mem_of_getElem? (i := 217) rfl)) rfl
theorem ml_J2_414 {U : State} (h : AllW U) {A : Array Value} : (Cond.methodLink "java/lang/StringUTF16" 414 yJ0_checkIndex_df160).before A U = true := h.use (mw_3 (List.mem_of_getElem? (i := 218) rfl)) rfl
theorem ml_J2_71 {U : State} (h : AllW U) {A : Array Value} : (Cond.methodLink "java/lang/StringUTF16" 71 yJ2_getChar_3b067).before A U = true := h.use (mw_3 (List.mem_of_getElem? (i := 219) rfl)) rfl
theorem st_J2_getChar_3b067 {U : State} (h : AllW U) {A : Array Value} : (Cond.static yJ2_getChar_3b067).before A U = true := h.use (mw_3 (List.mem_of_getElem? (i := 220) rfl)) rfl
theorem cd_J2_getChar_3b067 {U : State} (h : AllW U) {A : Array Value} : (Cond.code yJ2_getChar_3b067 cJ2_getChar_3b067 2 (some FieldType.char)).before A U = true := h.use (mw_3 (List.mem_of_getElem? (i := 221) rfl)) rfl
theorem fl_J2_44 {U : State} (h : AllW U) {A : Array Value} : (Cond.fieldLink "java/lang/StringUTF16" 44 "java/lang/StringUTF16" "$assertionsDisabled" "Z").before A U = true := h.use (mw_3 (List.mem_of_getElem? (i := 222) rfl)) rfl
theorem fl_J2_59 {U : State} (h : AllW U) {A : Array Value} : (Cond.fieldLink "java/lang/StringUTF16" 59 "java/lang/StringUTF16" "HI_BYTE_SHIFT" "I").before A U = true := h.use (mw_3 (List.mem_of_getElem? (i := 224) rfl)) rfl
theorem fl_J2_63 {U : State} (h : AllW U) {A : Array Value} : (Cond.fieldLink "java/lang/StringUTF16" 63 "java/lang/StringUTF16" "LO_BYTE_SHIFT" "I").before A U = true := h.use (mw_3 (List.mem_of_getElem? (i := 226) rfl)) rfl
theorem ml_X8_66 {U : State} (h : AllW U) {A : Array Value} : (Cond.methodLink "ClapValley$Tape" 66 yX8_readWall).before A U = true := h.use (mw_3 (List.mem_of_getElem? (i := 228) rfl)) rfl
theorem im_X8_readWall {U : State} (h : AllW U) {A : Array Value} : (Cond.instanceMethod yX8_readWall).before A U = true := h.use (mw_3 (List.mem_of_getElem? (i := 230) rfl)) rfl
theorem cd_X8_readWall {U : State} (h : AllW U) {A : Array Value} : (Cond.code yX8_readWall cX8_readWall 3 none).before A U = true := h.use (mw_3 (List.mem_of_getElem? (i := 231) rfl)) rfl
theorem ml_X8_92 {U : State} (h : AllW U) {A : Array Value} : (Cond.methodLink "ClapValley$Tape" 92 yX8_refuse).before A U = true := h.use (mw_3 (List.mem_of_getElem? (i := 232) rfl)) rfl
theorem im_X8_refuse {U : State} (h : AllW U) {A : Array Value} : (Cond.instanceMethod yX8_refuse).before A U = true := h.use (mw_3 (List.mem_of_getElem? (i := 234) rfl)) rfl
theorem cd_X8_refuse {U : State} (h : AllW U) {A : Array Value} : (Cond.code yX8_refuse cX8_refuse 2 none).before A U = true := h.use (mw_3 (List.mem_of_getElem? (i := 235) rfl)) rfl
theorem ml_X8_107 {U : State} (h : AllW U) {A : Array Value} : (Cond.methodLink "ClapValley$Tape" 107 yX8_readNumber).before A U = true := h.use (mw_3 (List.mem_of_getElem? (i := 236) rfl)) rfl
theorem im_X8_readNumber {U : State} (h : AllW U) {A : Array Value} : (Cond.instanceMethod yX8_readNumber).before A U = true := h.use (mw_3 (List.mem_of_getElem? (i := 238) rfl)) rfl
theorem cd_X8_readNumber {U : State} (h : AllW U) {A : Array Value} : (Cond.code yX8_readNumber cX8_readNumber 5 (some FieldType.int)).before A U = true := h.use (mw_3 (List.mem_of_getElem? (i := 239) rfl)) rfl
theorem ml_X8_120 {U : State} (h : AllW U) {A : Array Value} : (Cond.methodLink "ClapValley$Tape" 120 yX8_readLoss).before A U = true := h.use (mw_4 (List.mem_of_getElem? (i := 0) rfl)) rfl
theorem im_X8_readLoss {U : State} (h : AllW U) {A : Array Value} : (Cond.instanceMethod yX8_readLoss).before A U = true := h.use (mw_4 (List.mem_of_getElem? (i := 2) rfl)) rfl
theorem cd_X8_readLoss {U : State} (h : AllW U) {A : Array Value} : (Cond.code yX8_readLoss cX8_readLoss 1 (some FieldType.int)).before A U = true := h.use (mw_4 (List.mem_of_getElem? (i := 3) rfl)) rfl
theorem ml_X8_127 {U : State} (h : AllW U) {A : Array Value} : (Cond.methodLink "ClapValley$Tape" 127 yX8_readSign).before A U = true := h.use (mw_4 (List.mem_of_getElem? (i := 5) rfl)) rfl
theorem im_X8_readSign {U : State} (h : AllW U) {A : Array Value} : (Cond.instanceMethod yX8_readSign).before A U = true := h.use (mw_4 (List.mem_of_getElem? (i := 7) rfl)) rfl
theorem cd_X8_readSign {U : State} (h : AllW U) {A : Array Value} : (Cond.code yX8_readSign cX8_readSign 1 none).before A U = true := h.use (mw_4 (List.mem_of_getElem? (i := 8) rfl)) rfl
theorem ml_X8_74 {U : State} (h : AllW U) {A : Array Value} : (Cond.methodLink "ClapValley$Tape" 74 yX8_readBarn).before A U = true := h.use (mw_4 (List.mem_of_getElem? (i := 11) rfl)) rfl
theorem im_X8_readBarn {U : State} (h : AllW U) {A : Array Value} : (Cond.instanceMethod yX8_readBarn).before A U = true := h.use (mw_4 (List.mem_of_getElem? (i := 13) rfl)) rfl
theorem cd_X8_readBarn {U : State} (h : AllW U) {A : Array Value} : (Cond.code yX8_readBarn cX8_readBarn 2 none).before A U = true := h.use (mw_4 (List.mem_of_getElem? (i := 14) rfl)) rfl
theorem ml_X8_79 {U : State} (h : AllW U) {A : Array Value} : (Cond.methodLink "ClapValley$Tape" 79 yX8_readWood).before A U = true := h.use (mw_4 (List.mem_of_getElem? (i := 17) rfl)) rfl
theorem im_X8_readWood {U : State} (h : AllW U) {A : Array Value} : (Cond.instanceMethod yX8_readWood).before A U = true := h.use (mw_4 (List.mem_of_getElem? (i := 19) rfl)) rfl
theorem cd_X8_readWood {U : State} (h : AllW U) {A : Array Value} : (Cond.code yX8_readWood cX8_readWood 3 none).before A U = true := h.use (mw_4 (List.mem_of_getElem? (i := 20) rfl)) rfl
theorem ml_X8_84 {U : State} (h : AllW U) {A : Array Value} : (Cond.methodLink "ClapValley$Tape" 84 yX8_readHears).before A U = true := h.use (mw_4 (List.mem_of_getElem? (i := 22) rfl)) rfl
theorem im_X8_readHears {U : State} (h : AllW U) {A : Array Value} : (Cond.instanceMethod yX8_readHears).before A U = true := h.use (mw_4 (List.mem_of_getElem? (i := 24) rfl)) rfl
theorem cd_X8_readHears {U : State} (h : AllW U) {A : Array Value} : (Cond.code yX8_readHears cX8_readHears 1 none).before A U = true := h.use (mw_4 (List.mem_of_getElem? (i := 25) rfl)) rfl
theorem ml_X8_89 {U : State} (h : AllW U) {A : Array Value} : (Cond.methodLink "ClapValley$Tape" 89 yX8_readAir).before A U = true := h.use (mw_4 (List.mem_of_getElem? (i := 27) rfl)) rfl
theorem im_X8_readAir {U : State} (h : AllW U) {A : Array Value} : (Cond.instanceMethod yX8_readAir).before A U = true := h.use (mw_4 (List.mem_of_getElem? (i := 29) rfl)) rfl
theorem cd_X8_readAir {U : State} (h : AllW U) {A : Array Value} : (Cond.code yX8_readAir cX8_readAir 1 none).before A U = true := h.use (mw_4 (List.mem_of_getElem? (i := 30) rfl)) rfl
theorem mn_X11_102 {U : State} (h : AllW U) {A : Array Value} : (Cond.methodLinkNest "ClapValley" 102 yX8_exchange "ClapValley").before A U = true := h.use (mw_4 (List.mem_of_getElem? (i := 31) rfl)) rfl
theorem im_X8_exchange {U : State} (h : AllW U) {A : Array Value} : (Cond.instanceMethod yX8_exchange).before A U = true := h.use (mw_4 (List.mem_of_getElem? (i := 33) rfl)) rfl
theorem cd_X8_exchange {U : State} (h : AllW U) {A : Array Value} : (Cond.code yX8_exchange cX8_exchange 3 (some (FieldType.object "ClapValley$Land"))).before A U = true := h.use (mw_4 (List.mem_of_getElem? (i := 34) rfl)) rfl
theorem ml_L_90 {U : State} (h : AllW U) {A : Array Value} : (Cond.methodLink "ClapValleyLaw" 90 yL_count).before A U = true := h.use (mw_4 (List.mem_of_getElem? (i := 35) rfl)) rfl
theorem st_L_count {U : State} (h : AllW U) {A : Array Value} : (Cond.static yL_count).before A U = true := h.use (mw_4 (List.mem_of_getElem? (i := 36) rfl)) rfl
theorem cw_L_count {U : State} (h : AllW U) {A : Array Value} : (Cond.codeWith yL_count method_4_code 4 (some FieldType.int) [(0, 9, 12, 13)]).before A U = true := h.use (mw_4 (List.mem_of_getElem? (i := 37) rfl)) rfl
theorem ml_L_17 {U : State} (h : AllW U) {A : Array Value} : (Cond.methodLink "ClapValleyLaw" 17 yX11_count).before A U = true := h.use (mw_4 (List.mem_of_getElem? (i := 38) rfl)) rfl
theorem im_X11_count {U : State} (h : AllW U) {A : Array Value} : (Cond.instanceMethod yX11_count).before A U = true := h.use (mw_4 (List.mem_of_getElem? (i := 39) rfl)) rfl
theorem sl_X11_count {U : State} (h : AllW U) {A : Array Value} : (Cond.selects "ClapValley" yX11_count yX11_count).before A U = true := h.use (mw_4 (List.mem_of_getElem? (i := 40) rfl)) rfl
theorem cd_X11_count {U : State} (h : AllW U) {A : Array Value} : (Cond.code yX11_count cX11_count 2 (some FieldType.int)).before A U = true := h.use (mw_4 (List.mem_of_getElem? (i := 41) rfl)) rfl
theorem ml_L_94 {U : State} (h : AllW U) {A : Array Value} : (Cond.methodLink "ClapValleyLaw" 94 yL_about).before A U = true := h.use (mw_4 (List.mem_of_getElem? (i := 43) rfl)) rfl
theorem st_L_about {U : State} (h : AllW U) {A : Array Value} : (Cond.static yL_about).before A U = true := h.use (mw_4 (List.mem_of_getElem? (i := 44) rfl)) rfl
theorem cw_L_about {U : State} (h : AllW U) {A : Array Value} : (Cond.codeWith yL_about method_5_code 5 (some FieldType.int) [(0, 10, 13, 13)]).before A U = true := h.use (mw_4 (List.mem_of_getElem? (i := 45) rfl)) rfl
theorem ml_L_21 {U : State} (h : AllW U) {A : Array Value} : (Cond.methodLink "ClapValleyLaw" 21 yX11_about).before A U = true := h.use (mw_4 (List.mem_of_getElem? (i := 46) rfl)) rfl
theorem im_X11_about {U : State} (h : AllW U) {A : Array Value} : (Cond.instanceMethod yX11_about).before A U = true := h.use (mw_4 (List.mem_of_getElem? (i := 47) rfl)) rfl
theorem sl_X11_about {U : State} (h : AllW U) {A : Array Value} : (Cond.selects "ClapValley" yX11_about yX11_about).before A U = true := h.use (mw_4 (List.mem_of_getElem? (i := 48) rfl)) rfl
theorem cd_X11_about {U : State} (h : AllW U) {A : Array Value} : (Cond.code yX11_about cX11_about 4 (some FieldType.int)).before A U = true := h.use (mw_4 (List.mem_of_getElem? (i := 49) rfl)) rfl
theorem ml_L_97 {U : State} (h : AllW U) {A : Array Value} : (Cond.methodLink "ClapValleyLaw" 97 yL_clap).before A U = true := h.use (mw_4 (List.mem_of_getElem? (i := 51) rfl)) rfl
theorem st_L_clap {U : State} (h : AllW U) {A : Array Value} : (Cond.static yL_clap).before A U = true := h.use (mw_4 (List.mem_of_getElem? (i := 52) rfl)) rfl
theorem cw_L_clap {U : State} (h : AllW U) {A : Array Value} : (Cond.codeWith yL_clap method_6_code 9 (some FieldType.int) [(0, 18, 21, 13)]).before A U = true := h.use (mw_4 (List.mem_of_getElem? (i := 53) rfl)) rfl
theorem ml_L_24 {U : State} (h : AllW U) {A : Array Value} : (Cond.methodLink "ClapValleyLaw" 24 yX11_clap).before A U = true := h.use (mw_4 (List.mem_of_getElem? (i := 54) rfl)) rfl
theorem im_X11_clap {U : State} (h : AllW U) {A : Array Value} : (Cond.instanceMethod yX11_clap).before A U = true := h.use (mw_4 (List.mem_of_getElem? (i := 55) rfl)) rfl
theorem sl_X11_clap {U : State} (h : AllW U) {A : Array Value} : (Cond.selects "ClapValley" yX11_clap yX11_clap).before A U = true := h.use (mw_4 (List.mem_of_getElem? (i := 56) rfl)) rfl
theorem cd_X11_clap {U : State} (h : AllW U) {A : Array Value} : (Cond.code yX11_clap cX11_clap 9 (some FieldType.int)).before A U = true := h.use (mw_4 (List.mem_of_getElem? (i := 57) rfl)) rfl
theorem ml_X11_137 {U : State} (h : AllW U) {A : Array Value} : (Cond.methodLink "ClapValley" 137 yX11_needClap).before A U = true := h.use (mw_4 (List.mem_of_getElem? (i := 58) rfl)) rfl
theorem im_X11_needClap {U : State} (h : AllW U) {A : Array Value} : (Cond.instanceMethod yX11_needClap).before A U = true := h.use (mw_4 (List.mem_of_getElem? (i := 60) rfl)) rfl
theorem cd_X11_needClap {U : State} (h : AllW U) {A : Array Value} : (Cond.code yX11_needClap cX11_needClap 7 (some (FieldType.object "ClapValley$Land"))).before A U = true := h.use (mw_4 (List.mem_of_getElem? (i := 61) rfl)) rfl
theorem ml_X11_318 {U : State} (h : AllW U) {A : Array Value} : (Cond.methodLink "ClapValley" 318 yX11_needPlace).before A U = true := h.use (mw_4 (List.mem_of_getElem? (i := 62) rfl)) rfl
theorem st_X11_needPlace {U : State} (h : AllW U) {A : Array Value} : (Cond.static yX11_needPlace).before A U = true := h.use (mw_4 (List.mem_of_getElem? (i := 63) rfl)) rfl
theorem cd_X11_needPlace {U : State} (h : AllW U) {A : Array Value} : (Cond.code yX11_needPlace cX11_needPlace 2 none).before A U = true := h.use (mw_4 (List.mem_of_getElem? (i := 64) rfl)) rfl
theorem ml_X11_253 {U : State} (h : AllW U) {A : Array Value} : (Cond.methodLink "ClapValley" 253 yX11_needYear).before A U = true := h.use (mw_4 (List.mem_of_getElem? (i := 66) rfl)) rfl
theorem st_X11_needYear {U : State} (h : AllW U) {A : Array Value} : (Cond.static yX11_needYear).before A U = true := h.use (mw_4 (List.mem_of_getElem? (i := 67) rfl)) rfl
theorem cd_X11_needYear {U : State} (h : AllW U) {A : Array Value} : (Cond.code yX11_needYear cX11_needYear 1 none).before A U = true := h.use (mw_4 (List.mem_of_getElem? (i := 68) rfl)) rfl
theorem ml_X11_294 {U : State} (h : AllW U) {A : Array Value} : (Cond.methodLink "ClapValley" 294 yX11_needTone).before A U = true := h.use (mw_4 (List.mem_of_getElem? (i := 70) rfl)) rfl
theorem st_X11_needTone {U : State} (h : AllW U) {A : Array Value} : (Cond.static yX11_needTone).before A U = true := h.use (mw_4 (List.mem_of_getElem? (i := 71) rfl)) rfl
theorem cd_X11_needTone {U : State} (h : AllW U) {A : Array Value} : (Cond.code yX11_needTone cX11_needTone 1 none).before A U = true := h.use (mw_4 (List.mem_of_getElem? (i := 72) rfl)) rfl
theorem mn_X11_141 {U : State} (h : AllW U) {A : Array Value} : (Cond.methodLinkNest "ClapValley" 141 yX6_look "ClapValley").before A U = true := h.use (mw_4 (List.mem_of_getElem? (i := 74) rfl)) rfl
theorem im_X6_look {U : State} (h : AllW U) {A : Array Value} : (Cond.instanceMethod yX6_look).before A U = true := h.use (mw_4 (List.mem_of_getElem? (i := 76) rfl)) rfl
theorem cd_X6_look {U : State} (h : AllW U) {A : Array Value} : (Cond.code yX6_look cX6_look 9 none).before A U = true := h.use (mw_4 (List.mem_of_getElem? (i := 77) rfl)) rfl
theorem ml_X6_49 {U : State} (h : AllW U) {A : Array Value} : (Cond.methodLink "ClapValley$Scene" 49 yX6_lookAtWall).before A U = true := h.use (mw_4 (List.mem_of_getElem? (i := 78) rfl)) rfl
theorem im_X6_lookAtWall {U : State} (h : AllW U) {A : Array Value} : (Cond.instanceMethod yX6_lookAtWall).before A U = true := h.use (mw_4 (List.mem_of_getElem? (i := 80) rfl)) rfl
theorem cd_X6_lookAtWall {U : State} (h : AllW U) {A : Array Value} : (Cond.code yX6_lookAtWall cX6_lookAtWall 4 none).before A U = true := h.use (mw_4 (List.mem_of_getElem? (i := 81) rfl)) rfl
theorem mn_X6_86 {U : State} (h : AllW U) {A : Array Value} : (Cond.methodLinkNest "ClapValley$Scene" 86 yX9_holds "ClapValley").before A U = true := h.use (mw_4 (List.mem_of_getElem? (i := 82) rfl)) rfl
theorem im_X9_holds {U : State} (h : AllW U) {A : Array Value} : (Cond.instanceMethod yX9_holds).before A U = true := h.use (mw_4 (List.mem_of_getElem? (i := 84) rfl)) rfl
theorem cd_X9_holds {U : State} (h : AllW U) {A : Array Value} : (Cond.code yX9_holds cX9_holds 2 (some FieldType.boolean)).before A U = true := h.use (mw_4 (List.mem_of_getElem? (i := 85) rfl)) rfl
theorem ml_X6_90 {U : State} (h : AllW U) {A : Array Value} : (Cond.methodLink "ClapValley$Scene" 90 yJ9_abs_0f7a4).before A U = true := h.use (mw_4 (List.mem_of_getElem? (i := 86) rfl)) rfl
theorem st_J9_abs_0f7a4 {U : State} (h : AllW U) {A : Array Value} : (Cond.static yJ9_abs_0f7a4).before A U = true := h.use (mw_4 (List.mem_of_getElem? (i := 87) rfl)) rfl
theorem cd_J9_abs_0f7a4 {U : State} (h : AllW U) {A : Array Value} : (Cond.code yJ9_abs_0f7a4 cJ9_abs_0f7a4 1 (some FieldType.int)).before A U = true := h.use (mw_4 (List.mem_of_getElem? (i := 88) rfl)) rfl
theorem mn_X6_70 {U : State} (h : AllW U) {A : Array Value} : (Cond.methodLinkNest "ClapValley$Scene" 70 yX11_distanceSquare "ClapValley").before A U = true := h.use (mw_4 (List.mem_of_getElem? (i := 89) rfl)) rfl
theorem st_X11_distanceSquare {U : State} (h : AllW U) {A : Array Value} : (Cond.static yX11_distanceSquare).before A U = true := h.use (mw_4 (List.mem_of_getElem? (i := 90) rfl)) rfl
theorem cd_X11_distanceSquare {U : State} (h : AllW U) {A : Array Value} : (Cond.code yX11_distanceSquare cX11_distanceSquare 4 (some FieldType.int)).before A U = true := h.use (mw_4 (List.mem_of_getElem? (i := 91) rfl)) rfl
theorem mn_X6_74 {U : State} (h : AllW U) {A : Array Value} : (Cond.methodLinkNest "ClapValley$Scene" 74 yX4_hidersBetween "ClapValley").before A U = true := h.use (mw_4 (List.mem_of_getElem? (i := 92) rfl)) rfl
theorem im_X4_hidersBetween {U : State} (h : AllW U) {A : Array Value} : (Cond.instanceMethod yX4_hidersBetween).before A U = true := h.use (mw_4 (List.mem_of_getElem? (i := 94) rfl)) rfl
theorem cd_X4_hidersBetween {U : State} (h : AllW U) {A : Array Value} : (Cond.code yX4_hidersBetween cX4_hidersBetween 7 (some FieldType.int)).before A U = true := h.use (mw_4 (List.mem_of_getElem? (i := 95) rfl)) rfl
theorem mn_X4_51 {U : State} (h : AllW U) {A : Array Value} : (Cond.methodLinkNest "ClapValley$Land" 51 yX9_standsBetween "ClapValley").before A U = true := h.use (mw_4 (List.mem_of_getElem? (i := 96) rfl)) rfl
theorem im_X9_standsBetween {U : State} (h : AllW U) {A : Array Value} : (Cond.instanceMethod yX9_standsBetween).before A U = true := h.use (mw_4 (List.mem_of_getElem? (i := 98) rfl)) rfl
theorem cd_X9_standsBetween {U : State} (h : AllW U) {A : Array Value} : (Cond.code yX9_standsBetween cX9_standsBetween 12 (some FieldType.boolean)).before A U = true := h.use (mw_4 (List.mem_of_getElem? (i := 99) rfl)) rfl
theorem ml_X9_23 {U : State} (h : AllW U) {A : Array Value} : (Cond.methodLink "ClapValley$Wall" 23 yJ9_min_7cf53).before A U = true := h.use (mw_4 (List.mem_of_getElem? (i := 100) rfl)) rfl
theorem ml_X9_29 {U : State} (h : AllW U) {A : Array Value} : (Cond.methodLink "ClapValley$Wall" 29 yJ9_max_7cf53).before A U = true := h.use (mw_4 (List.mem_of_getElem? (i := 101) rfl)) rfl
theorem st_J9_max_7cf53 {U : State} (h : AllW U) {A : Array Value} : (Cond.static yJ9_max_7cf53).before A U = true := h.use (mw_4 (List.mem_of_getElem? (i := 102) rfl)) rfl
theorem cd_J9_max_7cf53 {U : State} (h : AllW U) {A : Array Value} : (Cond.code yJ9_max_7cf53 cJ9_max_7cf53 2 (some FieldType.int)).before A U = true := h.use (mw_4 (List.mem_of_getElem? (i := 103) rfl)) rfl
theorem ml_X9_32 {U : State} (h : AllW U) {A : Array Value} : (Cond.methodLink "ClapValley$Wall" 32 yJ9_abs_0f7a4).before A U = true := h.use (mw_4 (List.mem_of_getElem? (i := 104) rfl)) rfl
theorem mn_X11_145 {U : State} (h : AllW U) {A : Array Value} : (Cond.methodLinkNest "ClapValley" 145 yX3_gather "ClapValley").before A U = true := h.use (mw_4 (List.mem_of_getElem? (i := 105) rfl)) rfl
theorem im_X3_gather {U : State} (h : AllW U) {A : Array Value} : (Cond.instanceMethod yX3_gather).before A U = true := h.use (mw_4 (List.mem_of_getElem? (i := 107) rfl)) rfl
theorem cd_X3_gather {U : State} (h : AllW U) {A : Array Value} : (Cond.code yX3_gather cX3_gather 8 none).before A U = true := h.use (mw_4 (List.mem_of_getElem? (i := 108) rfl)) rfl
theorem ml_X3_38 {U : State} (h : AllW U) {A : Array Value} : (Cond.methodLink "ClapValley$Echoes" 38 yX3_findNearest).before A U = true := h.use (mw_4 (List.mem_of_getElem? (i := 109) rfl)) rfl
theorem im_X3_findNearest {U : State} (h : AllW U) {A : Array Value} : (Cond.instanceMethod yX3_findNearest).before A U = true := h.use (mw_4 (List.mem_of_getElem? (i := 111) rfl)) rfl
theorem cd_X3_findNearest {U : State} (h : AllW U) {A : Array Value} : (Cond.code yX3_findNearest cX3_findNearest 7 none).before A U = true := h.use (mw_4 (List.mem_of_getElem? (i := 112) rfl)) rfl
theorem ml_X3_45 {U : State} (h : AllW U) {A : Array Value} : (Cond.methodLink "ClapValley$Echoes" 45 yX3_square).before A U = true := h.use (mw_4 (List.mem_of_getElem? (i := 113) rfl)) rfl
theorem st_X3_square {U : State} (h : AllW U) {A : Array Value} : (Cond.static yX3_square).before A U = true := h.use (mw_4 (List.mem_of_getElem? (i := 114) rfl)) rfl
theorem cd_X3_square {U : State} (h : AllW U) {A : Array Value} : (Cond.code yX3_square cX3_square 1 (some FieldType.int)).before A U = true := h.use (mw_4 (List.mem_of_getElem? (i := 115) rfl)) rfl
theorem mn_X3_49 {U : State} (h : AllW U) {A : Array Value} : (Cond.methodLinkNest "ClapValley$Echoes" 49 yX6_wallStrength "ClapValley").before A U = true := h.use (mw_4 (List.mem_of_getElem? (i := 116) rfl)) rfl
theorem im_X6_wallStrength {U : State} (h : AllW U) {A : Array Value} : (Cond.instanceMethod yX6_wallStrength).before A U = true := h.use (mw_4 (List.mem_of_getElem? (i := 118) rfl)) rfl
theorem cd_X6_wallStrength {U : State} (h : AllW U) {A : Array Value} : (Cond.code yX6_wallStrength cX6_wallStrength 4 (some FieldType.int)).before A U = true := h.use (mw_4 (List.mem_of_getElem? (i := 119) rfl)) rfl
theorem mn_X6_99 {U : State} (h : AllW U) {A : Array Value} : (Cond.methodLinkNest "ClapValley$Scene" 99 yX9_footX "ClapValley").before A U = true := h.use (mw_4 (List.mem_of_getElem? (i := 120) rfl)) rfl
theorem im_X9_footX {U : State} (h : AllW U) {A : Array Value} : (Cond.instanceMethod yX9_footX).before A U = true := h.use (mw_4 (List.mem_of_getElem? (i := 122) rfl)) rfl
theorem cd_X9_footX {U : State} (h : AllW U) {A : Array Value} : (Cond.code yX9_footX cX9_footX 2 (some FieldType.int)).before A U = true := h.use (mw_4 (List.mem_of_getElem? (i := 123) rfl)) rfl
theorem mn_X6_102 {U : State} (h : AllW U) {A : Array Value} : (Cond.methodLinkNest "ClapValley$Scene" 102 yX9_footY "ClapValley").before A U = true := h.use (mw_4 (List.mem_of_getElem? (i := 124) rfl)) rfl
theorem im_X9_footY {U : State} (h : AllW U) {A : Array Value} : (Cond.instanceMethod yX9_footY).before A U = true := h.use (mw_4 (List.mem_of_getElem? (i := 126) rfl)) rfl
theorem cd_X9_footY {U : State} (h : AllW U) {A : Array Value} : (Cond.code yX9_footY cX9_footY 2 (some FieldType.int)).before A U = true := h.use (mw_4 (List.mem_of_getElem? (i := 127) rfl)) rfl
theorem mn_X6_105 {U : State} (h : AllW U) {A : Array Value} : (Cond.methodLinkNest "ClapValley$Scene" 105 yX4_strengthAlong "ClapValley").before A U = true := h.use (mw_4 (List.mem_of_getElem? (i := 128) rfl)) rfl
theorem im_X4_strengthAlong {U : State} (h : AllW U) {A : Array Value} : (Cond.instanceMethod yX4_strengthAlong).before A U = true := h.use (mw_4 (List.mem_of_getElem? (i := 130) rfl)) rfl
theorem cd_X4_strengthAlong {U : State} (h : AllW U) {A : Array Value} : (Cond.code yX4_strengthAlong cX4_strengthAlong 11 (some FieldType.int)).before A U = true := h.use (mw_4 (List.mem_of_getElem? (i := 131) rfl)) rfl
theorem mn_X4_55 {U : State} (h : AllW U) {A : Array Value} : (Cond.methodLinkNest "ClapValley$Land" 55 yX10_meets "ClapValley").before A U = true := h.use (mw_4 (List.mem_of_getElem? (i := 132) rfl)) rfl
theorem im_X10_meets {U : State} (h : AllW U) {A : Array Value} : (Cond.instanceMethod yX10_meets).before A U = true := h.use (mw_4 (List.mem_of_getElem? (i := 134) rfl)) rfl
theorem cd_X10_meets {U : State} (h : AllW U) {A : Array Value} : (Cond.code yX10_meets cX10_meets 11 (some FieldType.boolean)).before A U = true := h.use (mw_4 (List.mem_of_getElem? (i := 135) rfl)) rfl
theorem ml_X10_15 {U : State} (h : AllW U) {A : Array Value} : (Cond.methodLink "ClapValley$Wood" 15 yJ9_max_7cf53).before A U = true := h.use (mw_4 (List.mem_of_getElem? (i := 136) rfl)) rfl
theorem ml_X10_25 {U : State} (h : AllW U) {A : Array Value} : (Cond.methodLink "ClapValley$Wood" 25 yJ9_min_7cf53).before A U = true := h.use (mw_4 (List.mem_of_getElem? (i := 137) rfl)) rfl
theorem ml_X3_53 {U : State} (h : AllW U) {A : Array Value} : (Cond.methodLink "ClapValley$Echoes" 53 yX3_add).before A U = true := h.use (mw_4 (List.mem_of_getElem? (i := 138) rfl)) rfl
theorem im_X3_add {U : State} (h : AllW U) {A : Array Value} : (Cond.instanceMethod yX3_add).before A U = true := h.use (mw_4 (List.mem_of_getElem? (i := 140) rfl)) rfl
theorem cd_X3_add {U : State} (h : AllW U) {A : Array Value} : (Cond.code yX3_add cX3_add 4 none).before A U = true := h.use (mw_4 (List.mem_of_getElem? (i := 141) rfl)) rfl
theorem ml_X3_57 {U : State} (h : AllW U) {A : Array Value} : (Cond.methodLink "ClapValley$Echoes" 57 yX3_addSecond).before A U = true := h.use (mw_4 (List.mem_of_getElem? (i := 142) rfl)) rfl
theorem im_X3_addSecond {U : State} (h : AllW U) {A : Array Value} : (Cond.instanceMethod yX3_addSecond).before A U = true := h.use (mw_4 (List.mem_of_getElem? (i := 144) rfl)) rfl
theorem cd_X3_addSecond {U : State} (h : AllW U) {A : Array Value} : (Cond.code yX3_addSecond cX3_addSecond 11 none).before A U = true := h.use (mw_4 (List.mem_of_getElem? (i := 145) rfl)) rfl
theorem ml_X3_75 {U : State} (h : AllW U) {A : Array Value} : (Cond.methodLink "ClapValley$Echoes" 75 yJ9_min_7cf53).before A U = true := h.use (mw_4 (List.mem_of_getElem? (i := 146) rfl)) rfl
theorem ml_X3_81 {U : State} (h : AllW U) {A : Array Value} : (Cond.methodLink "ClapValley$Echoes" 81 yJ9_max_7cf53).before A U = true := h.use (mw_4 (List.mem_of_getElem? (i := 147) rfl)) rfl
theorem mn_X3_69 {U : State} (h : AllW U) {A : Array Value} : (Cond.methodLinkNest "ClapValley$Echoes" 69 yX6_barnStrength "ClapValley").before A U = true := h.use (mw_4 (List.mem_of_getElem? (i := 148) rfl)) rfl
theorem im_X6_barnStrength {U : State} (h : AllW U) {A : Array Value} : (Cond.instanceMethod yX6_barnStrength).before A U = true := h.use (mw_4 (List.mem_of_getElem? (i := 150) rfl)) rfl
theorem cd_X6_barnStrength {U : State} (h : AllW U) {A : Array Value} : (Cond.code yX6_barnStrength cX6_barnStrength 4 (some FieldType.int)).before A U = true := h.use (mw_4 (List.mem_of_getElem? (i := 151) rfl)) rfl
theorem mn_X11_149 {U : State} (h : AllW U) {A : Array Value} : (Cond.methodLinkNest "ClapValley" 149 yX3_orderHeard "ClapValley").before A U = true := h.use (mw_4 (List.mem_of_getElem? (i := 152) rfl)) rfl
theorem im_X3_orderHeard {U : State} (h : AllW U) {A : Array Value} : (Cond.instanceMethod yX3_orderHeard).before A U = true := h.use (mw_4 (List.mem_of_getElem? (i := 154) rfl)) rfl
theorem cd_X3_orderHeard {U : State} (h : AllW U) {A : Array Value} : (Cond.code yX3_orderHeard cX3_orderHeard 3 (some FieldType.int)).before A U = true := h.use (mw_4 (List.mem_of_getElem? (i := 155) rfl)) rfl
theorem mn_X3_90 {U : State} (h : AllW U) {A : Array Value} : (Cond.methodLinkNest "ClapValley$Echoes" 90 yX11_wayRoot "ClapValley").before A U = true := h.use (mw_4 (List.mem_of_getElem? (i := 156) rfl)) rfl
theorem st_X11_wayRoot {U : State} (h : AllW U) {A : Array Value} : (Cond.static yX11_wayRoot).before A U = true := h.use (mw_4 (List.mem_of_getElem? (i := 157) rfl)) rfl
theorem cd_X11_wayRoot {U : State} (h : AllW U) {A : Array Value} : (Cond.code yX11_wayRoot cX11_wayRoot 5 (some FieldType.int)).before A U = true := h.use (mw_4 (List.mem_of_getElem? (i := 158) rfl)) rfl
theorem mn_X3_93 {U : State} (h : AllW U) {A : Array Value} : (Cond.methodLinkNest "ClapValley$Echoes" 93 yX11_insert "ClapValley").before A U = true := h.use (mw_4 (List.mem_of_getElem? (i := 159) rfl)) rfl
theorem st_X11_insert {U : State} (h : AllW U) {A : Array Value} : (Cond.static yX11_insert).before A U = true := h.use (mw_4 (List.mem_of_getElem? (i := 160) rfl)) rfl
theorem cd_X11_insert {U : State} (h : AllW U) {A : Array Value} : (Cond.code yX11_insert cX11_insert 4 none).before A U = true := h.use (mw_4 (List.mem_of_getElem? (i := 161) rfl)) rfl
theorem ml_X11_157 {U : State} (h : AllW U) {A : Array Value} : (Cond.methodLink "ClapValley" 157 yX11_byAir).before A U = true := h.use (mw_4 (List.mem_of_getElem? (i := 163) rfl)) rfl
theorem st_X11_byAir {U : State} (h : AllW U) {A : Array Value} : (Cond.static yX11_byAir).before A U = true := h.use (mw_4 (List.mem_of_getElem? (i := 164) rfl)) rfl
theorem cd_X11_byAir {U : State} (h : AllW U) {A : Array Value} : (Cond.code yX11_byAir cX11_byAir 2 (some FieldType.int)).before A U = true := h.use (mw_4 (List.mem_of_getElem? (i := 165) rfl)) rfl
theorem ml_L_101 {U : State} (h : AllW U) {A : Array Value} : (Cond.methodLink "ClapValleyLaw" 101 yL_strength).before A U = true := h.use (mw_4 (List.mem_of_getElem? (i := 166) rfl)) rfl
theorem st_L_strength {U : State} (h : AllW U) {A : Array Value} : (Cond.static yL_strength).before A U = true := h.use (mw_4 (List.mem_of_getElem? (i := 167) rfl)) rfl
theorem cw_L_strength {U : State} (h : AllW U) {A : Array Value} : (Cond.codeWith yL_strength method_7_code 9 (some FieldType.int) [(0, 18, 21, 13)]).before A U = true := h.use (mw_4 (List.mem_of_getElem? (i := 168) rfl)) rfl
theorem ml_L_28 {U : State} (h : AllW U) {A : Array Value} : (Cond.methodLink "ClapValleyLaw" 28 yX11_strength).before A U = true := h.use (mw_4 (List.mem_of_getElem? (i := 169) rfl)) rfl
theorem im_X11_strength {U : State} (h : AllW U) {A : Array Value} : (Cond.instanceMethod yX11_strength).before A U = true := h.use (mw_4 (List.mem_of_getElem? (i := 170) rfl)) rfl
theorem sl_X11_strength {U : State} (h : AllW U) {A : Array Value} : (Cond.selects "ClapValley" yX11_strength yX11_strength).before A U = true := h.use (mw_4 (List.mem_of_getElem? (i := 171) rfl)) rfl
theorem cd_X11_strength {U : State} (h : AllW U) {A : Array Value} : (Cond.code yX11_strength cX11_strength 8 (some FieldType.int)).before A U = true := h.use (mw_4 (List.mem_of_getElem? (i := 172) rfl)) rfl
theorem mn_X11_163 {U : State} (h : AllW U) {A : Array Value} : (Cond.methodLinkNest "ClapValley" 163 yX3_strengthOf "ClapValley").before A U = true := h.use (mw_4 (List.mem_of_getElem? (i := 174) rfl)) rfl
theorem im_X3_strengthOf {U : State} (h : AllW U) {A : Array Value} : (Cond.instanceMethod yX3_strengthOf).before A U = true := h.use (mw_4 (List.mem_of_getElem? (i := 176) rfl)) rfl
theorem cd_X3_strengthOf {U : State} (h : AllW U) {A : Array Value} : (Cond.code yX3_strengthOf cX3_strengthOf 3 (some FieldType.int)).before A U = true := h.use (mw_4 (List.mem_of_getElem? (i := 177) rfl)) rfl
theorem ml_L_108 {U : State} (h : AllW U) {A : Array Value} : (Cond.methodLink "ClapValleyLaw" 108 yL_tick).before A U = true := h.use (mw_4 (List.mem_of_getElem? (i := 178) rfl)) rfl
theorem st_L_tick {U : State} (h : AllW U) {A : Array Value} : (Cond.static yL_tick).before A U = true := h.use (mw_4 (List.mem_of_getElem? (i := 179) rfl)) rfl
theorem cw_L_tick {U : State} (h : AllW U) {A : Array Value} : (Cond.codeWith yL_tick method_8_code 5 (some FieldType.int) [(0, 10, 13, 13)]).before A U = true := h.use (mw_4 (List.mem_of_getElem? (i := 180) rfl)) rfl
theorem ml_L_31 {U : State} (h : AllW U) {A : Array Value} : (Cond.methodLink "ClapValleyLaw" 31 yX11_tick).before A U = true := h.use (mw_4 (List.mem_of_getElem? (i := 181) rfl)) rfl
theorem im_X11_tick {U : State} (h : AllW U) {A : Array Value} : (Cond.instanceMethod yX11_tick).before A U = true := h.use (mw_4 (List.mem_of_getElem? (i := 182) rfl)) rfl
theorem sl_X11_tick {U : State} (h : AllW U) {A : Array Value} : (Cond.selects "ClapValley" yX11_tick yX11_tick).before A U = true := h.use (mw_4 (List.mem_of_getElem? (i := 183) rfl)) rfl
theorem cd_X11_tick {U : State} (h : AllW U) {A : Array Value} : (Cond.code yX11_tick cX11_tick 4 (some FieldType.int)).before A U = true := h.use (mw_4 (List.mem_of_getElem? (i := 184) rfl)) rfl
theorem ml_X11_187 {U : State} (h : AllW U) {A : Array Value} : (Cond.methodLink "ClapValley" 187 yX11_needStation).before A U = true := h.use (mw_4 (List.mem_of_getElem? (i := 185) rfl)) rfl
theorem im_X11_needStation {U : State} (h : AllW U) {A : Array Value} : (Cond.instanceMethod yX11_needStation).before A U = true := h.use (mw_4 (List.mem_of_getElem? (i := 187) rfl)) rfl
theorem cd_X11_needStation {U : State} (h : AllW U) {A : Array Value} : (Cond.code yX11_needStation cX11_needStation 2 (some (FieldType.object "ClapValley$Station"))).before A U = true := h.use (mw_4 (List.mem_of_getElem? (i := 188) rfl)) rfl
theorem mn_X11_194 {U : State} (h : AllW U) {A : Array Value} : (Cond.methodLinkNest "ClapValley" 194 yX7_write "ClapValley").before A U = true := h.use (mw_4 (List.mem_of_getElem? (i := 190) rfl)) rfl
theorem im_X7_write {U : State} (h : AllW U) {A : Array Value} : (Cond.instanceMethod yX7_write).before A U = true := h.use (mw_4 (List.mem_of_getElem? (i := 192) rfl)) rfl
theorem cd_X7_write {U : State} (h : AllW U) {A : Array Value} : (Cond.code yX7_write cX7_write 2 none).before A U = true := h.use (mw_4 (List.mem_of_getElem? (i := 193) rfl)) rfl
theorem mn_X7_34 {U : State} (h : AllW U) {A : Array Value} : (Cond.methodLinkNest "ClapValley$Station" 34 yX11_insert "ClapValley").before A U = true := h.use (mw_4 (List.mem_of_getElem? (i := 194) rfl)) rfl
theorem ml_L_111 {U : State} (h : AllW U) {A : Array Value} : (Cond.methodLink "ClapValleyLaw" 111 yL_told).before A U = true := h.use (mw_4 (List.mem_of_getElem? (i := 195) rfl)) rfl
theorem st_L_told {U : State} (h : AllW U) {A : Array Value} : (Cond.static yL_told).before A U = true := h.use (mw_4 (List.mem_of_getElem? (i := 196) rfl)) rfl
theorem cw_L_told {U : State} (h : AllW U) {A : Array Value} : (Cond.codeWith yL_told method_9_code 5 (some FieldType.int) [(0, 10, 13, 13)]).before A U = true := h.use (mw_4 (List.mem_of_getElem? (i := 197) rfl)) rfl
theorem ml_L_34 {U : State} (h : AllW U) {A : Array Value} : (Cond.methodLink "ClapValleyLaw" 34 yX11_told).before A U = true := h.use (mw_4 (List.mem_of_getElem? (i := 198) rfl)) rfl
theorem im_X11_told {U : State} (h : AllW U) {A : Array Value} : (Cond.instanceMethod yX11_told).before A U = true := h.use (mw_4 (List.mem_of_getElem? (i := 199) rfl)) rfl
theorem sl_X11_told {U : State} (h : AllW U) {A : Array Value} : (Cond.selects "ClapValley" yX11_told yX11_told).before A U = true := h.use (mw_4 (List.mem_of_getElem? (i := 200) rfl)) rfl
theorem cd_X11_told {U : State} (h : AllW U) {A : Array Value} : (Cond.code yX11_told cX11_told 4 (some FieldType.int)).before A U = true := h.use (mw_4 (List.mem_of_getElem? (i := 201) rfl)) rfl
theorem ml_X11_209 {U : State} (h : AllW U) {A : Array Value} : (Cond.methodLink "ClapValley" 209 yX11_writtenTick).before A U = true := h.use (mw_4 (List.mem_of_getElem? (i := 202) rfl)) rfl
theorem st_X11_writtenTick {U : State} (h : AllW U) {A : Array Value} : (Cond.static yX11_writtenTick).before A U = true := h.use (mw_4 (List.mem_of_getElem? (i := 203) rfl)) rfl
theorem cd_X11_writtenTick {U : State} (h : AllW U) {A : Array Value} : (Cond.code yX11_writtenTick cX11_writtenTick 2 (some FieldType.int)).before A U = true := h.use (mw_4 (List.mem_of_getElem? (i := 204) rfl)) rfl
theorem ml_L_114 {U : State} (h : AllW U) {A : Array Value} : (Cond.methodLink "ClapValleyLaw" 114 yL_fits).before A U = true := h.use (mw_4 (List.mem_of_getElem? (i := 206) rfl)) rfl
theorem st_L_fits {U : State} (h : AllW U) {A : Array Value} : (Cond.static yL_fits).before A U = true := h.use (mw_4 (List.mem_of_getElem? (i := 207) rfl)) rfl
theorem cw_L_fits {U : State} (h : AllW U) {A : Array Value} : (Cond.codeWith yL_fits method_10_code 5 (some FieldType.int) [(0, 17, 20, 13)]).before A U = true := h.use (mw_4 (List.mem_of_getElem? (i := 208) rfl)) rfl
theorem ml_L_37 {U : State} (h : AllW U) {A : Array Value} : (Cond.methodLink "ClapValleyLaw" 37 yX11_fits).before A U = true := h.use (mw_4 (List.mem_of_getElem? (i := 209) rfl)) rfl
theorem im_X11_fits {U : State} (h : AllW U) {A : Array Value} : (Cond.instanceMethod yX11_fits).before A U = true := h.use (mw_4 (List.mem_of_getElem? (i := 210) rfl)) rfl
theorem sl_X11_fits {U : State} (h : AllW U) {A : Array Value} : (Cond.selects "ClapValley" yX11_fits yX11_fits).before A U = true := h.use (mw_4 (List.mem_of_getElem? (i := 211) rfl)) rfl
theorem cd_X11_fits {U : State} (h : AllW U) {A : Array Value} : (Cond.code yX11_fits cX11_fits 5 (some FieldType.boolean)).before A U = true := h.use (mw_4 (List.mem_of_getElem? (i := 212) rfl)) rfl
theorem mn_X11_213 {U : State} (h : AllW U) {A : Array Value} : (Cond.methodLinkNest "ClapValley" 213 yX7_isNamed "ClapValley").before A U = true := h.use (mw_4 (List.mem_of_getElem? (i := 213) rfl)) rfl
theorem im_X7_isNamed {U : State} (h : AllW U) {A : Array Value} : (Cond.instanceMethod yX7_isNamed).before A U = true := h.use (mw_4 (List.mem_of_getElem? (i := 215) rfl)) rfl
theorem cd_X7_isNamed {U : State} (h : AllW U) {A : Array Value} : (Cond.code yX7_isNamed cX7_isNamed 1 (some FieldType.boolean)).before A U = true := h.use (mw_4 (List.mem_of_getElem? (i := 216) rfl)) rfl
theorem ml_X11_217 {U : State} (h : AllW U) {A : Array Value} : (Cond.methodLink "ClapValley" 217 yX11_fitsAt).before A U = true := h.use (mw_4 (List.mem_of_getElem? (i := 217) rfl)) rfl
theorem im_X11_fitsAt {U : State} (h : AllW U) {A : Array Value} : (Cond.instanceMethod yX11_fitsAt).before A U = true := h.use (mw_4 (List.mem_of_getElem? (i := 219) rfl)) rfl
theorem cd_X11_fitsAt {U : State} (h : AllW U) {A : Array Value} : (Cond.code yX11_fitsAt cX11_fitsAt 5 (some FieldType.boolean)).before A U = true := h.use (mw_4 (List.mem_of_getElem? (i := 220) rfl)) rfl
theorem mn_X11_244 {U : State} (h : AllW U) {A : Array Value} : (Cond.methodLinkNest "ClapValley" 244 yX3_fit "ClapValley").before A U = true := h.use (mw_4 (List.mem_of_getElem? (i := 221) rfl)) rfl
theorem im_X3_fit {U : State} (h : AllW U) {A : Array Value} : (Cond.instanceMethod yX3_fit).before A U = true := h.use (mw_4 (List.mem_of_getElem? (i := 223) rfl)) rfl
theorem cd_X3_fit {U : State} (h : AllW U) {A : Array Value} : (Cond.code yX3_fit cX3_fit 3 (some FieldType.boolean)).before A U = true := h.use (mw_4 (List.mem_of_getElem? (i := 224) rfl)) rfl
theorem ml_X3_103 {U : State} (h : AllW U) {A : Array Value} : (Cond.methodLink "ClapValley$Echoes" 103 yX3_countHeard).before A U = true := h.use (mw_4 (List.mem_of_getElem? (i := 225) rfl)) rfl
theorem im_X3_countHeard {U : State} (h : AllW U) {A : Array Value} : (Cond.instanceMethod yX3_countHeard).before A U = true := h.use (mw_4 (List.mem_of_getElem? (i := 227) rfl)) rfl
theorem cd_X3_countHeard {U : State} (h : AllW U) {A : Array Value} : (Cond.code yX3_countHeard cX3_countHeard 4 (some FieldType.int)).before A U = true := h.use (mw_4 (List.mem_of_getElem? (i := 228) rfl)) rfl
theorem ml_X3_111 {U : State} (h : AllW U) {A : Array Value} : (Cond.methodLink "ClapValley$Echoes" 111 yX3_orderHeard).before A U = true := h.use (mw_4 (List.mem_of_getElem? (i := 229) rfl)) rfl
theorem ml_X3_120 {U : State} (h : AllW U) {A : Array Value} : (Cond.methodLink "ClapValley$Echoes" 120 yX3_rowIs).before A U = true := h.use (mw_4 (List.mem_of_getElem? (i := 230) rfl)) rfl
theorem im_X3_rowIs {U : State} (h : AllW U) {A : Array Value} : (Cond.instanceMethod yX3_rowIs).before A U = true := h.use (mw_4 (List.mem_of_getElem? (i := 232) rfl)) rfl
theorem cd_X3_rowIs {U : State} (h : AllW U) {A : Array Value} : (Cond.code yX3_rowIs cX3_rowIs 4 (some FieldType.boolean)).before A U = true := h.use (mw_4 (List.mem_of_getElem? (i := 233) rfl)) rfl
theorem mn_X3_97 {U : State} (h : AllW U) {A : Array Value} : (Cond.methodLinkNest "ClapValley$Echoes" 97 yX11_byAir "ClapValley").before A U = true := h.use (mw_4 (List.mem_of_getElem? (i := 234) rfl)) rfl
theorem ml_L_117 {U : State} (h : AllW U) {A : Array Value} : (Cond.methodLink "ClapValleyLaw" 117 yL_where).before A U = true := h.use (mw_4 (List.mem_of_getElem? (i := 235) rfl)) rfl
theorem st_L_where {U : State} (h : AllW U) {A : Array Value} : (Cond.static yL_where).before A U = true := h.use (mw_4 (List.mem_of_getElem? (i := 236) rfl)) rfl
theorem cw_L_where {U : State} (h : AllW U) {A : Array Value} : (Cond.codeWith yL_where method_11_code 6 (some FieldType.int) [(0, 12, 15, 13)]).before A U = true := h.use (mw_4 (List.mem_of_getElem? (i := 237) rfl)) rfl
theorem ml_L_41 {U : State} (h : AllW U) {A : Array Value} : (Cond.methodLink "ClapValleyLaw" 41 yX11_where).before A U = true := h.use (mw_4 (List.mem_of_getElem? (i := 238) rfl)) rfl
theorem im_X11_where {U : State} (h : AllW U) {A : Array Value} : (Cond.instanceMethod yX11_where).before A U = true := h.use (mw_4 (List.mem_of_getElem? (i := 239) rfl)) rfl
theorem sl_X11_where {U : State} (h : AllW U) {A : Array Value} : (Cond.selects "ClapValley" yX11_where yX11_where).before A U = true := h.use (mw_5 (List.mem_of_getElem? (i := 0) rfl)) rfl
theorem cd_X11_where {U : State} (h : AllW U) {A : Array Value} : (Cond.code yX11_where cX11_where 8 (some FieldType.int)).before A U = true := h.use (mw_5 (List.mem_of_getElem? (i := 1) rfl)) rfl
theorem ml_L_121 {U : State} (h : AllW U) {A : Array Value} : (Cond.methodLink "ClapValleyLaw" 121 yL_airs).before A U = true := h.use (mw_5 (List.mem_of_getElem? (i := 3) rfl)) rfl
theorem st_L_airs {U : State} (h : AllW U) {A : Array Value} : (Cond.static yL_airs).before A U = true := h.use (mw_5 (List.mem_of_getElem? (i := 4) rfl)) rfl
theorem cw_L_airs {U : State} (h : AllW U) {A : Array Value} : (Cond.codeWith yL_airs method_12_code 6 (some FieldType.int) [(0, 12, 15, 13)]).before A U = true := h.use (mw_5 (List.mem_of_getElem? (i := 5) rfl)) rfl
theorem ml_L_45 {U : State} (h : AllW U) {A : Array Value} : (Cond.methodLink "ClapValleyLaw" 45 yX11_airs).before A U = true := h.use (mw_5 (List.mem_of_getElem? (i := 6) rfl)) rfl
theorem im_X11_airs {U : State} (h : AllW U) {A : Array Value} : (Cond.instanceMethod yX11_airs).before A U = true := h.use (mw_5 (List.mem_of_getElem? (i := 7) rfl)) rfl
theorem sl_X11_airs {U : State} (h : AllW U) {A : Array Value} : (Cond.selects "ClapValley" yX11_airs yX11_airs).before A U = true := h.use (mw_5 (List.mem_of_getElem? (i := 8) rfl)) rfl
theorem cd_X11_airs {U : State} (h : AllW U) {A : Array Value} : (Cond.code yX11_airs cX11_airs 11 (some FieldType.int)).before A U = true := h.use (mw_5 (List.mem_of_getElem? (i := 9) rfl)) rfl
theorem ml_X11_223 {U : State} (h : AllW U) {A : Array Value} : (Cond.methodLink "ClapValley" 223 yX11_needNamed).before A U = true := h.use (mw_5 (List.mem_of_getElem? (i := 10) rfl)) rfl
theorem im_X11_needNamed {U : State} (h : AllW U) {A : Array Value} : (Cond.instanceMethod yX11_needNamed).before A U = true := h.use (mw_5 (List.mem_of_getElem? (i := 12) rfl)) rfl
theorem cd_X11_needNamed {U : State} (h : AllW U) {A : Array Value} : (Cond.code yX11_needNamed cX11_needNamed 3 (some (FieldType.object "ClapValley$Station"))).before A U = true := h.use (mw_5 (List.mem_of_getElem? (i := 13) rfl)) rfl
theorem mn_X11_231 {U : State} (h : AllW U) {A : Array Value} : (Cond.methodLinkNest "ClapValley" 231 yX3_rowIs "ClapValley").before A U = true := h.use (mw_5 (List.mem_of_getElem? (i := 16) rfl)) rfl
theorem ml_L_124 {U : State} (h : AllW U) {A : Array Value} : (Cond.methodLink "ClapValleyLaw" 124 yL_whose).before A U = true := h.use (mw_5 (List.mem_of_getElem? (i := 17) rfl)) rfl
theorem st_L_whose {U : State} (h : AllW U) {A : Array Value} : (Cond.static yL_whose).before A U = true := h.use (mw_5 (List.mem_of_getElem? (i := 18) rfl)) rfl
theorem cw_L_whose {U : State} (h : AllW U) {A : Array Value} : (Cond.codeWith yL_whose method_13_code 7 (some FieldType.int) [(0, 14, 17, 13)]).before A U = true := h.use (mw_5 (List.mem_of_getElem? (i := 19) rfl)) rfl
theorem ml_L_48 {U : State} (h : AllW U) {A : Array Value} : (Cond.methodLink "ClapValleyLaw" 48 yX11_whose).before A U = true := h.use (mw_5 (List.mem_of_getElem? (i := 20) rfl)) rfl
theorem im_X11_whose {U : State} (h : AllW U) {A : Array Value} : (Cond.instanceMethod yX11_whose).before A U = true := h.use (mw_5 (List.mem_of_getElem? (i := 21) rfl)) rfl
theorem sl_X11_whose {U : State} (h : AllW U) {A : Array Value} : (Cond.selects "ClapValley" yX11_whose yX11_whose).before A U = true := h.use (mw_5 (List.mem_of_getElem? (i := 22) rfl)) rfl
theorem cd_X11_whose {U : State} (h : AllW U) {A : Array Value} : (Cond.code yX11_whose cX11_whose 8 (some FieldType.int)).before A U = true := h.use (mw_5 (List.mem_of_getElem? (i := 23) rfl)) rfl
theorem mn_X11_237 {U : State} (h : AllW U) {A : Array Value} : (Cond.methodLinkNest "ClapValley" 237 yX3_howManyAt "ClapValley").before A U = true := h.use (mw_5 (List.mem_of_getElem? (i := 25) rfl)) rfl
theorem im_X3_howManyAt {U : State} (h : AllW U) {A : Array Value} : (Cond.instanceMethod yX3_howManyAt).before A U = true := h.use (mw_5 (List.mem_of_getElem? (i := 27) rfl)) rfl
theorem cd_X3_howManyAt {U : State} (h : AllW U) {A : Array Value} : (Cond.code yX3_howManyAt cX3_howManyAt 5 (some FieldType.int)).before A U = true := h.use (mw_5 (List.mem_of_getElem? (i := 28) rfl)) rfl
theorem ml_X3_124 {U : State} (h : AllW U) {A : Array Value} : (Cond.methodLink "ClapValley$Echoes" 124 yX3_comesAt).before A U = true := h.use (mw_5 (List.mem_of_getElem? (i := 29) rfl)) rfl
theorem im_X3_comesAt {U : State} (h : AllW U) {A : Array Value} : (Cond.instanceMethod yX3_comesAt).before A U = true := h.use (mw_5 (List.mem_of_getElem? (i := 31) rfl)) rfl
theorem cd_X3_comesAt {U : State} (h : AllW U) {A : Array Value} : (Cond.code yX3_comesAt cX3_comesAt 4 (some FieldType.boolean)).before A U = true := h.use (mw_5 (List.mem_of_getElem? (i := 32) rfl)) rfl
theorem mn_X11_241 {U : State} (h : AllW U) {A : Array Value} : (Cond.methodLinkNest "ClapValley" 241 yX3_leastAt "ClapValley").before A U = true := h.use (mw_5 (List.mem_of_getElem? (i := 33) rfl)) rfl
theorem im_X3_leastAt {U : State} (h : AllW U) {A : Array Value} : (Cond.instanceMethod yX3_leastAt).before A U = true := h.use (mw_5 (List.mem_of_getElem? (i := 35) rfl)) rfl
theorem cd_X3_leastAt {U : State} (h : AllW U) {A : Array Value} : (Cond.code yX3_leastAt cX3_leastAt 5 (some FieldType.int)).before A U = true := h.use (mw_5 (List.mem_of_getElem? (i := 36) rfl)) rfl
theorem ml_L_128 {U : State} (h : AllW U) {A : Array Value} : (Cond.methodLink "ClapValleyLaw" 128 yL_gone).before A U = true := h.use (mw_5 (List.mem_of_getElem? (i := 37) rfl)) rfl
theorem st_L_gone {U : State} (h : AllW U) {A : Array Value} : (Cond.static yL_gone).before A U = true := h.use (mw_5 (List.mem_of_getElem? (i := 38) rfl)) rfl
theorem cw_L_gone {U : State} (h : AllW U) {A : Array Value} : (Cond.codeWith yL_gone method_14_code 5 (some FieldType.int) [(0, 10, 13, 13)]).before A U = true := h.use (mw_5 (List.mem_of_getElem? (i := 39) rfl)) rfl
theorem ml_L_52 {U : State} (h : AllW U) {A : Array Value} : (Cond.methodLink "ClapValleyLaw" 52 yX11_gone).before A U = true := h.use (mw_5 (List.mem_of_getElem? (i := 40) rfl)) rfl
theorem im_X11_gone {U : State} (h : AllW U) {A : Array Value} : (Cond.instanceMethod yX11_gone).before A U = true := h.use (mw_5 (List.mem_of_getElem? (i := 41) rfl)) rfl
theorem sl_X11_gone {U : State} (h : AllW U) {A : Array Value} : (Cond.selects "ClapValley" yX11_gone yX11_gone).before A U = true := h.use (mw_5 (List.mem_of_getElem? (i := 42) rfl)) rfl
theorem cd_X11_gone {U : State} (h : AllW U) {A : Array Value} : (Cond.code yX11_gone cX11_gone 10 (some FieldType.int)).before A U = true := h.use (mw_5 (List.mem_of_getElem? (i := 43) rfl)) rfl
theorem mn_X11_256 {U : State} (h : AllW U) {A : Array Value} : (Cond.methodLinkNest "ClapValley" 256 yX1_pickNamed "ClapValley").before A U = true := h.use (mw_5 (List.mem_of_getElem? (i := 44) rfl)) rfl
theorem im_X1_pickNamed {U : State} (h : AllW U) {A : Array Value} : (Cond.instanceMethod yX1_pickNamed).before A U = true := h.use (mw_5 (List.mem_of_getElem? (i := 46) rfl)) rfl
theorem cd_X1_pickNamed {U : State} (h : AllW U) {A : Array Value} : (Cond.code yX1_pickNamed cX1_pickNamed 3 (some FieldType.int)).before A U = true := h.use (mw_5 (List.mem_of_getElem? (i := 47) rfl)) rfl
theorem mn_X1_41 {U : State} (h : AllW U) {A : Array Value} : (Cond.methodLinkNest "ClapValley$Book" 41 yX7_isNamed "ClapValley").before A U = true := h.use (mw_5 (List.mem_of_getElem? (i := 48) rfl)) rfl
theorem ml_X11_262 {U : State} (h : AllW U) {A : Array Value} : (Cond.methodLink "ClapValley" 262 yJ6_bitCount_0f7a4).before A U = true := h.use (mw_5 (List.mem_of_getElem? (i := 49) rfl)) rfl
theorem st_J6_bitCount_0f7a4 {U : State} (h : AllW U) {A : Array Value} : (Cond.static yJ6_bitCount_0f7a4).before A U = true := h.use (mw_5 (List.mem_of_getElem? (i := 50) rfl)) rfl
theorem cd_J6_bitCount_0f7a4 {U : State} (h : AllW U) {A : Array Value} : (Cond.code yJ6_bitCount_0f7a4 cJ6_bitCount_0f7a4 1 (some FieldType.int)).before A U = true := h.use (mw_5 (List.mem_of_getElem? (i := 51) rfl)) rfl
theorem kc_J6_265 {U : State} (h : AllW U) {A : Array Value} : (Cond.constant "java/lang/Integer" 265 (1431655765 : Int32)).before A U = true := h.use (mw_5 (List.mem_of_getElem? (i := 52) rfl)) rfl
theorem kc_J6_266 {U : State} (h : AllW U) {A : Array Value} : (Cond.constant "java/lang/Integer" 266 (858993459 : Int32)).before A U = true := h.use (mw_5 (List.mem_of_getElem? (i := 53) rfl)) rfl
theorem kc_J6_267 {U : State} (h : AllW U) {A : Array Value} : (Cond.constant "java/lang/Integer" 267 (252645135 : Int32)).before A U = true := h.use (mw_5 (List.mem_of_getElem? (i := 54) rfl)) rfl
theorem ml_X11_267 {U : State} (h : AllW U) {A : Array Value} : (Cond.methodLink "ClapValley" 267 yX11_thingBits).before A U = true := h.use (mw_5 (List.mem_of_getElem? (i := 55) rfl)) rfl
theorem st_X11_thingBits {U : State} (h : AllW U) {A : Array Value} : (Cond.static yX11_thingBits).before A U = true := h.use (mw_5 (List.mem_of_getElem? (i := 56) rfl)) rfl
theorem cd_X11_thingBits {U : State} (h : AllW U) {A : Array Value} : (Cond.code yX11_thingBits cX11_thingBits 2 (some FieldType.int)).before A U = true := h.use (mw_5 (List.mem_of_getElem? (i := 57) rfl)) rfl
theorem ml_X11_270 {U : State} (h : AllW U) {A : Array Value} : (Cond.methodLink "ClapValley" 270 yX11_firstMisfit).before A U = true := h.use (mw_5 (List.mem_of_getElem? (i := 58) rfl)) rfl
theorem im_X11_firstMisfit {U : State} (h : AllW U) {A : Array Value} : (Cond.instanceMethod yX11_firstMisfit).before A U = true := h.use (mw_5 (List.mem_of_getElem? (i := 60) rfl)) rfl
theorem cd_X11_firstMisfit {U : State} (h : AllW U) {A : Array Value} : (Cond.code yX11_firstMisfit cX11_firstMisfit 7 (some FieldType.int)).before A U = true := h.use (mw_5 (List.mem_of_getElem? (i := 61) rfl)) rfl
theorem ml_L_131 {U : State} (h : AllW U) {A : Array Value} : (Cond.methodLink "ClapValleyLaw" 131 yL_plans).before A U = true := h.use (mw_5 (List.mem_of_getElem? (i := 62) rfl)) rfl
theorem st_L_plans {U : State} (h : AllW U) {A : Array Value} : (Cond.static yL_plans).before A U = true := h.use (mw_5 (List.mem_of_getElem? (i := 63) rfl)) rfl
theorem cw_L_plans {U : State} (h : AllW U) {A : Array Value} : (Cond.codeWith yL_plans method_15_code 6 (some FieldType.int) [(0, 12, 15, 13), (0, 12, 19, 15)]).before A U = true := h.use (mw_5 (List.mem_of_getElem? (i := 64) rfl)) rfl
theorem ml_L_55 {U : State} (h : AllW U) {A : Array Value} : (Cond.methodLink "ClapValleyLaw" 55 yX11_plans).before A U = true := h.use (mw_5 (List.mem_of_getElem? (i := 65) rfl)) rfl
theorem im_X11_plans {U : State} (h : AllW U) {A : Array Value} : (Cond.instanceMethod yX11_plans).before A U = true := h.use (mw_5 (List.mem_of_getElem? (i := 66) rfl)) rfl
theorem sl_X11_plans {U : State} (h : AllW U) {A : Array Value} : (Cond.selects "ClapValley" yX11_plans yX11_plans).before A U = true := h.use (mw_5 (List.mem_of_getElem? (i := 67) rfl)) rfl
theorem cd_X11_plans {U : State} (h : AllW U) {A : Array Value} : (Cond.code yX11_plans cX11_plans 6 (some FieldType.int)).before A U = true := h.use (mw_5 (List.mem_of_getElem? (i := 68) rfl)) rfl
theorem mn_X11_278 {U : State} (h : AllW U) {A : Array Value} : (Cond.methodLinkNest "ClapValley" 278 yX5_prepare "ClapValley").before A U = true := h.use (mw_5 (List.mem_of_getElem? (i := 71) rfl)) rfl
theorem im_X5_prepare {U : State} (h : AllW U) {A : Array Value} : (Cond.instanceMethod yX5_prepare).before A U = true := h.use (mw_5 (List.mem_of_getElem? (i := 73) rfl)) rfl
theorem cd_X5_prepare {U : State} (h : AllW U) {A : Array Value} : (Cond.code yX5_prepare cX5_prepare 4 none).before A U = true := h.use (mw_5 (List.mem_of_getElem? (i := 74) rfl)) rfl
theorem ml_X5_42 {U : State} (h : AllW U) {A : Array Value} : (Cond.methodLink "ClapValley$Planner" 42 yX5_isAllowed).before A U = true := h.use (mw_5 (List.mem_of_getElem? (i := 75) rfl)) rfl
theorem im_X5_isAllowed {U : State} (h : AllW U) {A : Array Value} : (Cond.instanceMethod yX5_isAllowed).before A U = true := h.use (mw_5 (List.mem_of_getElem? (i := 77) rfl)) rfl
theorem cd_X5_isAllowed {U : State} (h : AllW U) {A : Array Value} : (Cond.code yX5_isAllowed cX5_isAllowed 5 (some FieldType.boolean)).before A U = true := h.use (mw_5 (List.mem_of_getElem? (i := 78) rfl)) rfl
theorem ml_X5_46 {U : State} (h : AllW U) {A : Array Value} : (Cond.methodLink "ClapValley$Planner" 46 yX5_tickOf).before A U = true := h.use (mw_5 (List.mem_of_getElem? (i := 79) rfl)) rfl
theorem im_X5_tickOf {U : State} (h : AllW U) {A : Array Value} : (Cond.instanceMethod yX5_tickOf).before A U = true := h.use (mw_5 (List.mem_of_getElem? (i := 81) rfl)) rfl
theorem cd_X5_tickOf {U : State} (h : AllW U) {A : Array Value} : (Cond.code yX5_tickOf cX5_tickOf 4 (some FieldType.int)).before A U = true := h.use (mw_5 (List.mem_of_getElem? (i := 82) rfl)) rfl
theorem ml_X5_63 {U : State} (h : AllW U) {A : Array Value} : (Cond.methodLink "ClapValley$Planner" 63 yJ9_abs_0f7a4).before A U = true := h.use (mw_5 (List.mem_of_getElem? (i := 83) rfl)) rfl
theorem mn_X5_69 {U : State} (h : AllW U) {A : Array Value} : (Cond.methodLinkNest "ClapValley$Planner" 69 yX11_wayRoot "ClapValley").before A U = true := h.use (mw_5 (List.mem_of_getElem? (i := 84) rfl)) rfl
theorem mn_X5_72 {U : State} (h : AllW U) {A : Array Value} : (Cond.methodLinkNest "ClapValley$Planner" 72 yX11_byAir "ClapValley").before A U = true := h.use (mw_5 (List.mem_of_getElem? (i := 85) rfl)) rfl
theorem ml_X5_50 {U : State} (h : AllW U) {A : Array Value} : (Cond.methodLink "ClapValley$Planner" 50 yX5_isWritten).before A U = true := h.use (mw_5 (List.mem_of_getElem? (i := 86) rfl)) rfl
theorem st_X5_isWritten {U : State} (h : AllW U) {A : Array Value} : (Cond.static yX5_isWritten).before A U = true := h.use (mw_5 (List.mem_of_getElem? (i := 87) rfl)) rfl
theorem cd_X5_isWritten {U : State} (h : AllW U) {A : Array Value} : (Cond.code yX5_isWritten cX5_isWritten 3 (some FieldType.boolean)).before A U = true := h.use (mw_5 (List.mem_of_getElem? (i := 88) rfl)) rfl
theorem mn_X11_282 {U : State} (h : AllW U) {A : Array Value} : (Cond.methodLinkNest "ClapValley" 282 yX5_search "ClapValley").before A U = true := h.use (mw_5 (List.mem_of_getElem? (i := 89) rfl)) rfl
theorem im_X5_search {U : State} (h : AllW U) {A : Array Value} : (Cond.instanceMethod yX5_search).before A U = true := h.use (mw_5 (List.mem_of_getElem? (i := 91) rfl)) rfl
theorem cd_X5_search {U : State} (h : AllW U) {A : Array Value} : (Cond.code yX5_search cX5_search 6 (some FieldType.int)).before A U = true := h.use (mw_5 (List.mem_of_getElem? (i := 92) rfl)) rfl
theorem ml_X5_85 {U : State} (h : AllW U) {A : Array Value} : (Cond.methodLink "ClapValley$Planner" 85 yX5_tryPlan).before A U = true := h.use (mw_5 (List.mem_of_getElem? (i := 93) rfl)) rfl
theorem im_X5_tryPlan {U : State} (h : AllW U) {A : Array Value} : (Cond.instanceMethod yX5_tryPlan).before A U = true := h.use (mw_5 (List.mem_of_getElem? (i := 95) rfl)) rfl
theorem cd_X5_tryPlan {U : State} (h : AllW U) {A : Array Value} : (Cond.code yX5_tryPlan cX5_tryPlan 6 none).before A U = true := h.use (mw_5 (List.mem_of_getElem? (i := 96) rfl)) rfl
theorem ml_X5_89 {U : State} (h : AllW U) {A : Array Value} : (Cond.methodLink "ClapValley$Planner" 89 yX5_agrees).before A U = true := h.use (mw_5 (List.mem_of_getElem? (i := 97) rfl)) rfl
theorem im_X5_agrees {U : State} (h : AllW U) {A : Array Value} : (Cond.instanceMethod yX5_agrees).before A U = true := h.use (mw_5 (List.mem_of_getElem? (i := 99) rfl)) rfl
theorem cd_X5_agrees {U : State} (h : AllW U) {A : Array Value} : (Cond.code yX5_agrees cX5_agrees 5 (some FieldType.boolean)).before A U = true := h.use (mw_5 (List.mem_of_getElem? (i := 100) rfl)) rfl
theorem mn_X5_93 {U : State} (h : AllW U) {A : Array Value} : (Cond.methodLinkNest "ClapValley$Planner" 93 yX11_insert "ClapValley").before A U = true := h.use (mw_5 (List.mem_of_getElem? (i := 101) rfl)) rfl
theorem mn_X5_100 {U : State} (h : AllW U) {A : Array Value} : (Cond.methodLinkNest "ClapValley$Planner" 100 yX11_sameStart "ClapValley").before A U = true := h.use (mw_5 (List.mem_of_getElem? (i := 102) rfl)) rfl
theorem st_X11_sameStart {U : State} (h : AllW U) {A : Array Value} : (Cond.static yX11_sameStart).before A U = true := h.use (mw_5 (List.mem_of_getElem? (i := 103) rfl)) rfl
theorem cd_X11_sameStart {U : State} (h : AllW U) {A : Array Value} : (Cond.code yX11_sameStart cX11_sameStart 4 (some FieldType.boolean)).before A U = true := h.use (mw_5 (List.mem_of_getElem? (i := 104) rfl)) rfl
theorem ml_L_138 {U : State} (h : AllW U) {A : Array Value} : (Cond.methodLink "ClapValleyLaw" 138 yL_next).before A U = true := h.use (mw_5 (List.mem_of_getElem? (i := 106) rfl)) rfl
theorem st_L_next {U : State} (h : AllW U) {A : Array Value} : (Cond.static yL_next).before A U = true := h.use (mw_5 (List.mem_of_getElem? (i := 107) rfl)) rfl
theorem cw_L_next {U : State} (h : AllW U) {A : Array Value} : (Cond.codeWith yL_next method_16_code 7 (some FieldType.int) [(0, 14, 17, 13), (0, 14, 21, 15)]).before A U = true := h.use (mw_5 (List.mem_of_getElem? (i := 108) rfl)) rfl
theorem ml_L_58 {U : State} (h : AllW U) {A : Array Value} : (Cond.methodLink "ClapValleyLaw" 58 yX11_next).before A U = true := h.use (mw_5 (List.mem_of_getElem? (i := 109) rfl)) rfl
theorem im_X11_next {U : State} (h : AllW U) {A : Array Value} : (Cond.instanceMethod yX11_next).before A U = true := h.use (mw_5 (List.mem_of_getElem? (i := 110) rfl)) rfl
theorem sl_X11_next {U : State} (h : AllW U) {A : Array Value} : (Cond.selects "ClapValley" yX11_next yX11_next).before A U = true := h.use (mw_5 (List.mem_of_getElem? (i := 111) rfl)) rfl
theorem cd_X11_next {U : State} (h : AllW U) {A : Array Value} : (Cond.code yX11_next cX11_next 8 (some FieldType.int)).before A U = true := h.use (mw_5 (List.mem_of_getElem? (i := 112) rfl)) rfl
theorem mn_X11_301 {U : State} (h : AllW U) {A : Array Value} : (Cond.methodLinkNest "ClapValley" 301 yX2_keepRow "ClapValley").before A U = true := h.use (mw_5 (List.mem_of_getElem? (i := 115) rfl)) rfl
theorem im_X2_keepRow {U : State} (h : AllW U) {A : Array Value} : (Cond.instanceMethod yX2_keepRow).before A U = true := h.use (mw_5 (List.mem_of_getElem? (i := 117) rfl)) rfl
theorem cd_X2_keepRow {U : State} (h : AllW U) {A : Array Value} : (Cond.code yX2_keepRow cX2_keepRow 5 none).before A U = true := h.use (mw_5 (List.mem_of_getElem? (i := 118) rfl)) rfl
theorem mn_X2_35 {U : State} (h : AllW U) {A : Array Value} : (Cond.methodLinkNest "ClapValley$Chooser" 35 yX3_orderHeard "ClapValley").before A U = true := h.use (mw_5 (List.mem_of_getElem? (i := 119) rfl)) rfl
theorem mn_X2_47 {U : State} (h : AllW U) {A : Array Value} : (Cond.methodLinkNest "ClapValley$Chooser" 47 yX11_byAir "ClapValley").before A U = true := h.use (mw_5 (List.mem_of_getElem? (i := 120) rfl)) rfl
theorem mn_X11_305 {U : State} (h : AllW U) {A : Array Value} : (Cond.methodLinkNest "ClapValley" 305 yX2_compareRows "ClapValley").before A U = true := h.use (mw_5 (List.mem_of_getElem? (i := 121) rfl)) rfl
theorem im_X2_compareRows {U : State} (h : AllW U) {A : Array Value} : (Cond.instanceMethod yX2_compareRows).before A U = true := h.use (mw_5 (List.mem_of_getElem? (i := 123) rfl)) rfl
theorem cd_X2_compareRows {U : State} (h : AllW U) {A : Array Value} : (Cond.code yX2_compareRows cX2_compareRows 5 none).before A U = true := h.use (mw_5 (List.mem_of_getElem? (i := 124) rfl)) rfl
theorem mn_X2_51 {U : State} (h : AllW U) {A : Array Value} : (Cond.methodLinkNest "ClapValley$Chooser" 51 yX11_sameStart "ClapValley").before A U = true := h.use (mw_5 (List.mem_of_getElem? (i := 125) rfl)) rfl
theorem mn_X11_308 {U : State} (h : AllW U) {A : Array Value} : (Cond.methodLinkNest "ClapValley" 308 yX2_choose "ClapValley").before A U = true := h.use (mw_5 (List.mem_of_getElem? (i := 126) rfl)) rfl
theorem im_X2_choose {U : State} (h : AllW U) {A : Array Value} : (Cond.instanceMethod yX2_choose).before A U = true := h.use (mw_5 (List.mem_of_getElem? (i := 128) rfl)) rfl
theorem cd_X2_choose {U : State} (h : AllW U) {A : Array Value} : (Cond.code yX2_choose cX2_choose 6 none).before A U = true := h.use (mw_5 (List.mem_of_getElem? (i := 129) rfl)) rfl
theorem ml_X2_55 {U : State} (h : AllW U) {A : Array Value} : (Cond.methodLink "ClapValley$Chooser" 55 yJ6_bitCount_0f7a4).before A U = true := h.use (mw_5 (List.mem_of_getElem? (i := 130) rfl)) rfl
theorem ml_X2_60 {U : State} (h : AllW U) {A : Array Value} : (Cond.methodLink "ClapValley$Chooser" 60 yX2_clapsFrom).before A U = true := h.use (mw_5 (List.mem_of_getElem? (i := 131) rfl)) rfl
theorem im_X2_clapsFrom {U : State} (h : AllW U) {A : Array Value} : (Cond.instanceMethod yX2_clapsFrom).before A U = true := h.use (mw_5 (List.mem_of_getElem? (i := 133) rfl)) rfl
theorem cd_X2_clapsFrom {U : State} (h : AllW U) {A : Array Value} : (Cond.code yX2_clapsFrom cX2_clapsFrom 6 (some FieldType.int)).before A U = true := h.use (mw_5 (List.mem_of_getElem? (i := 134) rfl)) rfl
theorem ml_X2_63 {U : State} (h : AllW U) {A : Array Value} : (Cond.methodLink "ClapValley$Chooser" 63 yJ9_max_7cf53).before A U = true := h.use (mw_5 (List.mem_of_getElem? (i := 135) rfl)) rfl
theorem ml_L_141 {U : State} (h : AllW U) {A : Array Value} : (Cond.methodLink "ClapValleyLaw" 141 yL_knows).before A U = true := h.use (mw_5 (List.mem_of_getElem? (i := 136) rfl)) rfl
theorem st_L_knows {U : State} (h : AllW U) {A : Array Value} : (Cond.static yL_knows).before A U = true := h.use (mw_5 (List.mem_of_getElem? (i := 137) rfl)) rfl
theorem cw_L_knows {U : State} (h : AllW U) {A : Array Value} : (Cond.codeWith yL_knows method_17_code 8 (some FieldType.int) [(0, 16, 19, 13)]).before A U = true := h.use (mw_5 (List.mem_of_getElem? (i := 138) rfl)) rfl
theorem ml_L_61 {U : State} (h : AllW U) {A : Array Value} : (Cond.methodLink "ClapValleyLaw" 61 yX11_knows).before A U = true := h.use (mw_5 (List.mem_of_getElem? (i := 139) rfl)) rfl
theorem im_X11_knows {U : State} (h : AllW U) {A : Array Value} : (Cond.instanceMethod yX11_knows).before A U = true := h.use (mw_5 (List.mem_of_getElem? (i := 140) rfl)) rfl
theorem sl_X11_knows {U : State} (h : AllW U) {A : Array Value} : (Cond.selects "ClapValley" yX11_knows yX11_knows).before A U = true := h.use (mw_5 (List.mem_of_getElem? (i := 141) rfl)) rfl
theorem cd_X11_knows {U : State} (h : AllW U) {A : Array Value} : (Cond.code yX11_knows cX11_knows 10 (some FieldType.int)).before A U = true := h.use (mw_5 (List.mem_of_getElem? (i := 142) rfl)) rfl
theorem ml_X11_321 {U : State} (h : AllW U) {A : Array Value} : (Cond.methodLink "ClapValley" 321 yX11_lookAsThief).before A U = true := h.use (mw_5 (List.mem_of_getElem? (i := 143) rfl)) rfl
theorem im_X11_lookAsThief {U : State} (h : AllW U) {A : Array Value} : (Cond.instanceMethod yX11_lookAsThief).before A U = true := h.use (mw_5 (List.mem_of_getElem? (i := 145) rfl)) rfl
theorem cd_X11_lookAsThief {U : State} (h : AllW U) {A : Array Value} : (Cond.code yX11_lookAsThief cX11_lookAsThief 4 none).before A U = true := h.use (mw_5 (List.mem_of_getElem? (i := 146) rfl)) rfl
theorem mn_X11_325 {U : State} (h : AllW U) {A : Array Value} : (Cond.methodLinkNest "ClapValley" 325 yX3_countFirstHeard "ClapValley").before A U = true := h.use (mw_5 (List.mem_of_getElem? (i := 147) rfl)) rfl
theorem im_X3_countFirstHeard {U : State} (h : AllW U) {A : Array Value} : (Cond.instanceMethod yX3_countFirstHeard).before A U = true := h.use (mw_5 (List.mem_of_getElem? (i := 149) rfl)) rfl
theorem cd_X3_countFirstHeard {U : State} (h : AllW U) {A : Array Value} : (Cond.code yX3_countFirstHeard cX3_countFirstHeard 4 (some FieldType.int)).before A U = true := h.use (mw_5 (List.mem_of_getElem? (i := 150) rfl)) rfl
theorem mn_X11_328 {U : State} (h : AllW U) {A : Array Value} : (Cond.methodLinkNest "ClapValley" 328 yX3_orderForThief "ClapValley").before A U = true := h.use (mw_5 (List.mem_of_getElem? (i := 151) rfl)) rfl
theorem im_X3_orderForThief {U : State} (h : AllW U) {A : Array Value} : (Cond.instanceMethod yX3_orderForThief).before A U = true := h.use (mw_5 (List.mem_of_getElem? (i := 153) rfl)) rfl
theorem cd_X3_orderForThief {U : State} (h : AllW U) {A : Array Value} : (Cond.code yX3_orderForThief cX3_orderForThief 11 none).before A U = true := h.use (mw_5 (List.mem_of_getElem? (i := 154) rfl)) rfl
theorem mn_X3_134 {U : State} (h : AllW U) {A : Array Value} : (Cond.methodLinkNest "ClapValley$Echoes" 134 yX11_distanceSquare "ClapValley").before A U = true := h.use (mw_5 (List.mem_of_getElem? (i := 155) rfl)) rfl
theorem ml_X3_138 {U : State} (h : AllW U) {A : Array Value} : (Cond.methodLink "ClapValley$Echoes" 138 yX3_thiefRoots).before A U = true := h.use (mw_5 (List.mem_of_getElem? (i := 156) rfl)) rfl
theorem st_X3_thiefRoots {U : State} (h : AllW U) {A : Array Value} : (Cond.static yX3_thiefRoots).before A U = true := h.use (mw_5 (List.mem_of_getElem? (i := 157) rfl)) rfl
theorem cd_X3_thiefRoots {U : State} (h : AllW U) {A : Array Value} : (Cond.code yX3_thiefRoots cX3_thiefRoots 8 (some FieldType.int)).before A U = true := h.use (mw_5 (List.mem_of_getElem? (i := 158) rfl)) rfl
theorem mn_X3_154 {U : State} (h : AllW U) {A : Array Value} : (Cond.methodLinkNest "ClapValley$Echoes" 154 yX9_footX "ClapValley").before A U = true := h.use (mw_5 (List.mem_of_getElem? (i := 159) rfl)) rfl
theorem mn_X3_159 {U : State} (h : AllW U) {A : Array Value} : (Cond.methodLinkNest "ClapValley$Echoes" 159 yX9_footY "ClapValley").before A U = true := h.use (mw_5 (List.mem_of_getElem? (i := 160) rfl)) rfl
theorem ml_X11_332 {U : State} (h : AllW U) {A : Array Value} : (Cond.methodLink "ClapValley" 332 yX11_sameStart).before A U = true := h.use (mw_5 (List.mem_of_getElem? (i := 161) rfl)) rfl
theorem ml_L_145 {U : State} (h : AllW U) {A : Array Value} : (Cond.methodLink "ClapValleyLaw" 145 yL_word).before A U = true := h.use (mw_5 (List.mem_of_getElem? (i := 162) rfl)) rfl
theorem st_L_word {U : State} (h : AllW U) {A : Array Value} : (Cond.static yL_word).before A U = true := h.use (mw_5 (List.mem_of_getElem? (i := 163) rfl)) rfl
theorem cw_L_word {U : State} (h : AllW U) {A : Array Value} : (Cond.codeWith yL_word method_18_code 7 (some FieldType.int) [(0, 14, 17, 13)]).before A U = true := h.use (mw_5 (List.mem_of_getElem? (i := 164) rfl)) rfl
theorem ml_L_65 {U : State} (h : AllW U) {A : Array Value} : (Cond.methodLink "ClapValleyLaw" 65 yX11_word).before A U = true := h.use (mw_5 (List.mem_of_getElem? (i := 165) rfl)) rfl
theorem im_X11_word {U : State} (h : AllW U) {A : Array Value} : (Cond.instanceMethod yX11_word).before A U = true := h.use (mw_5 (List.mem_of_getElem? (i := 166) rfl)) rfl
theorem sl_X11_word {U : State} (h : AllW U) {A : Array Value} : (Cond.selects "ClapValley" yX11_word yX11_word).before A U = true := h.use (mw_5 (List.mem_of_getElem? (i := 167) rfl)) rfl
theorem cd_X11_word {U : State} (h : AllW U) {A : Array Value} : (Cond.code yX11_word cX11_word 11 (some FieldType.int)).before A U = true := h.use (mw_5 (List.mem_of_getElem? (i := 168) rfl)) rfl
theorem mn_X11_336 {U : State} (h : AllW U) {A : Array Value} : (Cond.methodLinkNest "ClapValley" 336 yX4_hidersBetween "ClapValley").before A U = true := h.use (mw_5 (List.mem_of_getElem? (i := 169) rfl)) rfl
theorem mn_X11_340 {U : State} (h : AllW U) {A : Array Value} : (Cond.methodLinkNest "ClapValley" 340 yX4_strengthAlong "ClapValley").before A U = true := h.use (mw_5 (List.mem_of_getElem? (i := 170) rfl)) rfl
theorem cl_L_69 {U : State} (h : AllW U) {A : Array Value} : (Cond.classLink "ClapValleyLaw" 69 "ClapValleyModel").before A U = true := h.use (mw_5 (List.mem_of_getElem? (i := 171) rfl)) rfl
theorem inst_X12 {U : State} (h : AllW U) {A : Array Value} : (Cond.instantiable "ClapValleyModel" 58).before A U = true := h.use (mw_5 (List.mem_of_getElem? (i := 172) rfl)) rfl
theorem ml_L_71 {U : State} (h : AllW U) {A : Array Value} : (Cond.methodLink "ClapValleyLaw" 71 yX12_init).before A U = true := h.use (mw_5 (List.mem_of_getElem? (i := 173) rfl)) rfl
theorem im_X12_init {U : State} (h : AllW U) {A : Array Value} : (Cond.instanceMethod yX12_init).before A U = true := h.use (mw_5 (List.mem_of_getElem? (i := 174) rfl)) rfl
theorem cd_X12_init {U : State} (h : AllW U) {A : Array Value} : (Cond.code yX12_init cX12_init 2 none).before A U = true := h.use (mw_5 (List.mem_of_getElem? (i := 175) rfl)) rfl
theorem ml_X12_1 {U : State} (h : AllW U) {A : Array Value} : (Cond.methodLink "ClapValleyModel" 1 ({ cls := "java/lang/Object", name := "<init>", desc := "()V" } : Jvm.MethodName)).before A U = true := h.use (mw_5 (List.mem_of_getElem? (i := 176) rfl)) rfl
theorem cl_X12_7 {U : State} (h : AllW U) {A : Array Value} : (Cond.classLink "ClapValleyModel" 7 "java/lang/String").before A U = true := h.use (mw_5 (List.mem_of_getElem? (i := 177) rfl)) rfl
theorem ao_object_java_lang_String {U : State} (h : AllW U) {A : Array Value} : (Cond.arrayOver (FieldType.object "java/lang/String")).before A U = true := h.use (mw_5 (List.mem_of_getElem? (i := 178) rfl)) rfl
theorem kc_X12_103 {U : State} (h : AllW U) {A : Array Value} : (Cond.constant "ClapValleyModel" 103 (100000 : Int32)).before A U = true := h.use (mw_5 (List.mem_of_getElem? (i := 185) rfl)) rfl
theorem ml_X12_143 {U : State} (h : AllW U) {A : Array Value} : (Cond.methodLink "ClapValleyModel" 143 yX12_atFirst).before A U = true := h.use (mw_5 (List.mem_of_getElem? (i := 186) rfl)) rfl
theorem im_X12_atFirst {U : State} (h : AllW U) {A : Array Value} : (Cond.instanceMethod yX12_atFirst).before A U = true := h.use (mw_5 (List.mem_of_getElem? (i := 188) rfl)) rfl
theorem cd_X12_atFirst {U : State} (h : AllW U) {A : Array Value} : (Cond.code yX12_atFirst cX12_atFirst 2 none).before A U = true := h.use (mw_5 (List.mem_of_getElem? (i := 189) rfl)) rfl
theorem fl_X12_21 {U : State} (h : AllW U) {A : Array Value} : (Cond.fieldLink "ClapValleyModel" 21 "ClapValleyModel" "words" "[Ljava/lang/String;").before A U = true := h.use (mw_5 (List.mem_of_getElem? (i := 190) rfl)) rfl
theorem fl_X12_147 {U : State} (h : AllW U) {A : Array Value} : (Cond.fieldLink "ClapValleyModel" 147 "ClapValleyModel" "code" "I").before A U = true := h.use (mw_5 (List.mem_of_getElem? (i := 191) rfl)) rfl
theorem fl_X12_27 {U : State} (h : AllW U) {A : Array Value} : (Cond.fieldLink "ClapValleyModel" 27 "ClapValleyModel" "walls" "[I").before A U = true := h.use (mw_5 (List.mem_of_getElem? (i := 192) rfl)) rfl
theorem fl_X12_31 {U : State} (h : AllW U) {A : Array Value} : (Cond.fieldLink "ClapValleyModel" 31 "ClapValleyModel" "barns" "[I").before A U = true := h.use (mw_5 (List.mem_of_getElem? (i := 193) rfl)) rfl
theorem fl_X12_34 {U : State} (h : AllW U) {A : Array Value} : (Cond.fieldLink "ClapValleyModel" 34 "ClapValleyModel" "woods" "[I").before A U = true := h.use (mw_5 (List.mem_of_getElem? (i := 194) rfl)) rfl
theorem fl_X12_37 {U : State} (h : AllW U) {A : Array Value} : (Cond.fieldLink "ClapValleyModel" 37 "ClapValleyModel" "hears" "[I").before A U = true := h.use (mw_5 (List.mem_of_getElem? (i := 195) rfl)) rfl
theorem fl_X12_39 {U : State} (h : AllW U) {A : Array Value} : (Cond.fieldLink "ClapValleyModel" 39 "ClapValleyModel" "air" "[I").before A U = true := h.use (mw_5 (List.mem_of_getElem? (i := 196) rfl)) rfl
theorem fl_X12_41 {U : State} (h : AllW U) {A : Array Value} : (Cond.fieldLink "ClapValleyModel" 41 "ClapValleyModel" "wall" "[I").before A U = true := h.use (mw_5 (List.mem_of_getElem? (i := 197) rfl)) rfl
theorem fl_X12_44 {U : State} (h : AllW U) {A : Array Value} : (Cond.fieldLink "ClapValleyModel" 44 "ClapValleyModel" "barn" "[I").before A U = true := h.use (mw_5 (List.mem_of_getElem? (i := 198) rfl)) rfl
theorem fl_X12_46 {U : State} (h : AllW U) {A : Array Value} : (Cond.fieldLink "ClapValleyModel" 46 "ClapValleyModel" "wood" "[I").before A U = true := h.use (mw_5 (List.mem_of_getElem? (i := 199) rfl)) rfl
theorem fl_X12_48 {U : State} (h : AllW U) {A : Array Value} : (Cond.fieldLink "ClapValleyModel" 48 "ClapValleyModel" "status" "[I").before A U = true := h.use (mw_5 (List.mem_of_getElem? (i := 200) rfl)) rfl
theorem fl_X12_51 {U : State} (h : AllW U) {A : Array Value} : (Cond.fieldLink "ClapValleyModel" 51 "ClapValleyModel" "tape" "[I").before A U = true := h.use (mw_5 (List.mem_of_getElem? (i := 201) rfl)) rfl
theorem fl_X12_154 {U : State} (h : AllW U) {A : Array Value} : (Cond.fieldLink "ClapValleyModel" 154 "ClapValleyModel" "taped" "I").before A U = true := h.use (mw_5 (List.mem_of_getElem? (i := 202) rfl)) rfl
theorem fl_X12_160 {U : State} (h : AllW U) {A : Array Value} : (Cond.fieldLink "ClapValleyModel" 160 "ClapValleyModel" "at" "I").before A U = true := h.use (mw_5 (List.mem_of_getElem? (i := 203) rfl)) rfl
theorem fl_X12_157 {U : State} (h : AllW U) {A : Array Value} : (Cond.fieldLink "ClapValleyModel" 157 "ClapValleyModel" "size" "I").before A U = true := h.use (mw_5 (List.mem_of_getElem? (i := 204) rfl)) rfl
theorem fl_X12_170 {U : State} (h : AllW U) {A : Array Value} : (Cond.fieldLink "ClapValleyModel" 170 "ClapValleyModel" "token" "I").before A U = true := h.use (mw_5 (List.mem_of_getElem? (i := 205) rfl)) rfl
theorem fl_X12_180 {U : State} (h : AllW U) {A : Array Value} : (Cond.fieldLink "ClapValleyModel" 180 "ClapValleyModel" "number" "I").before A U = true := h.use (mw_5 (List.mem_of_getElem? (i := 206) rfl)) rfl
theorem fl_X12_167 {U : State} (h : AllW U) {A : Array Value} : (Cond.fieldLink "ClapValleyModel" 167 "ClapValleyModel" "begins" "I").before A U = true := h.use (mw_5 (List.mem_of_getElem? (i := 207) rfl)) rfl
theorem fl_X12_189 {U : State} (h : AllW U) {A : Array Value} : (Cond.fieldLink "ClapValleyModel" 189 "ClapValleyModel" "ends" "I").before A U = true := h.use (mw_5 (List.mem_of_getElem? (i := 208) rfl)) rfl
theorem fl_X12_192 {U : State} (h : AllW U) {A : Array Value} : (Cond.fieldLink "ClapValleyModel" 192 "ClapValleyModel" "bad" "I").before A U = true := h.use (mw_5 (List.mem_of_getElem? (i := 209) rfl)) rfl
theorem fl_X12_195 {U : State} (h : AllW U) {A : Array Value} : (Cond.fieldLink "ClapValleyModel" 195 "ClapValleyModel" "badPlace" "I").before A U = true := h.use (mw_5 (List.mem_of_getElem? (i := 210) rfl)) rfl
theorem fl_X12_54 {U : State} (h : AllW U) {A : Array Value} : (Cond.fieldLink "ClapValleyModel" 54 "ClapValleyModel" "faultPlace" "I").before A U = true := h.use (mw_5 (List.mem_of_getElem? (i := 211) rfl)) rfl
theorem fl_X12_58 {U : State} (h : AllW U) {A : Array Value} : (Cond.fieldLink "ClapValleyModel" 58 "ClapValleyModel" "strong" "[I").before A U = true := h.use (mw_5 (List.mem_of_getElem? (i := 212) rfl)) rfl
theorem fl_X12_61 {U : State} (h : AllW U) {A : Array Value} : (Cond.fieldLink "ClapValleyModel" 61 "ClapValleyModel" "square" "[I").before A U = true := h.use (mw_5 (List.mem_of_getElem? (i := 213) rfl)) rfl
theorem fl_X12_64 {U : State} (h : AllW U) {A : Array Value} : (Cond.fieldLink "ClapValleyModel" 64 "ClapValleyModel" "row" "[I").before A U = true := h.use (mw_5 (List.mem_of_getElem? (i := 214) rfl)) rfl
theorem fl_X12_67 {U : State} (h : AllW U) {A : Array Value} : (Cond.fieldLink "ClapValleyModel" 67 "ClapValleyModel" "otherRow" "[I").before A U = true := h.use (mw_5 (List.mem_of_getElem? (i := 215) rfl)) rfl
theorem fl_X12_313 {U : State} (h : AllW U) {A : Array Value} : (Cond.fieldLink "ClapValleyModel" 313 "ClapValleyModel" "rowMany" "I").before A U = true := h.use (mw_5 (List.mem_of_getElem? (i := 216) rfl)) rfl
theorem fl_X12_255 {U : State} (h : AllW U) {A : Array Value} : (Cond.fieldLink "ClapValleyModel" 255 "ClapValleyModel" "stations" "I").before A U = true := h.use (mw_5 (List.mem_of_getElem? (i := 217) rfl)) rfl
theorem fl_X12_258 {U : State} (h : AllW U) {A : Array Value} : (Cond.fieldLink "ClapValleyModel" 258 "ClapValleyModel" "spots" "I").before A U = true := h.use (mw_5 (List.mem_of_getElem? (i := 218) rfl)) rfl
theorem fl_X12_70 {U : State} (h : AllW U) {A : Array Value} : (Cond.fieldLink "ClapValleyModel" 70 "ClapValleyModel" "stationX" "[I").before A U = true := h.use (mw_5 (List.mem_of_getElem? (i := 219) rfl)) rfl
theorem fl_X12_73 {U : State} (h : AllW U) {A : Array Value} : (Cond.fieldLink "ClapValleyModel" 73 "ClapValleyModel" "stationY" "[I").before A U = true := h.use (mw_5 (List.mem_of_getElem? (i := 220) rfl)) rfl
theorem fl_X12_76 {U : State} (h : AllW U) {A : Array Value} : (Cond.fieldLink "ClapValleyModel" 76 "ClapValleyModel" "stationYear" "[I").before A U = true := h.use (mw_5 (List.mem_of_getElem? (i := 221) rfl)) rfl
theorem fl_X12_79 {U : State} (h : AllW U) {A : Array Value} : (Cond.fieldLink "ClapValleyModel" 79 "ClapValleyModel" "stationTone" "[I").before A U = true := h.use (mw_5 (List.mem_of_getElem? (i := 222) rfl)) rfl
theorem fl_X12_82 {U : State} (h : AllW U) {A : Array Value} : (Cond.fieldLink "ClapValleyModel" 82 "ClapValleyModel" "ticks" "[I").before A U = true := h.use (mw_5 (List.mem_of_getElem? (i := 223) rfl)) rfl
theorem fl_X12_85 {U : State} (h : AllW U) {A : Array Value} : (Cond.fieldLink "ClapValleyModel" 85 "ClapValleyModel" "tick" "[I").before A U = true := h.use (mw_5 (List.mem_of_getElem? (i := 224) rfl)) rfl
theorem fl_X12_88 {U : State} (h : AllW U) {A : Array Value} : (Cond.fieldLink "ClapValleyModel" 88 "ClapValleyModel" "inOrder" "[I").before A U = true := h.use (mw_5 (List.mem_of_getElem? (i := 225) rfl)) rfl
theorem fl_X12_91 {U : State} (h : AllW U) {A : Array Value} : (Cond.fieldLink "ClapValleyModel" 91 "ClapValleyModel" "spotX" "[I").before A U = true := h.use (mw_5 (List.mem_of_getElem? (i := 226) rfl)) rfl
theorem fl_X12_94 {U : State} (h : AllW U) {A : Array Value} : (Cond.fieldLink "ClapValleyModel" 94 "ClapValleyModel" "spotY" "[I").before A U = true := h.use (mw_5 (List.mem_of_getElem? (i := 227) rfl)) rfl
theorem fl_X12_97 {U : State} (h : AllW U) {A : Array Value} : (Cond.fieldLink "ClapValleyModel" 97 "ClapValleyModel" "lineTick" "[I").before A U = true := h.use (mw_5 (List.mem_of_getElem? (i := 228) rfl)) rfl
theorem fl_X12_100 {U : State} (h : AllW U) {A : Array Value} : (Cond.fieldLink "ClapValleyModel" 100 "ClapValleyModel" "planStations" "[I").before A U = true := h.use (mw_5 (List.mem_of_getElem? (i := 229) rfl)) rfl
theorem fl_X12_104 {U : State} (h : AllW U) {A : Array Value} : (Cond.fieldLink "ClapValleyModel" 104 "ClapValleyModel" "found" "[I").before A U = true := h.use (mw_5 (List.mem_of_getElem? (i := 230) rfl)) rfl
theorem fl_X12_360 {U : State} (h : AllW U) {A : Array Value} : (Cond.fieldLink "ClapValleyModel" 360 "ClapValleyModel" "planMany" "I").before A U = true := h.use (mw_5 (List.mem_of_getElem? (i := 231) rfl)) rfl
theorem fl_X12_366 {U : State} (h : AllW U) {A : Array Value} : (Cond.fieldLink "ClapValleyModel" 366 "ClapValleyModel" "planSeen" "I").before A U = true := h.use (mw_5 (List.mem_of_getElem? (i := 232) rfl)) rfl
theorem fl_X12_107 {U : State} (h : AllW U) {A : Array Value} : (Cond.fieldLink "ClapValleyModel" 107 "ClapValleyModel" "like" "[I").before A U = true := h.use (mw_5 (List.mem_of_getElem? (i := 233) rfl)) rfl
theorem fl_X12_110 {U : State} (h : AllW U) {A : Array Value} : (Cond.fieldLink "ClapValleyModel" 110 "ClapValleyModel" "claps" "[I").before A U = true := h.use (mw_5 (List.mem_of_getElem? (i := 234) rfl)) rfl
theorem fl_X12_392 {U : State} (h : AllW U) {A : Array Value} : (Cond.fieldLink "ClapValleyModel" 392 "ClapValleyModel" "hasImage" "Z").before A U = true := h.use (mw_5 (List.mem_of_getElem? (i := 235) rfl)) rfl
theorem fl_X12_396 {U : State} (h : AllW U) {A : Array Value} : (Cond.fieldLink "ClapValleyModel" 396 "ClapValleyModel" "stationsThen" "I").before A U = true := h.use (mw_5 (List.mem_of_getElem? (i := 236) rfl)) rfl
theorem fl_X12_399 {U : State} (h : AllW U) {A : Array Value} : (Cond.fieldLink "ClapValleyModel" 399 "ClapValleyModel" "spotsThen" "I").before A U = true := h.use (mw_5 (List.mem_of_getElem? (i := 237) rfl)) rfl
theorem fl_X12_113 {U : State} (h : AllW U) {A : Array Value} : (Cond.fieldLink "ClapValleyModel" 113 "ClapValleyModel" "xThen" "[I").before A U = true := h.use (mw_5 (List.mem_of_getElem? (i := 238) rfl)) rfl
theorem fl_X12_116 {U : State} (h : AllW U) {A : Array Value} : (Cond.fieldLink "ClapValleyModel" 116 "ClapValleyModel" "yThen" "[I").before A U = true := h.use (mw_5 (List.mem_of_getElem? (i := 239) rfl)) rfl
theorem fl_X12_119 {U : State} (h : AllW U) {A : Array Value} : (Cond.fieldLink "ClapValleyModel" 119 "ClapValleyModel" "yearThen" "[I").before A U = true := h.use (mw_6 (List.mem_of_getElem? (i := 0) rfl)) rfl
theorem fl_X12_122 {U : State} (h : AllW U) {A : Array Value} : (Cond.fieldLink "ClapValleyModel" 122 "ClapValleyModel" "toneThen" "[I").before A U = true := h.use (mw_6 (List.mem_of_getElem? (i := 1) rfl)) rfl
theorem fl_X12_125 {U : State} (h : AllW U) {A : Array Value} : (Cond.fieldLink "ClapValleyModel" 125 "ClapValleyModel" "ticksThen" "[I").before A U = true := h.use (mw_6 (List.mem_of_getElem? (i := 2) rfl)) rfl
theorem fl_X12_128 {U : State} (h : AllW U) {A : Array Value} : (Cond.fieldLink "ClapValleyModel" 128 "ClapValleyModel" "tickThen" "[I").before A U = true := h.use (mw_6 (List.mem_of_getElem? (i := 3) rfl)) rfl
theorem fl_X12_131 {U : State} (h : AllW U) {A : Array Value} : (Cond.fieldLink "ClapValleyModel" 131 "ClapValleyModel" "orderThen" "[I").before A U = true := h.use (mw_6 (List.mem_of_getElem? (i := 4) rfl)) rfl
theorem fl_X12_134 {U : State} (h : AllW U) {A : Array Value} : (Cond.fieldLink "ClapValleyModel" 134 "ClapValleyModel" "spotXThen" "[I").before A U = true := h.use (mw_6 (List.mem_of_getElem? (i := 5) rfl)) rfl
theorem fl_X12_137 {U : State} (h : AllW U) {A : Array Value} : (Cond.fieldLink "ClapValleyModel" 137 "ClapValleyModel" "spotYThen" "[I").before A U = true := h.use (mw_6 (List.mem_of_getElem? (i := 6) rfl)) rfl
theorem fl_X12_140 {U : State} (h : AllW U) {A : Array Value} : (Cond.fieldLink "ClapValleyModel" 140 "ClapValleyModel" "statusThen" "[I").before A U = true := h.use (mw_6 (List.mem_of_getElem? (i := 7) rfl)) rfl
theorem ml_L_82 {U : State} (h : AllW U) {A : Array Value} : (Cond.methodLink "ClapValleyLaw" 82 yX12_thrown).before A U = true := h.use (mw_6 (List.mem_of_getElem? (i := 125) rfl)) rfl
theorem im_X12_thrown {U : State} (h : AllW U) {A : Array Value} : (Cond.instanceMethod yX12_thrown).before A U = true := h.use (mw_6 (List.mem_of_getElem? (i := 126) rfl)) rfl
theorem sl_X12_thrown {U : State} (h : AllW U) {A : Array Value} : (Cond.selects "ClapValleyModel" yX12_thrown yX12_thrown).before A U = true := h.use (mw_6 (List.mem_of_getElem? (i := 127) rfl)) rfl
theorem cd_X12_thrown {U : State} (h : AllW U) {A : Array Value} : (Cond.code yX12_thrown cX12_thrown 1 (some FieldType.int)).before A U = true := h.use (mw_6 (List.mem_of_getElem? (i := 128) rfl)) rfl
theorem ml_L_75 {U : State} (h : AllW U) {A : Array Value} : (Cond.methodLink "ClapValleyLaw" 75 yX12_feed).before A U = true := h.use (mw_6 (List.mem_of_getElem? (i := 129) rfl)) rfl
theorem im_X12_feed {U : State} (h : AllW U) {A : Array Value} : (Cond.instanceMethod yX12_feed).before A U = true := h.use (mw_6 (List.mem_of_getElem? (i := 130) rfl)) rfl
theorem sl_X12_feed {U : State} (h : AllW U) {A : Array Value} : (Cond.selects "ClapValleyModel" yX12_feed yX12_feed).before A U = true := h.use (mw_6 (List.mem_of_getElem? (i := 131) rfl)) rfl
theorem cd_X12_feed {U : State} (h : AllW U) {A : Array Value} : (Cond.code yX12_feed cX12_feed 8 (some FieldType.int)).before A U = true := h.use (mw_6 (List.mem_of_getElem? (i := 132) rfl)) rfl
theorem ml_L_81 {U : State} (h : AllW U) {A : Array Value} : (Cond.methodLink "ClapValleyLaw" 81 yX12_land).before A U = true := h.use (mw_6 (List.mem_of_getElem? (i := 133) rfl)) rfl
theorem im_X12_land {U : State} (h : AllW U) {A : Array Value} : (Cond.instanceMethod yX12_land).before A U = true := h.use (mw_6 (List.mem_of_getElem? (i := 134) rfl)) rfl
theorem sl_X12_land {U : State} (h : AllW U) {A : Array Value} : (Cond.selects "ClapValleyModel" yX12_land yX12_land).before A U = true := h.use (mw_6 (List.mem_of_getElem? (i := 135) rfl)) rfl
theorem cd_X12_land {U : State} (h : AllW U) {A : Array Value} : (Cond.code yX12_land cX12_land 5 (some FieldType.int)).before A U = true := h.use (mw_6 (List.mem_of_getElem? (i := 136) rfl)) rfl
theorem ml_X12_246 {U : State} (h : AllW U) {A : Array Value} : (Cond.methodLink "ClapValleyModel" 246 yX12_isLand).before A U = true := h.use (mw_6 (List.mem_of_getElem? (i := 137) rfl)) rfl
theorem st_X12_isLand {U : State} (h : AllW U) {A : Array Value} : (Cond.static yX12_isLand).before A U = true := h.use (mw_6 (List.mem_of_getElem? (i := 138) rfl)) rfl
theorem cd_X12_isLand {U : State} (h : AllW U) {A : Array Value} : (Cond.code yX12_isLand cX12_isLand 1 (some FieldType.boolean)).before A U = true := h.use (mw_6 (List.mem_of_getElem? (i := 139) rfl)) rfl
theorem ml_X12_150 {U : State} (h : AllW U) {A : Array Value} : (Cond.methodLink "ClapValleyModel" 150 yX12_isIn).before A U = true := h.use (mw_6 (List.mem_of_getElem? (i := 140) rfl)) rfl
theorem st_X12_isIn {U : State} (h : AllW U) {A : Array Value} : (Cond.static yX12_isIn).before A U = true := h.use (mw_6 (List.mem_of_getElem? (i := 141) rfl)) rfl
theorem cd_X12_isIn {U : State} (h : AllW U) {A : Array Value} : (Cond.code yX12_isIn cX12_isIn 3 (some FieldType.boolean)).before A U = true := h.use (mw_6 (List.mem_of_getElem? (i := 142) rfl)) rfl
theorem ml_X12_249 {U : State} (h : AllW U) {A : Array Value} : (Cond.methodLink "ClapValleyModel" 249 yX12_fail).before A U = true := h.use (mw_6 (List.mem_of_getElem? (i := 143) rfl)) rfl
theorem im_X12_fail {U : State} (h : AllW U) {A : Array Value} : (Cond.instanceMethod yX12_fail).before A U = true := h.use (mw_6 (List.mem_of_getElem? (i := 145) rfl)) rfl
theorem cd_X12_fail {U : State} (h : AllW U) {A : Array Value} : (Cond.code yX12_fail cX12_fail 2 (some FieldType.int)).before A U = true := h.use (mw_6 (List.mem_of_getElem? (i := 146) rfl)) rfl
theorem ml_X12_210 {U : State} (h : AllW U) {A : Array Value} : (Cond.methodLink "ClapValleyModel" 210 yX12_stepOn).before A U = true := h.use (mw_6 (List.mem_of_getElem? (i := 147) rfl)) rfl
theorem im_X12_stepOn {U : State} (h : AllW U) {A : Array Value} : (Cond.instanceMethod yX12_stepOn).before A U = true := h.use (mw_6 (List.mem_of_getElem? (i := 149) rfl)) rfl
theorem cd_X12_stepOn {U : State} (h : AllW U) {A : Array Value} : (Cond.code yX12_stepOn cX12_stepOn 2 none).before A U = true := h.use (mw_6 (List.mem_of_getElem? (i := 150) rfl)) rfl
theorem ml_X12_163 {U : State} (h : AllW U) {A : Array Value} : (Cond.methodLink "ClapValleyModel" 163 yX12_byteAt).before A U = true := h.use (mw_6 (List.mem_of_getElem? (i := 151) rfl)) rfl
theorem im_X12_byteAt {U : State} (h : AllW U) {A : Array Value} : (Cond.instanceMethod yX12_byteAt).before A U = true := h.use (mw_6 (List.mem_of_getElem? (i := 153) rfl)) rfl
theorem cd_X12_byteAt {U : State} (h : AllW U) {A : Array Value} : (Cond.code yX12_byteAt cX12_byteAt 2 (some FieldType.int)).before A U = true := h.use (mw_6 (List.mem_of_getElem? (i := 154) rfl)) rfl
theorem ml_X12_173 {U : State} (h : AllW U) {A : Array Value} : (Cond.methodLink "ClapValleyModel" 173 yX12_isLetter).before A U = true := h.use (mw_6 (List.mem_of_getElem? (i := 155) rfl)) rfl
theorem st_X12_isLetter {U : State} (h : AllW U) {A : Array Value} : (Cond.static yX12_isLetter).before A U = true := h.use (mw_6 (List.mem_of_getElem? (i := 156) rfl)) rfl
theorem cd_X12_isLetter {U : State} (h : AllW U) {A : Array Value} : (Cond.code yX12_isLetter cX12_isLetter 1 (some FieldType.boolean)).before A U = true := h.use (mw_6 (List.mem_of_getElem? (i := 157) rfl)) rfl
theorem ml_X12_177 {U : State} (h : AllW U) {A : Array Value} : (Cond.methodLink "ClapValleyModel" 177 yX12_isDigit).before A U = true := h.use (mw_6 (List.mem_of_getElem? (i := 158) rfl)) rfl
theorem st_X12_isDigit {U : State} (h : AllW U) {A : Array Value} : (Cond.static yX12_isDigit).before A U = true := h.use (mw_6 (List.mem_of_getElem? (i := 159) rfl)) rfl
theorem cd_X12_isDigit {U : State} (h : AllW U) {A : Array Value} : (Cond.code yX12_isDigit cX12_isDigit 1 (some FieldType.boolean)).before A U = true := h.use (mw_6 (List.mem_of_getElem? (i := 160) rfl)) rfl
theorem ml_X12_183 {U : State} (h : AllW U) {A : Array Value} : (Cond.methodLink "ClapValleyModel" 183 yJ9_min_7cf53).before A U = true := h.use (mw_6 (List.mem_of_getElem? (i := 161) rfl)) rfl
theorem ml_X12_252 {U : State} (h : AllW U) {A : Array Value} : (Cond.methodLink "ClapValleyModel" 252 yX12_readLine).before A U = true := h.use (mw_6 (List.mem_of_getElem? (i := 162) rfl)) rfl
theorem im_X12_readLine {U : State} (h : AllW U) {A : Array Value} : (Cond.instanceMethod yX12_readLine).before A U = true := h.use (mw_6 (List.mem_of_getElem? (i := 164) rfl)) rfl
theorem cd_X12_readLine {U : State} (h : AllW U) {A : Array Value} : (Cond.code yX12_readLine cX12_readLine 3 (some FieldType.int)).before A U = true := h.use (mw_6 (List.mem_of_getElem? (i := 165) rfl)) rfl
theorem ml_X12_231 {U : State} (h : AllW U) {A : Array Value} : (Cond.methodLink "ClapValleyModel" 231 yX12_which).before A U = true := h.use (mw_6 (List.mem_of_getElem? (i := 166) rfl)) rfl
theorem im_X12_which {U : State} (h : AllW U) {A : Array Value} : (Cond.instanceMethod yX12_which).before A U = true := h.use (mw_6 (List.mem_of_getElem? (i := 168) rfl)) rfl
theorem cd_X12_which {U : State} (h : AllW U) {A : Array Value} : (Cond.code yX12_which cX12_which 2 (some FieldType.int)).before A U = true := h.use (mw_6 (List.mem_of_getElem? (i := 169) rfl)) rfl
theorem ml_X12_206 {U : State} (h : AllW U) {A : Array Value} : (Cond.methodLink "ClapValleyModel" 206 yX12_is).before A U = true := h.use (mw_6 (List.mem_of_getElem? (i := 170) rfl)) rfl
theorem im_X12_is {U : State} (h : AllW U) {A : Array Value} : (Cond.instanceMethod yX12_is).before A U = true := h.use (mw_6 (List.mem_of_getElem? (i := 172) rfl)) rfl
theorem cd_X12_is {U : State} (h : AllW U) {A : Array Value} : (Cond.code yX12_is cX12_is 4 (some FieldType.boolean)).before A U = true := h.use (mw_6 (List.mem_of_getElem? (i := 173) rfl)) rfl
theorem ml_X12_198 {U : State} (h : AllW U) {A : Array Value} : (Cond.methodLink "ClapValleyModel" 198 yJ0_length_8abf5).before A U = true := h.use (mw_6 (List.mem_of_getElem? (i := 174) rfl)) rfl
theorem ml_X12_202 {U : State} (h : AllW U) {A : Array Value} : (Cond.methodLink "ClapValleyModel" 202 yJ0_charAt_5068e).before A U = true := h.use (mw_6 (List.mem_of_getElem? (i := 175) rfl)) rfl
theorem ml_X12_213 {U : State} (h : AllW U) {A : Array Value} : (Cond.methodLink "ClapValleyModel" 213 yX12_wrong).before A U = true := h.use (mw_6 (List.mem_of_getElem? (i := 176) rfl)) rfl
theorem im_X12_wrong {U : State} (h : AllW U) {A : Array Value} : (Cond.instanceMethod yX12_wrong).before A U = true := h.use (mw_6 (List.mem_of_getElem? (i := 178) rfl)) rfl
theorem cd_X12_wrong {U : State} (h : AllW U) {A : Array Value} : (Cond.code yX12_wrong cX12_wrong 2 none).before A U = true := h.use (mw_6 (List.mem_of_getElem? (i := 179) rfl)) rfl
theorem ml_X12_234 {U : State} (h : AllW U) {A : Array Value} : (Cond.methodLink "ClapValleyModel" 234 yX12_readWall).before A U = true := h.use (mw_6 (List.mem_of_getElem? (i := 180) rfl)) rfl
theorem im_X12_readWall {U : State} (h : AllW U) {A : Array Value} : (Cond.instanceMethod yX12_readWall).before A U = true := h.use (mw_6 (List.mem_of_getElem? (i := 182) rfl)) rfl
theorem cd_X12_readWall {U : State} (h : AllW U) {A : Array Value} : (Cond.code yX12_readWall cX12_readWall 3 none).before A U = true := h.use (mw_6 (List.mem_of_getElem? (i := 183) rfl)) rfl
theorem ml_X12_219 {U : State} (h : AllW U) {A : Array Value} : (Cond.methodLink "ClapValleyModel" 219 yX12_readNumber).before A U = true := h.use (mw_6 (List.mem_of_getElem? (i := 184) rfl)) rfl
theorem im_X12_readNumber {U : State} (h : AllW U) {A : Array Value} : (Cond.instanceMethod yX12_readNumber).before A U = true := h.use (mw_6 (List.mem_of_getElem? (i := 186) rfl)) rfl
theorem cd_X12_readNumber {U : State} (h : AllW U) {A : Array Value} : (Cond.code yX12_readNumber cX12_readNumber 5 (some FieldType.int)).before A U = true := h.use (mw_6 (List.mem_of_getElem? (i := 187) rfl)) rfl
theorem ml_X12_225 {U : State} (h : AllW U) {A : Array Value} : (Cond.methodLink "ClapValleyModel" 225 yX12_perhaps).before A U = true := h.use (mw_6 (List.mem_of_getElem? (i := 189) rfl)) rfl
theorem im_X12_perhaps {U : State} (h : AllW U) {A : Array Value} : (Cond.instanceMethod yX12_perhaps).before A U = true := h.use (mw_6 (List.mem_of_getElem? (i := 191) rfl)) rfl
theorem cd_X12_perhaps {U : State} (h : AllW U) {A : Array Value} : (Cond.code yX12_perhaps cX12_perhaps 3 (some FieldType.int)).before A U = true := h.use (mw_6 (List.mem_of_getElem? (i := 192) rfl)) rfl
theorem ml_X12_216 {U : State} (h : AllW U) {A : Array Value} : (Cond.methodLink "ClapValleyModel" 216 yX12_passes).before A U = true := h.use (mw_6 (List.mem_of_getElem? (i := 193) rfl)) rfl
theorem im_X12_passes {U : State} (h : AllW U) {A : Array Value} : (Cond.instanceMethod yX12_passes).before A U = true := h.use (mw_6 (List.mem_of_getElem? (i := 195) rfl)) rfl
theorem cd_X12_passes {U : State} (h : AllW U) {A : Array Value} : (Cond.code yX12_passes cX12_passes 3 (some FieldType.boolean)).before A U = true := h.use (mw_6 (List.mem_of_getElem? (i := 196) rfl)) rfl
theorem ml_X12_237 {U : State} (h : AllW U) {A : Array Value} : (Cond.methodLink "ClapValleyModel" 237 yX12_readBarn).before A U = true := h.use (mw_6 (List.mem_of_getElem? (i := 197) rfl)) rfl
theorem im_X12_readBarn {U : State} (h : AllW U) {A : Array Value} : (Cond.instanceMethod yX12_readBarn).before A U = true := h.use (mw_6 (List.mem_of_getElem? (i := 199) rfl)) rfl
theorem cd_X12_readBarn {U : State} (h : AllW U) {A : Array Value} : (Cond.code yX12_readBarn cX12_readBarn 2 none).before A U = true := h.use (mw_6 (List.mem_of_getElem? (i := 200) rfl)) rfl
theorem ml_X12_240 {U : State} (h : AllW U) {A : Array Value} : (Cond.methodLink "ClapValleyModel" 240 yX12_readWood).before A U = true := h.use (mw_6 (List.mem_of_getElem? (i := 202) rfl)) rfl
theorem im_X12_readWood {U : State} (h : AllW U) {A : Array Value} : (Cond.instanceMethod yX12_readWood).before A U = true := h.use (mw_6 (List.mem_of_getElem? (i := 204) rfl)) rfl
theorem cd_X12_readWood {U : State} (h : AllW U) {A : Array Value} : (Cond.code yX12_readWood cX12_readWood 3 none).before A U = true := h.use (mw_6 (List.mem_of_getElem? (i := 205) rfl)) rfl
theorem ml_X12_243 {U : State} (h : AllW U) {A : Array Value} : (Cond.methodLink "ClapValleyModel" 243 yX12_semi).before A U = true := h.use (mw_6 (List.mem_of_getElem? (i := 206) rfl)) rfl
theorem im_X12_semi {U : State} (h : AllW U) {A : Array Value} : (Cond.instanceMethod yX12_semi).before A U = true := h.use (mw_6 (List.mem_of_getElem? (i := 208) rfl)) rfl
theorem cd_X12_semi {U : State} (h : AllW U) {A : Array Value} : (Cond.code yX12_semi cX12_semi 1 none).before A U = true := h.use (mw_6 (List.mem_of_getElem? (i := 209) rfl)) rfl
theorem ml_L_89 {U : State} (h : AllW U) {A : Array Value} : (Cond.methodLink "ClapValleyLaw" 89 yX12_fault).before A U = true := h.use (mw_6 (List.mem_of_getElem? (i := 210) rfl)) rfl
theorem im_X12_fault {U : State} (h : AllW U) {A : Array Value} : (Cond.instanceMethod yX12_fault).before A U = true := h.use (mw_6 (List.mem_of_getElem? (i := 211) rfl)) rfl
theorem sl_X12_fault {U : State} (h : AllW U) {A : Array Value} : (Cond.selects "ClapValleyModel" yX12_fault yX12_fault).before A U = true := h.use (mw_6 (List.mem_of_getElem? (i := 212) rfl)) rfl
theorem cd_X12_fault {U : State} (h : AllW U) {A : Array Value} : (Cond.code yX12_fault cX12_fault 1 (some FieldType.int)).before A U = true := h.use (mw_6 (List.mem_of_getElem? (i := 213) rfl)) rfl
theorem ml_L_93 {U : State} (h : AllW U) {A : Array Value} : (Cond.methodLink "ClapValleyLaw" 93 yX12_count).before A U = true := h.use (mw_6 (List.mem_of_getElem? (i := 214) rfl)) rfl
theorem im_X12_count {U : State} (h : AllW U) {A : Array Value} : (Cond.instanceMethod yX12_count).before A U = true := h.use (mw_6 (List.mem_of_getElem? (i := 215) rfl)) rfl
theorem sl_X12_count {U : State} (h : AllW U) {A : Array Value} : (Cond.selects "ClapValleyModel" yX12_count yX12_count).before A U = true := h.use (mw_6 (List.mem_of_getElem? (i := 216) rfl)) rfl
theorem cd_X12_count {U : State} (h : AllW U) {A : Array Value} : (Cond.code yX12_count cX12_count 2 (some FieldType.int)).before A U = true := h.use (mw_6 (List.mem_of_getElem? (i := 217) rfl)) rfl
theorem ml_L_96 {U : State} (h : AllW U) {A : Array Value} : (Cond.methodLink "ClapValleyLaw" 96 yX12_about).before A U = true := h.use (mw_6 (List.mem_of_getElem? (i := 218) rfl)) rfl
theorem im_X12_about {U : State} (h : AllW U) {A : Array Value} : (Cond.instanceMethod yX12_about).before A U = true := h.use (mw_6 (List.mem_of_getElem? (i := 219) rfl)) rfl
theorem sl_X12_about {U : State} (h : AllW U) {A : Array Value} : (Cond.selects "ClapValleyModel" yX12_about yX12_about).before A U = true := h.use (mw_6 (List.mem_of_getElem? (i := 220) rfl)) rfl
theorem cd_X12_about {U : State} (h : AllW U) {A : Array Value} : (Cond.code yX12_about cX12_about 3 (some FieldType.int)).before A U = true := h.use (mw_6 (List.mem_of_getElem? (i := 221) rfl)) rfl
theorem ml_L_100 {U : State} (h : AllW U) {A : Array Value} : (Cond.methodLink "ClapValleyLaw" 100 yX12_clap).before A U = true := h.use (mw_6 (List.mem_of_getElem? (i := 222) rfl)) rfl
theorem im_X12_clap {U : State} (h : AllW U) {A : Array Value} : (Cond.instanceMethod yX12_clap).before A U = true := h.use (mw_6 (List.mem_of_getElem? (i := 223) rfl)) rfl
theorem sl_X12_clap {U : State} (h : AllW U) {A : Array Value} : (Cond.selects "ClapValleyModel" yX12_clap yX12_clap).before A U = true := h.use (mw_6 (List.mem_of_getElem? (i := 224) rfl)) rfl
theorem cd_X12_clap {U : State} (h : AllW U) {A : Array Value} : (Cond.code yX12_clap cX12_clap 7 (some FieldType.int)).before A U = true := h.use (mw_6 (List.mem_of_getElem? (i := 225) rfl)) rfl
theorem ml_X12_330 {U : State} (h : AllW U) {A : Array Value} : (Cond.methodLink "ClapValleyModel" 330 yX12_isPlace).before A U = true := h.use (mw_6 (List.mem_of_getElem? (i := 226) rfl)) rfl
theorem st_X12_isPlace {U : State} (h : AllW U) {A : Array Value} : (Cond.static yX12_isPlace).before A U = true := h.use (mw_6 (List.mem_of_getElem? (i := 227) rfl)) rfl
theorem cd_X12_isPlace {U : State} (h : AllW U) {A : Array Value} : (Cond.code yX12_isPlace cX12_isPlace 2 (some FieldType.boolean)).before A U = true := h.use (mw_6 (List.mem_of_getElem? (i := 228) rfl)) rfl
theorem ml_X12_333 {U : State} (h : AllW U) {A : Array Value} : (Cond.methodLink "ClapValleyModel" 333 yX12_isYear).before A U = true := h.use (mw_6 (List.mem_of_getElem? (i := 229) rfl)) rfl
theorem st_X12_isYear {U : State} (h : AllW U) {A : Array Value} : (Cond.static yX12_isYear).before A U = true := h.use (mw_6 (List.mem_of_getElem? (i := 230) rfl)) rfl
theorem cd_X12_isYear {U : State} (h : AllW U) {A : Array Value} : (Cond.code yX12_isYear cX12_isYear 1 (some FieldType.boolean)).before A U = true := h.use (mw_6 (List.mem_of_getElem? (i := 231) rfl)) rfl
theorem ml_X12_336 {U : State} (h : AllW U) {A : Array Value} : (Cond.methodLink "ClapValleyModel" 336 yX12_isTone).before A U = true := h.use (mw_6 (List.mem_of_getElem? (i := 232) rfl)) rfl
theorem st_X12_isTone {U : State} (h : AllW U) {A : Array Value} : (Cond.static yX12_isTone).before A U = true := h.use (mw_6 (List.mem_of_getElem? (i := 233) rfl)) rfl
theorem cd_X12_isTone {U : State} (h : AllW U) {A : Array Value} : (Cond.code yX12_isTone cX12_isTone 1 (some FieldType.boolean)).before A U = true := h.use (mw_6 (List.mem_of_getElem? (i := 234) rfl)) rfl
theorem ml_X12_339 {U : State} (h : AllW U) {A : Array Value} : (Cond.methodLink "ClapValleyModel" 339 yX12_tellRow).before A U = true := h.use (mw_6 (List.mem_of_getElem? (i := 235) rfl)) rfl
theorem im_X12_tellRow {U : State} (h : AllW U) {A : Array Value} : (Cond.instanceMethod yX12_tellRow).before A U = true := h.use (mw_6 (List.mem_of_getElem? (i := 237) rfl)) rfl
theorem cd_X12_tellRow {U : State} (h : AllW U) {A : Array Value} : (Cond.code yX12_tellRow cX12_tellRow 9 none).before A U = true := h.use (mw_6 (List.mem_of_getElem? (i := 238) rfl)) rfl
theorem ml_X12_316 {U : State} (h : AllW U) {A : Array Value} : (Cond.methodLink "ClapValleyModel" 316 yX12_tellEchoes).before A U = true := h.use (mw_6 (List.mem_of_getElem? (i := 239) rfl)) rfl
theorem im_X12_tellEchoes {U : State} (h : AllW U) {A : Array Value} : (Cond.instanceMethod yX12_tellEchoes).before A U = true := h.use (mw_7 (List.mem_of_getElem? (i := 1) rfl)) rfl
theorem cd_X12_tellEchoes {U : State} (h : AllW U) {A : Array Value} : (Cond.code yX12_tellEchoes cX12_tellEchoes 9 none).before A U = true := h.use (mw_7 (List.mem_of_getElem? (i := 2) rfl)) rfl
theorem ml_X12_295 {U : State} (h : AllW U) {A : Array Value} : (Cond.methodLink "ClapValleyModel" 295 yX12_isOut).before A U = true := h.use (mw_7 (List.mem_of_getElem? (i := 3) rfl)) rfl
theorem im_X12_isOut {U : State} (h : AllW U) {A : Array Value} : (Cond.instanceMethod yX12_isOut).before A U = true := h.use (mw_7 (List.mem_of_getElem? (i := 5) rfl)) rfl
theorem cd_X12_isOut {U : State} (h : AllW U) {A : Array Value} : (Cond.code yX12_isOut cX12_isOut 9 (some FieldType.boolean)).before A U = true := h.use (mw_7 (List.mem_of_getElem? (i := 6) rfl)) rfl
theorem ml_X12_281 {U : State} (h : AllW U) {A : Array Value} : (Cond.methodLink "ClapValleyModel" 281 yX12_reach).before A U = true := h.use (mw_7 (List.mem_of_getElem? (i := 7) rfl)) rfl
theorem im_X12_reach {U : State} (h : AllW U) {A : Array Value} : (Cond.instanceMethod yX12_reach).before A U = true := h.use (mw_7 (List.mem_of_getElem? (i := 9) rfl)) rfl
theorem cd_X12_reach {U : State} (h : AllW U) {A : Array Value} : (Cond.code yX12_reach cX12_reach 7 (some FieldType.int)).before A U = true := h.use (mw_7 (List.mem_of_getElem? (i := 10) rfl)) rfl
theorem ml_X12_275 {U : State} (h : AllW U) {A : Array Value} : (Cond.methodLink "ClapValleyModel" 275 yX12_ofWall).before A U = true := h.use (mw_7 (List.mem_of_getElem? (i := 11) rfl)) rfl
theorem im_X12_ofWall {U : State} (h : AllW U) {A : Array Value} : (Cond.instanceMethod yX12_ofWall).before A U = true := h.use (mw_7 (List.mem_of_getElem? (i := 13) rfl)) rfl
theorem cd_X12_ofWall {U : State} (h : AllW U) {A : Array Value} : (Cond.code yX12_ofWall cX12_ofWall 4 (some FieldType.int)).before A U = true := h.use (mw_7 (List.mem_of_getElem? (i := 14) rfl)) rfl
theorem ml_X12_278 {U : State} (h : AllW U) {A : Array Value} : (Cond.methodLink "ClapValleyModel" 278 yJ9_abs_0f7a4).before A U = true := h.use (mw_7 (List.mem_of_getElem? (i := 15) rfl)) rfl
theorem ml_X12_299 {U : State} (h : AllW U) {A : Array Value} : (Cond.methodLink "ClapValleyModel" 299 yX12_firstOf).before A U = true := h.use (mw_7 (List.mem_of_getElem? (i := 16) rfl)) rfl
theorem im_X12_firstOf {U : State} (h : AllW U) {A : Array Value} : (Cond.instanceMethod yX12_firstOf).before A U = true := h.use (mw_7 (List.mem_of_getElem? (i := 18) rfl)) rfl
theorem cd_X12_firstOf {U : State} (h : AllW U) {A : Array Value} : (Cond.code yX12_firstOf cX12_firstOf 8 none).before A U = true := h.use (mw_7 (List.mem_of_getElem? (i := 19) rfl)) rfl
theorem ml_X12_285 {U : State} (h : AllW U) {A : Array Value} : (Cond.methodLink "ClapValleyModel" 285 yX12_throughWoods).before A U = true := h.use (mw_7 (List.mem_of_getElem? (i := 20) rfl)) rfl
theorem im_X12_throughWoods {U : State} (h : AllW U) {A : Array Value} : (Cond.instanceMethod yX12_throughWoods).before A U = true := h.use (mw_7 (List.mem_of_getElem? (i := 22) rfl)) rfl
theorem cd_X12_throughWoods {U : State} (h : AllW U) {A : Array Value} : (Cond.code yX12_throughWoods cX12_throughWoods 12 (some FieldType.int)).before A U = true := h.use (mw_7 (List.mem_of_getElem? (i := 23) rfl)) rfl
theorem ml_X12_271 {U : State} (h : AllW U) {A : Array Value} : (Cond.methodLink "ClapValleyModel" 271 yX12_meets).before A U = true := h.use (mw_7 (List.mem_of_getElem? (i := 24) rfl)) rfl
theorem im_X12_meets {U : State} (h : AllW U) {A : Array Value} : (Cond.instanceMethod yX12_meets).before A U = true := h.use (mw_7 (List.mem_of_getElem? (i := 26) rfl)) rfl
theorem cd_X12_meets {U : State} (h : AllW U) {A : Array Value} : (Cond.code yX12_meets cX12_meets 12 (some FieldType.boolean)).before A U = true := h.use (mw_7 (List.mem_of_getElem? (i := 27) rfl)) rfl
theorem ml_X12_261 {U : State} (h : AllW U) {A : Array Value} : (Cond.methodLink "ClapValleyModel" 261 yX12_ofWood).before A U = true := h.use (mw_7 (List.mem_of_getElem? (i := 28) rfl)) rfl
theorem im_X12_ofWood {U : State} (h : AllW U) {A : Array Value} : (Cond.instanceMethod yX12_ofWood).before A U = true := h.use (mw_7 (List.mem_of_getElem? (i := 30) rfl)) rfl
theorem cd_X12_ofWood {U : State} (h : AllW U) {A : Array Value} : (Cond.code yX12_ofWood cX12_ofWood 4 (some FieldType.int)).before A U = true := h.use (mw_7 (List.mem_of_getElem? (i := 31) rfl)) rfl
theorem ml_X12_264 {U : State} (h : AllW U) {A : Array Value} : (Cond.methodLink "ClapValleyModel" 264 yJ9_max_7cf53).before A U = true := h.use (mw_7 (List.mem_of_getElem? (i := 32) rfl)) rfl
theorem ml_X12_267 {U : State} (h : AllW U) {A : Array Value} : (Cond.methodLink "ClapValleyModel" 267 yX12_side).before A U = true := h.use (mw_7 (List.mem_of_getElem? (i := 33) rfl)) rfl
theorem st_X12_side {U : State} (h : AllW U) {A : Array Value} : (Cond.static yX12_side).before A U = true := h.use (mw_7 (List.mem_of_getElem? (i := 34) rfl)) rfl
theorem cd_X12_side {U : State} (h : AllW U) {A : Array Value} : (Cond.code yX12_side cX12_side 7 (some FieldType.int)).before A U = true := h.use (mw_7 (List.mem_of_getElem? (i := 35) rfl)) rfl
theorem ml_X12_303 {U : State} (h : AllW U) {A : Array Value} : (Cond.methodLink "ClapValleyModel" 303 yX12_barnOf).before A U = true := h.use (mw_7 (List.mem_of_getElem? (i := 36) rfl)) rfl
theorem im_X12_barnOf {U : State} (h : AllW U) {A : Array Value} : (Cond.instanceMethod yX12_barnOf).before A U = true := h.use (mw_7 (List.mem_of_getElem? (i := 38) rfl)) rfl
theorem cd_X12_barnOf {U : State} (h : AllW U) {A : Array Value} : (Cond.code yX12_barnOf cX12_barnOf 11 none).before A U = true := h.use (mw_7 (List.mem_of_getElem? (i := 39) rfl)) rfl
theorem ml_X12_289 {U : State} (h : AllW U) {A : Array Value} : (Cond.methodLink "ClapValleyModel" 289 yX12_ofBarn).before A U = true := h.use (mw_7 (List.mem_of_getElem? (i := 40) rfl)) rfl
theorem im_X12_ofBarn {U : State} (h : AllW U) {A : Array Value} : (Cond.instanceMethod yX12_ofBarn).before A U = true := h.use (mw_7 (List.mem_of_getElem? (i := 42) rfl)) rfl
theorem cd_X12_ofBarn {U : State} (h : AllW U) {A : Array Value} : (Cond.code yX12_ofBarn cX12_ofBarn 4 (some FieldType.int)).before A U = true := h.use (mw_7 (List.mem_of_getElem? (i := 43) rfl)) rfl
theorem ml_X12_292 {U : State} (h : AllW U) {A : Array Value} : (Cond.methodLink "ClapValleyModel" 292 yX12_isHidden).before A U = true := h.use (mw_7 (List.mem_of_getElem? (i := 44) rfl)) rfl
theorem im_X12_isHidden {U : State} (h : AllW U) {A : Array Value} : (Cond.instanceMethod yX12_isHidden).before A U = true := h.use (mw_7 (List.mem_of_getElem? (i := 46) rfl)) rfl
theorem cd_X12_isHidden {U : State} (h : AllW U) {A : Array Value} : (Cond.code yX12_isHidden cX12_isHidden 16 (some FieldType.boolean)).before A U = true := h.use (mw_7 (List.mem_of_getElem? (i := 47) rfl)) rfl
theorem ml_X12_307 {U : State} (h : AllW U) {A : Array Value} : (Cond.methodLink "ClapValleyModel" 307 yX12_secondOf).before A U = true := h.use (mw_7 (List.mem_of_getElem? (i := 48) rfl)) rfl
theorem im_X12_secondOf {U : State} (h : AllW U) {A : Array Value} : (Cond.instanceMethod yX12_secondOf).before A U = true := h.use (mw_7 (List.mem_of_getElem? (i := 50) rfl)) rfl
theorem cd_X12_secondOf {U : State} (h : AllW U) {A : Array Value} : (Cond.code yX12_secondOf cX12_secondOf 10 none).before A U = true := h.use (mw_7 (List.mem_of_getElem? (i := 51) rfl)) rfl
theorem ml_X12_320 {U : State} (h : AllW U) {A : Array Value} : (Cond.methodLink "ClapValleyModel" 320 yX12_isHeard).before A U = true := h.use (mw_7 (List.mem_of_getElem? (i := 52) rfl)) rfl
theorem im_X12_isHeard {U : State} (h : AllW U) {A : Array Value} : (Cond.instanceMethod yX12_isHeard).before A U = true := h.use (mw_7 (List.mem_of_getElem? (i := 54) rfl)) rfl
theorem cd_X12_isHeard {U : State} (h : AllW U) {A : Array Value} : (Cond.code yX12_isHeard cX12_isHeard 3 (some FieldType.boolean)).before A U = true := h.use (mw_7 (List.mem_of_getElem? (i := 55) rfl)) rfl
theorem ml_X12_324 {U : State} (h : AllW U) {A : Array Value} : (Cond.methodLink "ClapValleyModel" 324 yX12_tickOf).before A U = true := h.use (mw_7 (List.mem_of_getElem? (i := 56) rfl)) rfl
theorem im_X12_tickOf {U : State} (h : AllW U) {A : Array Value} : (Cond.instanceMethod yX12_tickOf).before A U = true := h.use (mw_7 (List.mem_of_getElem? (i := 58) rfl)) rfl
theorem cd_X12_tickOf {U : State} (h : AllW U) {A : Array Value} : (Cond.code yX12_tickOf cX12_tickOf 3 (some FieldType.int)).before A U = true := h.use (mw_7 (List.mem_of_getElem? (i := 59) rfl)) rfl
theorem ml_X12_310 {U : State} (h : AllW U) {A : Array Value} : (Cond.methodLink "ClapValleyModel" 310 yX12_root).before A U = true := h.use (mw_7 (List.mem_of_getElem? (i := 60) rfl)) rfl
theorem st_X12_root {U : State} (h : AllW U) {A : Array Value} : (Cond.static yX12_root).before A U = true := h.use (mw_7 (List.mem_of_getElem? (i := 61) rfl)) rfl
theorem cd_X12_root {U : State} (h : AllW U) {A : Array Value} : (Cond.code yX12_root cX12_root 4 (some FieldType.int)).before A U = true := h.use (mw_7 (List.mem_of_getElem? (i := 62) rfl)) rfl
theorem ml_X12_327 {U : State} (h : AllW U) {A : Array Value} : (Cond.methodLink "ClapValleyModel" 327 yX12_lay).before A U = true := h.use (mw_7 (List.mem_of_getElem? (i := 63) rfl)) rfl
theorem im_X12_lay {U : State} (h : AllW U) {A : Array Value} : (Cond.instanceMethod yX12_lay).before A U = true := h.use (mw_7 (List.mem_of_getElem? (i := 65) rfl)) rfl
theorem cd_X12_lay {U : State} (h : AllW U) {A : Array Value} : (Cond.code yX12_lay cX12_lay 3 none).before A U = true := h.use (mw_7 (List.mem_of_getElem? (i := 66) rfl)) rfl
theorem ml_L_103 {U : State} (h : AllW U) {A : Array Value} : (Cond.methodLink "ClapValleyLaw" 103 yX12_strength).before A U = true := h.use (mw_7 (List.mem_of_getElem? (i := 67) rfl)) rfl
theorem im_X12_strength {U : State} (h : AllW U) {A : Array Value} : (Cond.instanceMethod yX12_strength).before A U = true := h.use (mw_7 (List.mem_of_getElem? (i := 68) rfl)) rfl
theorem sl_X12_strength {U : State} (h : AllW U) {A : Array Value} : (Cond.selects "ClapValleyModel" yX12_strength yX12_strength).before A U = true := h.use (mw_7 (List.mem_of_getElem? (i := 69) rfl)) rfl
theorem cd_X12_strength {U : State} (h : AllW U) {A : Array Value} : (Cond.code yX12_strength cX12_strength 7 (some FieldType.int)).before A U = true := h.use (mw_7 (List.mem_of_getElem? (i := 70) rfl)) rfl
theorem ml_L_107 {U : State} (h : AllW U) {A : Array Value} : (Cond.methodLink "ClapValleyLaw" 107 yX12_station).before A U = true := h.use (mw_7 (List.mem_of_getElem? (i := 71) rfl)) rfl
theorem im_X12_station {U : State} (h : AllW U) {A : Array Value} : (Cond.instanceMethod yX12_station).before A U = true := h.use (mw_7 (List.mem_of_getElem? (i := 72) rfl)) rfl
theorem sl_X12_station {U : State} (h : AllW U) {A : Array Value} : (Cond.selects "ClapValleyModel" yX12_station yX12_station).before A U = true := h.use (mw_7 (List.mem_of_getElem? (i := 73) rfl)) rfl
theorem cd_X12_station {U : State} (h : AllW U) {A : Array Value} : (Cond.code yX12_station cX12_station 6 (some FieldType.int)).before A U = true := h.use (mw_7 (List.mem_of_getElem? (i := 74) rfl)) rfl
theorem ml_L_110 {U : State} (h : AllW U) {A : Array Value} : (Cond.methodLink "ClapValleyLaw" 110 yX12_tick).before A U = true := h.use (mw_7 (List.mem_of_getElem? (i := 75) rfl)) rfl
theorem im_X12_tick {U : State} (h : AllW U) {A : Array Value} : (Cond.instanceMethod yX12_tick).before A U = true := h.use (mw_7 (List.mem_of_getElem? (i := 76) rfl)) rfl
theorem sl_X12_tick {U : State} (h : AllW U) {A : Array Value} : (Cond.selects "ClapValleyModel" yX12_tick yX12_tick).before A U = true := h.use (mw_7 (List.mem_of_getElem? (i := 77) rfl)) rfl
theorem cd_X12_tick {U : State} (h : AllW U) {A : Array Value} : (Cond.code yX12_tick cX12_tick 4 (some FieldType.int)).before A U = true := h.use (mw_7 (List.mem_of_getElem? (i := 78) rfl)) rfl
theorem ml_X12_342 {U : State} (h : AllW U) {A : Array Value} : (Cond.methodLink "ClapValleyModel" 342 yX12_isStation).before A U = true := h.use (mw_7 (List.mem_of_getElem? (i := 79) rfl)) rfl
theorem im_X12_isStation {U : State} (h : AllW U) {A : Array Value} : (Cond.instanceMethod yX12_isStation).before A U = true := h.use (mw_7 (List.mem_of_getElem? (i := 81) rfl)) rfl
theorem cd_X12_isStation {U : State} (h : AllW U) {A : Array Value} : (Cond.code yX12_isStation cX12_isStation 2 (some FieldType.boolean)).before A U = true := h.use (mw_7 (List.mem_of_getElem? (i := 82) rfl)) rfl
theorem ml_L_113 {U : State} (h : AllW U) {A : Array Value} : (Cond.methodLink "ClapValleyLaw" 113 yX12_told).before A U = true := h.use (mw_7 (List.mem_of_getElem? (i := 83) rfl)) rfl
theorem im_X12_told {U : State} (h : AllW U) {A : Array Value} : (Cond.instanceMethod yX12_told).before A U = true := h.use (mw_7 (List.mem_of_getElem? (i := 84) rfl)) rfl
theorem sl_X12_told {U : State} (h : AllW U) {A : Array Value} : (Cond.selects "ClapValleyModel" yX12_told yX12_told).before A U = true := h.use (mw_7 (List.mem_of_getElem? (i := 85) rfl)) rfl
theorem cd_X12_told {U : State} (h : AllW U) {A : Array Value} : (Cond.code yX12_told cX12_told 3 (some FieldType.int)).before A U = true := h.use (mw_7 (List.mem_of_getElem? (i := 86) rfl)) rfl
theorem ml_L_116 {U : State} (h : AllW U) {A : Array Value} : (Cond.methodLink "ClapValleyLaw" 116 yX12_fits).before A U = true := h.use (mw_7 (List.mem_of_getElem? (i := 87) rfl)) rfl
theorem im_X12_fits {U : State} (h : AllW U) {A : Array Value} : (Cond.instanceMethod yX12_fits).before A U = true := h.use (mw_7 (List.mem_of_getElem? (i := 88) rfl)) rfl
theorem sl_X12_fits {U : State} (h : AllW U) {A : Array Value} : (Cond.selects "ClapValleyModel" yX12_fits yX12_fits).before A U = true := h.use (mw_7 (List.mem_of_getElem? (i := 89) rfl)) rfl
theorem cd_X12_fits {U : State} (h : AllW U) {A : Array Value} : (Cond.code yX12_fits cX12_fits 3 (some FieldType.boolean)).before A U = true := h.use (mw_7 (List.mem_of_getElem? (i := 90) rfl)) rfl
theorem ml_X12_348 {U : State} (h : AllW U) {A : Array Value} : (Cond.methodLink "ClapValleyModel" 348 yX12_isNamed).before A U = true := h.use (mw_7 (List.mem_of_getElem? (i := 91) rfl)) rfl
theorem im_X12_isNamed {U : State} (h : AllW U) {A : Array Value} : (Cond.instanceMethod yX12_isNamed).before A U = true := h.use (mw_7 (List.mem_of_getElem? (i := 93) rfl)) rfl
theorem cd_X12_isNamed {U : State} (h : AllW U) {A : Array Value} : (Cond.code yX12_isNamed cX12_isNamed 2 (some FieldType.boolean)).before A U = true := h.use (mw_7 (List.mem_of_getElem? (i := 94) rfl)) rfl
theorem ml_X12_351 {U : State} (h : AllW U) {A : Array Value} : (Cond.methodLink "ClapValleyModel" 351 yX12_fitsAt).before A U = true := h.use (mw_7 (List.mem_of_getElem? (i := 95) rfl)) rfl
theorem im_X12_fitsAt {U : State} (h : AllW U) {A : Array Value} : (Cond.instanceMethod yX12_fitsAt).before A U = true := h.use (mw_7 (List.mem_of_getElem? (i := 97) rfl)) rfl
theorem cd_X12_fitsAt {U : State} (h : AllW U) {A : Array Value} : (Cond.code yX12_fitsAt cX12_fitsAt 7 (some FieldType.boolean)).before A U = true := h.use (mw_7 (List.mem_of_getElem? (i := 98) rfl)) rfl
theorem ml_X12_345 {U : State} (h : AllW U) {A : Array Value} : (Cond.methodLink "ClapValleyModel" 345 yX12_isWritten).before A U = true := h.use (mw_7 (List.mem_of_getElem? (i := 99) rfl)) rfl
theorem im_X12_isWritten {U : State} (h : AllW U) {A : Array Value} : (Cond.instanceMethod yX12_isWritten).before A U = true := h.use (mw_7 (List.mem_of_getElem? (i := 101) rfl)) rfl
theorem cd_X12_isWritten {U : State} (h : AllW U) {A : Array Value} : (Cond.code yX12_isWritten cX12_isWritten 3 (some FieldType.boolean)).before A U = true := h.use (mw_7 (List.mem_of_getElem? (i := 102) rfl)) rfl
theorem ml_L_120 {U : State} (h : AllW U) {A : Array Value} : (Cond.methodLink "ClapValleyLaw" 120 yX12_where).before A U = true := h.use (mw_7 (List.mem_of_getElem? (i := 103) rfl)) rfl
theorem im_X12_where {U : State} (h : AllW U) {A : Array Value} : (Cond.instanceMethod yX12_where).before A U = true := h.use (mw_7 (List.mem_of_getElem? (i := 104) rfl)) rfl
theorem sl_X12_where {U : State} (h : AllW U) {A : Array Value} : (Cond.selects "ClapValleyModel" yX12_where yX12_where).before A U = true := h.use (mw_7 (List.mem_of_getElem? (i := 105) rfl)) rfl
theorem cd_X12_where {U : State} (h : AllW U) {A : Array Value} : (Cond.code yX12_where cX12_where 6 (some FieldType.int)).before A U = true := h.use (mw_7 (List.mem_of_getElem? (i := 106) rfl)) rfl
theorem ml_L_123 {U : State} (h : AllW U) {A : Array Value} : (Cond.methodLink "ClapValleyLaw" 123 yX12_airs).before A U = true := h.use (mw_7 (List.mem_of_getElem? (i := 107) rfl)) rfl
theorem im_X12_airs {U : State} (h : AllW U) {A : Array Value} : (Cond.instanceMethod yX12_airs).before A U = true := h.use (mw_7 (List.mem_of_getElem? (i := 108) rfl)) rfl
theorem sl_X12_airs {U : State} (h : AllW U) {A : Array Value} : (Cond.selects "ClapValleyModel" yX12_airs yX12_airs).before A U = true := h.use (mw_7 (List.mem_of_getElem? (i := 109) rfl)) rfl
theorem cd_X12_airs {U : State} (h : AllW U) {A : Array Value} : (Cond.code yX12_airs cX12_airs 8 (some FieldType.int)).before A U = true := h.use (mw_7 (List.mem_of_getElem? (i := 110) rfl)) rfl
theorem ml_L_127 {U : State} (h : AllW U) {A : Array Value} : (Cond.methodLink "ClapValleyLaw" 127 yX12_whose).before A U = true := h.use (mw_7 (List.mem_of_getElem? (i := 111) rfl)) rfl
theorem im_X12_whose {U : State} (h : AllW U) {A : Array Value} : (Cond.instanceMethod yX12_whose).before A U = true := h.use (mw_7 (List.mem_of_getElem? (i := 112) rfl)) rfl
theorem sl_X12_whose {U : State} (h : AllW U) {A : Array Value} : (Cond.selects "ClapValleyModel" yX12_whose yX12_whose).before A U = true := h.use (mw_7 (List.mem_of_getElem? (i := 113) rfl)) rfl
theorem cd_X12_whose {U : State} (h : AllW U) {A : Array Value} : (Cond.code yX12_whose cX12_whose 8 (some FieldType.int)).before A U = true := h.use (mw_7 (List.mem_of_getElem? (i := 114) rfl)) rfl
theorem ml_L_130 {U : State} (h : AllW U) {A : Array Value} : (Cond.methodLink "ClapValleyLaw" 130 yX12_gone).before A U = true := h.use (mw_7 (List.mem_of_getElem? (i := 115) rfl)) rfl
theorem im_X12_gone {U : State} (h : AllW U) {A : Array Value} : (Cond.instanceMethod yX12_gone).before A U = true := h.use (mw_7 (List.mem_of_getElem? (i := 116) rfl)) rfl
theorem sl_X12_gone {U : State} (h : AllW U) {A : Array Value} : (Cond.selects "ClapValleyModel" yX12_gone yX12_gone).before A U = true := h.use (mw_7 (List.mem_of_getElem? (i := 117) rfl)) rfl
theorem cd_X12_gone {U : State} (h : AllW U) {A : Array Value} : (Cond.code yX12_gone cX12_gone 6 (some FieldType.int)).before A U = true := h.use (mw_7 (List.mem_of_getElem? (i := 118) rfl)) rfl
theorem ml_X12_354 {U : State} (h : AllW U) {A : Array Value} : (Cond.methodLink "ClapValleyModel" 354 yX12_bitsOf).before A U = true := h.use (mw_7 (List.mem_of_getElem? (i := 119) rfl)) rfl
theorem st_X12_bitsOf {U : State} (h : AllW U) {A : Array Value} : (Cond.static yX12_bitsOf).before A U = true := h.use (mw_7 (List.mem_of_getElem? (i := 120) rfl)) rfl
theorem cd_X12_bitsOf {U : State} (h : AllW U) {A : Array Value} : (Cond.code yX12_bitsOf cX12_bitsOf 3 (some FieldType.int)).before A U = true := h.use (mw_7 (List.mem_of_getElem? (i := 121) rfl)) rfl
theorem ml_X12_357 {U : State} (h : AllW U) {A : Array Value} : (Cond.methodLink "ClapValleyModel" 357 yX12_allFit).before A U = true := h.use (mw_7 (List.mem_of_getElem? (i := 122) rfl)) rfl
theorem im_X12_allFit {U : State} (h : AllW U) {A : Array Value} : (Cond.instanceMethod yX12_allFit).before A U = true := h.use (mw_7 (List.mem_of_getElem? (i := 124) rfl)) rfl
theorem cd_X12_allFit {U : State} (h : AllW U) {A : Array Value} : (Cond.code yX12_allFit cX12_allFit 5 (some FieldType.boolean)).before A U = true := h.use (mw_7 (List.mem_of_getElem? (i := 125) rfl)) rfl
theorem ml_L_133 {U : State} (h : AllW U) {A : Array Value} : (Cond.methodLink "ClapValleyLaw" 133 yX12_plans).before A U = true := h.use (mw_7 (List.mem_of_getElem? (i := 126) rfl)) rfl
theorem im_X12_plans {U : State} (h : AllW U) {A : Array Value} : (Cond.instanceMethod yX12_plans).before A U = true := h.use (mw_7 (List.mem_of_getElem? (i := 127) rfl)) rfl
theorem sl_X12_plans {U : State} (h : AllW U) {A : Array Value} : (Cond.selects "ClapValleyModel" yX12_plans yX12_plans).before A U = true := h.use (mw_7 (List.mem_of_getElem? (i := 128) rfl)) rfl
theorem cd_X12_plans {U : State} (h : AllW U) {A : Array Value} : (Cond.code yX12_plans cX12_plans 7 (some FieldType.int)).before A U = true := h.use (mw_7 (List.mem_of_getElem? (i := 129) rfl)) rfl
theorem ml_X12_369 {U : State} (h : AllW U) {A : Array Value} : (Cond.methodLink "ClapValleyModel" 369 yX12_tickOfLine).before A U = true := h.use (mw_7 (List.mem_of_getElem? (i := 130) rfl)) rfl
theorem st_X12_tickOfLine {U : State} (h : AllW U) {A : Array Value} : (Cond.static yX12_tickOfLine).before A U = true := h.use (mw_7 (List.mem_of_getElem? (i := 131) rfl)) rfl
theorem cd_X12_tickOfLine {U : State} (h : AllW U) {A : Array Value} : (Cond.code yX12_tickOfLine cX12_tickOfLine 5 (some FieldType.int)).before A U = true := h.use (mw_7 (List.mem_of_getElem? (i := 132) rfl)) rfl
theorem ml_X12_372 {U : State} (h : AllW U) {A : Array Value} : (Cond.methodLink "ClapValleyModel" 372 yX12_tryPlan).before A U = true := h.use (mw_7 (List.mem_of_getElem? (i := 133) rfl)) rfl
theorem im_X12_tryPlan {U : State} (h : AllW U) {A : Array Value} : (Cond.instanceMethod yX12_tryPlan).before A U = true := h.use (mw_7 (List.mem_of_getElem? (i := 135) rfl)) rfl
theorem cd_X12_tryPlan {U : State} (h : AllW U) {A : Array Value} : (Cond.code yX12_tryPlan cX12_tryPlan 4 none).before A U = true := h.use (mw_7 (List.mem_of_getElem? (i := 136) rfl)) rfl
theorem ml_X12_363 {U : State} (h : AllW U) {A : Array Value} : (Cond.methodLink "ClapValleyModel" 363 yX12_isPlan).before A U = true := h.use (mw_7 (List.mem_of_getElem? (i := 137) rfl)) rfl
theorem im_X12_isPlan {U : State} (h : AllW U) {A : Array Value} : (Cond.instanceMethod yX12_isPlan).before A U = true := h.use (mw_7 (List.mem_of_getElem? (i := 139) rfl)) rfl
theorem cd_X12_isPlan {U : State} (h : AllW U) {A : Array Value} : (Cond.code yX12_isPlan cX12_isPlan 6 (some FieldType.boolean)).before A U = true := h.use (mw_7 (List.mem_of_getElem? (i := 140) rfl)) rfl
theorem ml_L_137 {U : State} (h : AllW U) {A : Array Value} : (Cond.methodLink "ClapValleyLaw" 137 yX12_spot).before A U = true := h.use (mw_7 (List.mem_of_getElem? (i := 141) rfl)) rfl
theorem im_X12_spot {U : State} (h : AllW U) {A : Array Value} : (Cond.instanceMethod yX12_spot).before A U = true := h.use (mw_7 (List.mem_of_getElem? (i := 142) rfl)) rfl
theorem sl_X12_spot {U : State} (h : AllW U) {A : Array Value} : (Cond.selects "ClapValleyModel" yX12_spot yX12_spot).before A U = true := h.use (mw_7 (List.mem_of_getElem? (i := 143) rfl)) rfl
theorem cd_X12_spot {U : State} (h : AllW U) {A : Array Value} : (Cond.code yX12_spot cX12_spot 3 (some FieldType.int)).before A U = true := h.use (mw_7 (List.mem_of_getElem? (i := 144) rfl)) rfl
theorem ml_L_140 {U : State} (h : AllW U) {A : Array Value} : (Cond.methodLink "ClapValleyLaw" 140 yX12_next).before A U = true := h.use (mw_7 (List.mem_of_getElem? (i := 145) rfl)) rfl
theorem im_X12_next {U : State} (h : AllW U) {A : Array Value} : (Cond.instanceMethod yX12_next).before A U = true := h.use (mw_7 (List.mem_of_getElem? (i := 146) rfl)) rfl
theorem sl_X12_next {U : State} (h : AllW U) {A : Array Value} : (Cond.selects "ClapValleyModel" yX12_next yX12_next).before A U = true := h.use (mw_7 (List.mem_of_getElem? (i := 147) rfl)) rfl
theorem cd_X12_next {U : State} (h : AllW U) {A : Array Value} : (Cond.code yX12_next cX12_next 9 (some FieldType.int)).before A U = true := h.use (mw_7 (List.mem_of_getElem? (i := 148) rfl)) rfl
theorem ml_X12_379 {U : State} (h : AllW U) {A : Array Value} : (Cond.methodLink "ClapValleyModel" 379 yX12_tellLikes).before A U = true := h.use (mw_7 (List.mem_of_getElem? (i := 149) rfl)) rfl
theorem im_X12_tellLikes {U : State} (h : AllW U) {A : Array Value} : (Cond.instanceMethod yX12_tellLikes).before A U = true := h.use (mw_7 (List.mem_of_getElem? (i := 151) rfl)) rfl
theorem cd_X12_tellLikes {U : State} (h : AllW U) {A : Array Value} : (Cond.code yX12_tellLikes cX12_tellLikes 6 none).before A U = true := h.use (mw_7 (List.mem_of_getElem? (i := 152) rfl)) rfl
theorem ml_X12_376 {U : State} (h : AllW U) {A : Array Value} : (Cond.methodLink "ClapValleyModel" 376 yX12_areAlike).before A U = true := h.use (mw_7 (List.mem_of_getElem? (i := 153) rfl)) rfl
theorem im_X12_areAlike {U : State} (h : AllW U) {A : Array Value} : (Cond.instanceMethod yX12_areAlike).before A U = true := h.use (mw_7 (List.mem_of_getElem? (i := 155) rfl)) rfl
theorem cd_X12_areAlike {U : State} (h : AllW U) {A : Array Value} : (Cond.code yX12_areAlike cX12_areAlike 9 (some FieldType.boolean)).before A U = true := h.use (mw_7 (List.mem_of_getElem? (i := 156) rfl)) rfl
theorem ml_X12_383 {U : State} (h : AllW U) {A : Array Value} : (Cond.methodLink "ClapValleyModel" 383 yX12_clapsBy).before A U = true := h.use (mw_7 (List.mem_of_getElem? (i := 157) rfl)) rfl
theorem im_X12_clapsBy {U : State} (h : AllW U) {A : Array Value} : (Cond.instanceMethod yX12_clapsBy).before A U = true := h.use (mw_7 (List.mem_of_getElem? (i := 159) rfl)) rfl
theorem cd_X12_clapsBy {U : State} (h : AllW U) {A : Array Value} : (Cond.code yX12_clapsBy cX12_clapsBy 7 (some FieldType.int)).before A U = true := h.use (mw_7 (List.mem_of_getElem? (i := 160) rfl)) rfl
theorem ml_L_144 {U : State} (h : AllW U) {A : Array Value} : (Cond.methodLink "ClapValleyLaw" 144 yX12_knows).before A U = true := h.use (mw_7 (List.mem_of_getElem? (i := 161) rfl)) rfl
theorem im_X12_knows {U : State} (h : AllW U) {A : Array Value} : (Cond.instanceMethod yX12_knows).before A U = true := h.use (mw_7 (List.mem_of_getElem? (i := 162) rfl)) rfl
theorem sl_X12_knows {U : State} (h : AllW U) {A : Array Value} : (Cond.selects "ClapValleyModel" yX12_knows yX12_knows).before A U = true := h.use (mw_7 (List.mem_of_getElem? (i := 163) rfl)) rfl
theorem cd_X12_knows {U : State} (h : AllW U) {A : Array Value} : (Cond.code yX12_knows cX12_knows 11 (some FieldType.int)).before A U = true := h.use (mw_7 (List.mem_of_getElem? (i := 164) rfl)) rfl
theorem ml_X12_389 {U : State} (h : AllW U) {A : Array Value} : (Cond.methodLink "ClapValleyModel" 389 yX12_tellThief).before A U = true := h.use (mw_7 (List.mem_of_getElem? (i := 165) rfl)) rfl
theorem im_X12_tellThief {U : State} (h : AllW U) {A : Array Value} : (Cond.instanceMethod yX12_tellThief).before A U = true := h.use (mw_7 (List.mem_of_getElem? (i := 167) rfl)) rfl
theorem cd_X12_tellThief {U : State} (h : AllW U) {A : Array Value} : (Cond.code yX12_tellThief cX12_tellThief 11 none).before A U = true := h.use (mw_7 (List.mem_of_getElem? (i := 168) rfl)) rfl
theorem ml_X12_386 {U : State} (h : AllW U) {A : Array Value} : (Cond.methodLink "ClapValleyModel" 386 yX12_far).before A U = true := h.use (mw_7 (List.mem_of_getElem? (i := 169) rfl)) rfl
theorem st_X12_far {U : State} (h : AllW U) {A : Array Value} : (Cond.static yX12_far).before A U = true := h.use (mw_7 (List.mem_of_getElem? (i := 170) rfl)) rfl
theorem cd_X12_far {U : State} (h : AllW U) {A : Array Value} : (Cond.code yX12_far cX12_far 4 (some FieldType.int)).before A U = true := h.use (mw_7 (List.mem_of_getElem? (i := 171) rfl)) rfl
theorem ml_L_147 {U : State} (h : AllW U) {A : Array Value} : (Cond.methodLink "ClapValleyLaw" 147 yX12_word).before A U = true := h.use (mw_7 (List.mem_of_getElem? (i := 172) rfl)) rfl
theorem im_X12_word {U : State} (h : AllW U) {A : Array Value} : (Cond.instanceMethod yX12_word).before A U = true := h.use (mw_7 (List.mem_of_getElem? (i := 173) rfl)) rfl
theorem sl_X12_word {U : State} (h : AllW U) {A : Array Value} : (Cond.selects "ClapValleyModel" yX12_word yX12_word).before A U = true := h.use (mw_7 (List.mem_of_getElem? (i := 174) rfl)) rfl
theorem cd_X12_word {U : State} (h : AllW U) {A : Array Value} : (Cond.code yX12_word cX12_word 9 (some FieldType.int)).before A U = true := h.use (mw_7 (List.mem_of_getElem? (i := 175) rfl)) rfl
theorem ml_L_151 {U : State} (h : AllW U) {A : Array Value} : (Cond.methodLink "ClapValleyLaw" 151 yX12_clear).before A U = true := h.use (mw_7 (List.mem_of_getElem? (i := 176) rfl)) rfl
theorem im_X12_clear {U : State} (h : AllW U) {A : Array Value} : (Cond.instanceMethod yX12_clear).before A U = true := h.use (mw_7 (List.mem_of_getElem? (i := 177) rfl)) rfl
theorem sl_X12_clear {U : State} (h : AllW U) {A : Array Value} : (Cond.selects "ClapValleyModel" yX12_clear yX12_clear).before A U = true := h.use (mw_7 (List.mem_of_getElem? (i := 178) rfl)) rfl
theorem cd_X12_clear {U : State} (h : AllW U) {A : Array Value} : (Cond.code yX12_clear cX12_clear 1 none).before A U = true := h.use (mw_7 (List.mem_of_getElem? (i := 179) rfl)) rfl
theorem ml_L_155 {U : State} (h : AllW U) {A : Array Value} : (Cond.methodLink "ClapValleyLaw" 155 yX12_image).before A U = true := h.use (mw_7 (List.mem_of_getElem? (i := 180) rfl)) rfl
theorem im_X12_image {U : State} (h : AllW U) {A : Array Value} : (Cond.instanceMethod yX12_image).before A U = true := h.use (mw_7 (List.mem_of_getElem? (i := 181) rfl)) rfl
theorem sl_X12_image {U : State} (h : AllW U) {A : Array Value} : (Cond.selects "ClapValleyModel" yX12_image yX12_image).before A U = true := h.use (mw_7 (List.mem_of_getElem? (i := 182) rfl)) rfl
theorem cd_X12_image {U : State} (h : AllW U) {A : Array Value} : (Cond.code yX12_image cX12_image 1 none).before A U = true := h.use (mw_7 (List.mem_of_getElem? (i := 183) rfl)) rfl
theorem ml_X12_402 {U : State} (h : AllW U) {A : Array Value} : (Cond.methodLink "ClapValleyModel" 402 yX12_be).before A U = true := h.use (mw_7 (List.mem_of_getElem? (i := 184) rfl)) rfl
theorem st_X12_be {U : State} (h : AllW U) {A : Array Value} : (Cond.static yX12_be).before A U = true := h.use (mw_7 (List.mem_of_getElem? (i := 185) rfl)) rfl
theorem cd_X12_be {U : State} (h : AllW U) {A : Array Value} : (Cond.code yX12_be cX12_be 3 none).before A U = true := h.use (mw_7 (List.mem_of_getElem? (i := 186) rfl)) rfl
theorem ml_L_160 {U : State} (h : AllW U) {A : Array Value} : (Cond.methodLink "ClapValleyLaw" 160 yX12_restore).before A U = true := h.use (mw_7 (List.mem_of_getElem? (i := 187) rfl)) rfl
theorem im_X12_restore {U : State} (h : AllW U) {A : Array Value} : (Cond.instanceMethod yX12_restore).before A U = true := h.use (mw_7 (List.mem_of_getElem? (i := 188) rfl)) rfl
theorem sl_X12_restore {U : State} (h : AllW U) {A : Array Value} : (Cond.selects "ClapValleyModel" yX12_restore yX12_restore).before A U = true := h.use (mw_7 (List.mem_of_getElem? (i := 189) rfl)) rfl
theorem cd_X12_restore {U : State} (h : AllW U) {A : Array Value} : (Cond.code yX12_restore cX12_restore 1 (some FieldType.boolean)).before A U = true := h.use (mw_7 (List.mem_of_getElem? (i := 190) rfl)) rfl
theorem ac_long {U : State} (h : AllW U) {A : Array Value} : (Cond.arrayClass FieldType.long).before A U = true := h.use (mw_7 (List.mem_of_getElem? (i := 191) rfl)) rfl
theorem fl_J0_9 {U : State} (h : AllW U) {A : Array Value} : (Cond.fieldLink "java/lang/String" 9 "java/lang/String" "value" "[B").before A U = true := h.use (mw_7 (List.mem_of_getElem? (i := 210) rfl)) rfl
theorem fl_J0_15 {U : State} (h : AllW U) {A : Array Value} : (Cond.fieldLink "java/lang/String" 15 "java/lang/String" "coder" "B").before A U = true := h.use (mw_7 (List.mem_of_getElem? (i := 211) rfl)) rfl
theorem sl_X4_empty {U : State} (h : AllW U) {A : Array Value} : (Cond.selects RX4 yX4_empty yX4_empty).before A U = true := h.use (mp_1 (List.mem_of_getElem? (i := 0) rfl)) rfl
theorem sl_X8_append {U : State} (h : AllW U) {A : Array Value} : (Cond.selects RX8 yX8_append yX8_append).before A U = true := h.use (mp_1 (List.mem_of_getElem? (i := 1) rfl)) rfl
theorem sl_X7_begin {U : State} (h : AllW U) {A : Array Value} : (Cond.selects RX7 yX7_begin yX7_begin).before A U = true := h.use (mp_1 (List.mem_of_getElem? (i := 2) rfl)) rfl
theorem sl_X1_empty {U : State} (h : AllW U) {A : Array Value} : (Cond.selects RX1 yX1_empty yX1_empty).before A U = true := h.use (mp_1 (List.mem_of_getElem? (i := 3) rfl)) rfl
theorem sl_X1_copyFrom {U : State} (h : AllW U) {A : Array Value} : (Cond.selects RX1 yX1_copyFrom yX1_copyFrom).before A U = true := h.use (mp_1 (List.mem_of_getElem? (i := 4) rfl)) rfl
theorem sl_X7_copyFrom {U : State} (h : AllW U) {A : Array Value} : (Cond.selects RX7 yX7_copyFrom yX7_copyFrom).before A U = true := h.use (mp_1 (List.mem_of_getElem? (i := 5) rfl)) rfl
theorem sl_X11_needLand {U : State} (h : AllW U) {A : Array Value} : (Cond.selects RX11 yX11_needLand yX11_needLand).before A U = true := h.use (mp_1 (List.mem_of_getElem? (i := 6) rfl)) rfl
theorem sl_X8_readLand {U : State} (h : AllW U) {A : Array Value} : (Cond.selects RX8 yX8_readLand yX8_readLand).before A U = true := h.use (mp_1 (List.mem_of_getElem? (i := 8) rfl)) rfl
theorem sl_X8_takeToken {U : State} (h : AllW U) {A : Array Value} : (Cond.selects RX8 yX8_takeToken yX8_takeToken).before A U = true := h.use (mp_1 (List.mem_of_getElem? (i := 9) rfl)) rfl
theorem sl_X8_isWord {U : State} (h : AllW U) {A : Array Value} : (Cond.selects RX8 yX8_isWord yX8_isWord).before A U = true := h.use (mp_1 (List.mem_of_getElem? (i := 10) rfl)) rfl
theorem sl_X8_readWall {U : State} (h : AllW U) {A : Array Value} : (Cond.selects RX8 yX8_readWall yX8_readWall).before A U = true := h.use (mp_1 (List.mem_of_getElem? (i := 11) rfl)) rfl
theorem sl_X8_refuse {U : State} (h : AllW U) {A : Array Value} : (Cond.selects RX8 yX8_refuse yX8_refuse).before A U = true := h.use (mp_1 (List.mem_of_getElem? (i := 12) rfl)) rfl
theorem sl_X8_readNumber {U : State} (h : AllW U) {A : Array Value} : (Cond.selects RX8 yX8_readNumber yX8_readNumber).before A U = true := h.use (mp_1 (List.mem_of_getElem? (i := 13) rfl)) rfl
theorem sl_X8_readLoss {U : State} (h : AllW U) {A : Array Value} : (Cond.selects RX8 yX8_readLoss yX8_readLoss).before A U = true := h.use (mp_1 (List.mem_of_getElem? (i := 14) rfl)) rfl
theorem sl_X8_readSign {U : State} (h : AllW U) {A : Array Value} : (Cond.selects RX8 yX8_readSign yX8_readSign).before A U = true := h.use (mp_1 (List.mem_of_getElem? (i := 15) rfl)) rfl
theorem sl_X8_readBarn {U : State} (h : AllW U) {A : Array Value} : (Cond.selects RX8 yX8_readBarn yX8_readBarn).before A U = true := h.use (mp_2 (List.mem_of_getElem? (i := 0) rfl)) rfl
theorem sl_X8_readWood {U : State} (h : AllW U) {A : Array Value} : (Cond.selects RX8 yX8_readWood yX8_readWood).before A U = true := h.use (mp_2 (List.mem_of_getElem? (i := 1) rfl)) rfl
theorem sl_X8_readHears {U : State} (h : AllW U) {A : Array Value} : (Cond.selects RX8 yX8_readHears yX8_readHears).before A U = true := h.use (mp_2 (List.mem_of_getElem? (i := 2) rfl)) rfl
theorem sl_X8_readAir {U : State} (h : AllW U) {A : Array Value} : (Cond.selects RX8 yX8_readAir yX8_readAir).before A U = true := h.use (mp_2 (List.mem_of_getElem? (i := 3) rfl)) rfl
theorem sl_X8_exchange {U : State} (h : AllW U) {A : Array Value} : (Cond.selects RX8 yX8_exchange yX8_exchange).before A U = true := h.use (mp_2 (List.mem_of_getElem? (i := 4) rfl)) rfl
theorem sl_X11_needClap {U : State} (h : AllW U) {A : Array Value} : (Cond.selects RX11 yX11_needClap yX11_needClap).before A U = true := h.use (mp_2 (List.mem_of_getElem? (i := 5) rfl)) rfl
theorem sl_X6_look {U : State} (h : AllW U) {A : Array Value} : (Cond.selects RX6 yX6_look yX6_look).before A U = true := h.use (mp_2 (List.mem_of_getElem? (i := 6) rfl)) rfl
theorem sl_X6_lookAtWall {U : State} (h : AllW U) {A : Array Value} : (Cond.selects RX6 yX6_lookAtWall yX6_lookAtWall).before A U = true := h.use (mp_2 (List.mem_of_getElem? (i := 7) rfl)) rfl
theorem sl_X9_holds {U : State} (h : AllW U) {A : Array Value} : (Cond.selects RX9 yX9_holds yX9_holds).before A U = true := h.use (mp_2 (List.mem_of_getElem? (i := 8) rfl)) rfl
theorem sl_X4_hidersBetween {U : State} (h : AllW U) {A : Array Value} : (Cond.selects RX4 yX4_hidersBetween yX4_hidersBetween).before A U = true := h.use (mp_2 (List.mem_of_getElem? (i := 9) rfl)) rfl
theorem sl_X9_standsBetween {U : State} (h : AllW U) {A : Array Value} : (Cond.selects RX9 yX9_standsBetween yX9_standsBetween).before A U = true := h.use (mp_2 (List.mem_of_getElem? (i := 10) rfl)) rfl
theorem sl_X3_gather {U : State} (h : AllW U) {A : Array Value} : (Cond.selects RX3 yX3_gather yX3_gather).before A U = true := h.use (mp_2 (List.mem_of_getElem? (i := 11) rfl)) rfl
theorem sl_X3_findNearest {U : State} (h : AllW U) {A : Array Value} : (Cond.selects RX3 yX3_findNearest yX3_findNearest).before A U = true := h.use (mp_2 (List.mem_of_getElem? (i := 12) rfl)) rfl
theorem sl_X6_wallStrength {U : State} (h : AllW U) {A : Array Value} : (Cond.selects RX6 yX6_wallStrength yX6_wallStrength).before A U = true := h.use (mp_2 (List.mem_of_getElem? (i := 13) rfl)) rfl
theorem sl_X9_footX {U : State} (h : AllW U) {A : Array Value} : (Cond.selects RX9 yX9_footX yX9_footX).before A U = true := h.use (mp_2 (List.mem_of_getElem? (i := 14) rfl)) rfl
theorem sl_X9_footY {U : State} (h : AllW U) {A : Array Value} : (Cond.selects RX9 yX9_footY yX9_footY).before A U = true := h.use (mp_2 (List.mem_of_getElem? (i := 15) rfl)) rfl
theorem sl_X4_strengthAlong {U : State} (h : AllW U) {A : Array Value} : (Cond.selects RX4 yX4_strengthAlong yX4_strengthAlong).before A U = true := h.use (mp_3 (List.mem_of_getElem? (i := 0) rfl)) rfl
theorem sl_X10_meets {U : State} (h : AllW U) {A : Array Value} : (Cond.selects RX10 yX10_meets yX10_meets).before A U = true := h.use (mp_3 (List.mem_of_getElem? (i := 1) rfl)) rfl
theorem sl_X3_add {U : State} (h : AllW U) {A : Array Value} : (Cond.selects RX3 yX3_add yX3_add).before A U = true := h.use (mp_3 (List.mem_of_getElem? (i := 2) rfl)) rfl
theorem sl_X3_addSecond {U : State} (h : AllW U) {A : Array Value} : (Cond.selects RX3 yX3_addSecond yX3_addSecond).before A U = true := h.use (mp_3 (List.mem_of_getElem? (i := 3) rfl)) rfl
theorem sl_X6_barnStrength {U : State} (h : AllW U) {A : Array Value} : (Cond.selects RX6 yX6_barnStrength yX6_barnStrength).before A U = true := h.use (mp_3 (List.mem_of_getElem? (i := 4) rfl)) rfl
theorem sl_X3_orderHeard {U : State} (h : AllW U) {A : Array Value} : (Cond.selects RX3 yX3_orderHeard yX3_orderHeard).before A U = true := h.use (mp_3 (List.mem_of_getElem? (i := 5) rfl)) rfl
theorem sl_X3_strengthOf {U : State} (h : AllW U) {A : Array Value} : (Cond.selects RX3 yX3_strengthOf yX3_strengthOf).before A U = true := h.use (mp_3 (List.mem_of_getElem? (i := 6) rfl)) rfl
theorem sl_X11_needStation {U : State} (h : AllW U) {A : Array Value} : (Cond.selects RX11 yX11_needStation yX11_needStation).before A U = true := h.use (mp_3 (List.mem_of_getElem? (i := 7) rfl)) rfl
theorem sl_X7_write {U : State} (h : AllW U) {A : Array Value} : (Cond.selects RX7 yX7_write yX7_write).before A U = true := h.use (mp_3 (List.mem_of_getElem? (i := 8) rfl)) rfl
theorem sl_X7_isNamed {U : State} (h : AllW U) {A : Array Value} : (Cond.selects RX7 yX7_isNamed yX7_isNamed).before A U = true := h.use (mp_3 (List.mem_of_getElem? (i := 9) rfl)) rfl
theorem sl_X11_fitsAt {U : State} (h : AllW U) {A : Array Value} : (Cond.selects RX11 yX11_fitsAt yX11_fitsAt).before A U = true := h.use (mp_3 (List.mem_of_getElem? (i := 10) rfl)) rfl
theorem sl_X3_fit {U : State} (h : AllW U) {A : Array Value} : (Cond.selects RX3 yX3_fit yX3_fit).before A U = true := h.use (mp_3 (List.mem_of_getElem? (i := 11) rfl)) rfl
theorem sl_X3_countHeard {U : State} (h : AllW U) {A : Array Value} : (Cond.selects RX3 yX3_countHeard yX3_countHeard).before A U = true := h.use (mp_3 (List.mem_of_getElem? (i := 12) rfl)) rfl
theorem sl_X3_rowIs {U : State} (h : AllW U) {A : Array Value} : (Cond.selects RX3 yX3_rowIs yX3_rowIs).before A U = true := h.use (mp_3 (List.mem_of_getElem? (i := 13) rfl)) rfl
theorem sl_X11_needNamed {U : State} (h : AllW U) {A : Array Value} : (Cond.selects RX11 yX11_needNamed yX11_needNamed).before A U = true := h.use (mp_3 (List.mem_of_getElem? (i := 14) rfl)) rfl
theorem sl_X3_howManyAt {U : State} (h : AllW U) {A : Array Value} : (Cond.selects RX3 yX3_howManyAt yX3_howManyAt).before A U = true := h.use (mp_3 (List.mem_of_getElem? (i := 15) rfl)) rfl
theorem sl_X3_comesAt {U : State} (h : AllW U) {A : Array Value} : (Cond.selects RX3 yX3_comesAt yX3_comesAt).before A U = true := h.use (mp_4 (List.mem_of_getElem? (i := 0) rfl)) rfl
theorem sl_X3_leastAt {U : State} (h : AllW U) {A : Array Value} : (Cond.selects RX3 yX3_leastAt yX3_leastAt).before A U = true := h.use (mp_4 (List.mem_of_getElem? (i := 1) rfl)) rfl
theorem sl_X1_pickNamed {U : State} (h : AllW U) {A : Array Value} : (Cond.selects RX1 yX1_pickNamed yX1_pickNamed).before A U = true := h.use (mp_4 (List.mem_of_getElem? (i := 2) rfl)) rfl
theorem sl_X11_firstMisfit {U : State} (h : AllW U) {A : Array Value} : (Cond.selects RX11 yX11_firstMisfit yX11_firstMisfit).before A U = true := h.use (mp_4 (List.mem_of_getElem? (i := 3) rfl)) rfl
theorem sl_X5_prepare {U : State} (h : AllW U) {A : Array Value} : (Cond.selects RX5 yX5_prepare yX5_prepare).before A U = true := h.use (mp_4 (List.mem_of_getElem? (i := 4) rfl)) rfl
theorem sl_X5_isAllowed {U : State} (h : AllW U) {A : Array Value} : (Cond.selects RX5 yX5_isAllowed yX5_isAllowed).before A U = true := h.use (mp_4 (List.mem_of_getElem? (i := 5) rfl)) rfl
theorem sl_X5_tickOf {U : State} (h : AllW U) {A : Array Value} : (Cond.selects RX5 yX5_tickOf yX5_tickOf).before A U = true := h.use (mp_4 (List.mem_of_getElem? (i := 6) rfl)) rfl
theorem sl_X5_search {U : State} (h : AllW U) {A : Array Value} : (Cond.selects RX5 yX5_search yX5_search).before A U = true := h.use (mp_4 (List.mem_of_getElem? (i := 7) rfl)) rfl
theorem sl_X5_tryPlan {U : State} (h : AllW U) {A : Array Value} : (Cond.selects RX5 yX5_tryPlan yX5_tryPlan).before A U = true := h.use (mp_4 (List.mem_of_getElem? (i := 8) rfl)) rfl
theorem sl_X5_agrees {U : State} (h : AllW U) {A : Array Value} : (Cond.selects RX5 yX5_agrees yX5_agrees).before A U = true := h.use (mp_4 (List.mem_of_getElem? (i := 9) rfl)) rfl
theorem sl_X2_keepRow {U : State} (h : AllW U) {A : Array Value} : (Cond.selects RX2 yX2_keepRow yX2_keepRow).before A U = true := h.use (mp_4 (List.mem_of_getElem? (i := 10) rfl)) rfl
theorem sl_X2_compareRows {U : State} (h : AllW U) {A : Array Value} : (Cond.selects RX2 yX2_compareRows yX2_compareRows).before A U = true := h.use (mp_4 (List.mem_of_getElem? (i := 11) rfl)) rfl
theorem sl_X2_choose {U : State} (h : AllW U) {A : Array Value} : (Cond.selects RX2 yX2_choose yX2_choose).before A U = true := h.use (mp_4 (List.mem_of_getElem? (i := 12) rfl)) rfl
theorem sl_X2_clapsFrom {U : State} (h : AllW U) {A : Array Value} : (Cond.selects RX2 yX2_clapsFrom yX2_clapsFrom).before A U = true := h.use (mp_4 (List.mem_of_getElem? (i := 13) rfl)) rfl
theorem sl_X11_lookAsThief {U : State} (h : AllW U) {A : Array Value} : (Cond.selects RX11 yX11_lookAsThief yX11_lookAsThief).before A U = true := h.use (mp_4 (List.mem_of_getElem? (i := 14) rfl)) rfl
theorem sl_X3_countFirstHeard {U : State} (h : AllW U) {A : Array Value} : (Cond.selects RX3 yX3_countFirstHeard yX3_countFirstHeard).before A U = true := h.use (mp_4 (List.mem_of_getElem? (i := 15) rfl)) rfl
theorem sl_X3_orderForThief {U : State} (h : AllW U) {A : Array Value} : (Cond.selects RX3 yX3_orderForThief yX3_orderForThief).before A U = true := h.use (mp_5 (List.mem_of_getElem? (i := 0) rfl)) rfl
theorem sl_X12_atFirst {U : State} (h : AllW U) {A : Array Value} : (Cond.selects RX12 yX12_atFirst yX12_atFirst).before A U = true := h.use (mp_5 (List.mem_of_getElem? (i := 1) rfl)) rfl
theorem sl_X12_fail {U : State} (h : AllW U) {A : Array Value} : (Cond.selects RX12 yX12_fail yX12_fail).before A U = true := h.use (mp_5 (List.mem_of_getElem? (i := 2) rfl)) rfl
theorem sl_X12_stepOn {U : State} (h : AllW U) {A : Array Value} : (Cond.selects RX12 yX12_stepOn yX12_stepOn).before A U = true := h.use (mp_5 (List.mem_of_getElem? (i := 3) rfl)) rfl
theorem sl_X12_byteAt {U : State} (h : AllW U) {A : Array Value} : (Cond.selects RX12 yX12_byteAt yX12_byteAt).before A U = true := h.use (mp_5 (List.mem_of_getElem? (i := 4) rfl)) rfl
theorem sl_X12_readLine {U : State} (h : AllW U) {A : Array Value} : (Cond.selects RX12 yX12_readLine yX12_readLine).before A U = true := h.use (mp_5 (List.mem_of_getElem? (i := 5) rfl)) rfl
theorem sl_X12_which {U : State} (h : AllW U) {A : Array Value} : (Cond.selects RX12 yX12_which yX12_which).before A U = true := h.use (mp_5 (List.mem_of_getElem? (i := 6) rfl)) rfl
theorem sl_X12_is {U : State} (h : AllW U) {A : Array Value} : (Cond.selects RX12 yX12_is yX12_is).before A U = true := h.use (mp_5 (List.mem_of_getElem? (i := 7) rfl)) rfl
theorem sl_X12_wrong {U : State} (h : AllW U) {A : Array Value} : (Cond.selects RX12 yX12_wrong yX12_wrong).before A U = true := h.use (mp_5 (List.mem_of_getElem? (i := 8) rfl)) rfl
theorem sl_X12_readWall {U : State} (h : AllW U) {A : Array Value} : (Cond.selects RX12 yX12_readWall yX12_readWall).before A U = true := h.use (mp_5 (List.mem_of_getElem? (i := 9) rfl)) rfl
theorem sl_X12_readNumber {U : State} (h : AllW U) {A : Array Value} : (Cond.selects RX12 yX12_readNumber yX12_readNumber).before A U = true := h.use (mp_5 (List.mem_of_getElem? (i := 10) rfl)) rfl
theorem sl_X12_perhaps {U : State} (h : AllW U) {A : Array Value} : (Cond.selects RX12 yX12_perhaps yX12_perhaps).before A U = true := h.use (mp_5 (List.mem_of_getElem? (i := 11) rfl)) rfl
theorem sl_X12_passes {U : State} (h : AllW U) {A : Array Value} : (Cond.selects RX12 yX12_passes yX12_passes).before A U = true := h.use (mp_5 (List.mem_of_getElem? (i := 12) rfl)) rfl
theorem sl_X12_readBarn {U : State} (h : AllW U) {A : Array Value} : (Cond.selects RX12 yX12_readBarn yX12_readBarn).before A U = true := h.use (mp_5 (List.mem_of_getElem? (i := 13) rfl)) rfl
theorem sl_X12_readWood {U : State} (h : AllW U) {A : Array Value} : (Cond.selects RX12 yX12_readWood yX12_readWood).before A U = true := h.use (mp_5 (List.mem_of_getElem? (i := 14) rfl)) rfl
theorem sl_X12_semi {U : State} (h : AllW U) {A : Array Value} : (Cond.selects RX12 yX12_semi yX12_semi).before A U = true := h.use (mp_5 (List.mem_of_getElem? (i := 15) rfl)) rfl
theorem sl_X12_tellRow {U : State} (h : AllW U) {A : Array Value} : (Cond.selects RX12 yX12_tellRow yX12_tellRow).before A U = true := h.use (mp_6 (List.mem_of_getElem? (i := 0) rfl)) rfl
theorem sl_X12_tellEchoes {U : State} (h : AllW U) {A : Array Value} : (Cond.selects RX12 yX12_tellEchoes yX12_tellEchoes).before A U = true := h.use (mp_6 (List.mem_of_getElem? (i := 1) rfl)) rfl
theorem sl_X12_isOut {U : State} (h : AllW U) {A : Array Value} : (Cond.selects RX12 yX12_isOut yX12_isOut).before A U = true := h.use (mp_6 (List.mem_of_getElem? (i := 2) rfl)) rfl
theorem sl_X12_reach {U : State} (h : AllW U) {A : Array Value} : (Cond.selects RX12 yX12_reach yX12_reach).before A U = true := h.use (mp_6 (List.mem_of_getElem? (i := 3) rfl)) rfl
theorem sl_X12_ofWall {U : State} (h : AllW U) {A : Array Value} : (Cond.selects RX12 yX12_ofWall yX12_ofWall).before A U = true := h.use (mp_6 (List.mem_of_getElem? (i := 4) rfl)) rfl
theorem sl_X12_firstOf {U : State} (h : AllW U) {A : Array Value} : (Cond.selects RX12 yX12_firstOf yX12_firstOf).before A U = true := h.use (mp_6 (List.mem_of_getElem? (i := 5) rfl)) rfl
theorem sl_X12_throughWoods {U : State} (h : AllW U) {A : Array Value} : (Cond.selects RX12 yX12_throughWoods yX12_throughWoods).before A U = true := h.use (mp_6 (List.mem_of_getElem? (i := 6) rfl)) rfl
theorem sl_X12_meets {U : State} (h : AllW U) {A : Array Value} : (Cond.selects RX12 yX12_meets yX12_meets).before A U = true := h.use (mp_6 (List.mem_of_getElem? (i := 7) rfl)) rfl
theorem sl_X12_ofWood {U : State} (h : AllW U) {A : Array Value} : (Cond.selects RX12 yX12_ofWood yX12_ofWood).before A U = true := h.use (mp_6 (List.mem_of_getElem? (i := 8) rfl)) rfl
theorem sl_X12_barnOf {U : State} (h : AllW U) {A : Array Value} : (Cond.selects RX12 yX12_barnOf yX12_barnOf).before A U = true := h.use (mp_6 (List.mem_of_getElem? (i := 9) rfl)) rfl
theorem sl_X12_ofBarn {U : State} (h : AllW U) {A : Array Value} : (Cond.selects RX12 yX12_ofBarn yX12_ofBarn).before A U = true := h.use (mp_6 (List.mem_of_getElem? (i := 10) rfl)) rfl
theorem sl_X12_isHidden {U : State} (h : AllW U) {A : Array Value} : (Cond.selects RX12 yX12_isHidden yX12_isHidden).before A U = true := h.use (mp_6 (List.mem_of_getElem? (i := 11) rfl)) rfl
theorem sl_X12_secondOf {U : State} (h : AllW U) {A : Array Value} : (Cond.selects RX12 yX12_secondOf yX12_secondOf).before A U = true := h.use (mp_6 (List.mem_of_getElem? (i := 12) rfl)) rfl
theorem sl_X12_isHeard {U : State} (h : AllW U) {A : Array Value} : (Cond.selects RX12 yX12_isHeard yX12_isHeard).before A U = true := h.use (mp_6 (List.mem_of_getElem? (i := 13) rfl)) rfl
theorem sl_X12_tickOf {U : State} (h : AllW U) {A : Array Value} : (Cond.selects RX12 yX12_tickOf yX12_tickOf).before A U = true := h.use (mp_6 (List.mem_of_getElem? (i := 14) rfl)) rfl
theorem sl_X12_lay {U : State} (h : AllW U) {A : Array Value} : (Cond.selects RX12 yX12_lay yX12_lay).before A U = true := h.use (mp_6 (List.mem_of_getElem? (i := 15) rfl)) rfl
theorem sl_X12_isStation {U : State} (h : AllW U) {A : Array Value} : (Cond.selects RX12 yX12_isStation yX12_isStation).before A U = true := h.use (mp_7 (List.mem_of_getElem? (i := 0) rfl)) rfl
theorem sl_X12_isNamed {U : State} (h : AllW U) {A : Array Value} : (Cond.selects RX12 yX12_isNamed yX12_isNamed).before A U = true := h.use (mp_7 (List.mem_of_getElem? (i := 1) rfl)) rfl
theorem sl_X12_fitsAt {U : State} (h : AllW U) {A : Array Value} : (Cond.selects RX12 yX12_fitsAt yX12_fitsAt).before A U = true := h.use (mp_7 (List.mem_of_getElem? (i := 2) rfl)) rfl
theorem sl_X12_isWritten {U : State} (h : AllW U) {A : Array Value} : (Cond.selects RX12 yX12_isWritten yX12_isWritten).before A U = true := h.use (mp_7 (List.mem_of_getElem? (i := 3) rfl)) rfl
theorem sl_X12_allFit {U : State} (h : AllW U) {A : Array Value} : (Cond.selects RX12 yX12_allFit yX12_allFit).before A U = true := h.use (mp_7 (List.mem_of_getElem? (i := 4) rfl)) rfl
theorem sl_X12_tryPlan {U : State} (h : AllW U) {A : Array Value} : (Cond.selects RX12 yX12_tryPlan yX12_tryPlan).before A U = true := h.use (mp_7 (List.mem_of_getElem? (i := 5) rfl)) rfl
theorem sl_X12_isPlan {U : State} (h : AllW U) {A : Array Value} : (Cond.selects RX12 yX12_isPlan yX12_isPlan).before A U = true := h.use (mp_7 (List.mem_of_getElem? (i := 6) rfl)) rfl
theorem sl_X12_tellLikes {U : State} (h : AllW U) {A : Array Value} : (Cond.selects RX12 yX12_tellLikes yX12_tellLikes).before A U = true := h.use (mp_7 (List.mem_of_getElem? (i := 7) rfl)) rfl
theorem sl_X12_areAlike {U : State} (h : AllW U) {A : Array Value} : (Cond.selects RX12 yX12_areAlike yX12_areAlike).before A U = true := h.use (mp_7 (List.mem_of_getElem? (i := 8) rfl)) rfl
theorem sl_X12_clapsBy {U : State} (h : AllW U) {A : Array Value} : (Cond.selects RX12 yX12_clapsBy yX12_clapsBy).before A U = true := h.use (mp_7 (List.mem_of_getElem? (i := 9) rfl)) rfl
theorem sl_X12_tellThief {U : State} (h : AllW U) {A : Array Value} : (Cond.selects RX12 yX12_tellThief yX12_tellThief).before A U = true := h.use (mp_7 (List.mem_of_getElem? (i := 10) rfl)) rfl
