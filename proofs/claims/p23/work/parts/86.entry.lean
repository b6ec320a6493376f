/-! what holds at the law's entry -/
theorem tb_1 : (Jvm.Cond.initialized "FullHouse") ∈ lw_tbl := List.mem_append_right _ (List.mem_append_left _ (List.mem_of_getElem? (i := 1) rfl))
theorem tb_14 : (Jvm.Cond.initialized "java/lang/Throwable") ∈ lw_tbl := List.mem_append_right _ (List.mem_append_left _ (List.mem_of_getElem? (i := 14) rfl))
theorem tb_18 : (Jvm.Cond.initialized "java/lang/String") ∈ lw_tbl := List.mem_append_right _ (List.mem_append_left _ (List.mem_of_getElem? (i := 18) rfl))
theorem tb_20 : (Jvm.Cond.initialized "jdk/internal/util/Preconditions") ∈ lw_tbl := List.mem_append_right _ (List.mem_append_left _ (List.mem_of_getElem? (i := 20) rfl))
theorem tb_35 : (Jvm.Cond.methodLinkNest "FullHouse" (9 : Nat) ({ cls := "FullHouse$Reader", name := "<init>", desc := "()V" } : Jvm.MethodName) "FullHouse") ∈ lw_tbl := List.mem_append_right _ (List.mem_append_left _ (List.mem_of_getElem? (i := 35) rfl))
theorem tb_41 : (Jvm.Cond.methodLinkNest "FullHouse$Reader" (11 : Nat) ({ cls := "FullHouse$Tokens", name := "<init>", desc := "()V" } : Jvm.MethodName) "FullHouse") ∈ lw_tbl := List.mem_append_right _ (List.mem_append_left _ (List.mem_of_getElem? (i := 41) rfl))
theorem tb_82 : (Jvm.Cond.methodLinkNest "FullHouse" (18 : Nat) ({ cls := "FullHouse$House", name := "<init>", desc := "()V" } : Jvm.MethodName) "FullHouse") ∈ lw_tbl := List.mem_append_right _ (List.mem_append_left _ (List.mem_of_getElem? (i := 82) rfl))
theorem tb_184 : (Jvm.Cond.methodLinkNest "FullHouse" (28 : Nat) ({ cls := "FullHouse$Spans", name := "<init>", desc := "()V" } : Jvm.MethodName) "FullHouse") ∈ lw_tbl := List.mem_append_right _ (List.mem_append_left _ (List.mem_of_getElem? (i := 184) rfl))
theorem tb_199 : (Jvm.Cond.methodLinkNest "FullHouse" (35 : Nat) ({ cls := "FullHouse$Lefts", name := "<init>", desc := "()V" } : Jvm.MethodName) "FullHouse") ∈ lw_tbl := List.mem_append_right _ (List.mem_append_left _ (List.mem_of_getElem? (i := 199) rfl))
theorem tb_213 : (Jvm.Cond.methodLinkNest "FullHouse" (42 : Nat) ({ cls := "FullHouse$Rows", name := "<init>", desc := "()V" } : Jvm.MethodName) "FullHouse") ∈ lw_tbl := List.mem_append_right _ (List.mem_append_left _ (List.mem_of_getElem? (i := 213) rfl))
theorem tb_232 : (Jvm.Cond.methodLinkNest "FullHouse" (49 : Nat) ({ cls := "FullHouse$Learning", name := "<init>", desc := "()V" } : Jvm.MethodName) "FullHouse") ∈ lw_tbl := List.mem_append_right _ (List.mem_append_left _ (List.mem_of_getElem? (i := 232) rfl))
theorem tb_237 : (Jvm.Cond.methodLinkNest "FullHouse$Learning" (11 : Nat) ({ cls := "FullHouse$Lefts", name := "<init>", desc := "()V" } : Jvm.MethodName) "FullHouse") ∈ lw_tbl := List.mem_append_right _ (List.mem_append_left _ (List.mem_of_getElem? (i := 237) rfl))
theorem tb_253 : (Jvm.Cond.methodLinkNest "FullHouse" (56 : Nat) ({ cls := "FullHouse$Guest", name := "<init>", desc := "()V" } : Jvm.MethodName) "FullHouse") ∈ lw_tbl := List.mem_append_right _ (List.mem_append_right _ (List.mem_append_left _ (List.mem_of_getElem? (i := 13) rfl)))
theorem tb_269 : (Jvm.Cond.methodLinkNest "FullHouse" (67 : Nat) ({ cls := "FullHouse$Weeks", name := "<init>", desc := "()V" } : Jvm.MethodName) "FullHouse") ∈ lw_tbl := List.mem_append_right _ (List.mem_append_right _ (List.mem_append_left _ (List.mem_of_getElem? (i := 29) rfl)))
theorem tb_466 : (Jvm.Cond.castable "java/lang/IllegalArgumentException" "java/lang/IllegalArgumentException") ∈ lw_tbl := List.mem_append_right _ (List.mem_append_right _ (List.mem_append_left _ (List.mem_of_getElem? (i := 226) rfl)))
theorem tb_468 : (Jvm.Cond.declares ({ cls := "java/lang/RuntimeException", name := "<init>", desc := "(Ljava/lang/String;)V" } : Jvm.MethodName)) ∈ lw_tbl := List.mem_append_right _ (List.mem_append_right _ (List.mem_append_left _ (List.mem_of_getElem? (i := 228) rfl)))
theorem tb_470 : (Jvm.Cond.declares ({ cls := "java/lang/Exception", name := "<init>", desc := "(Ljava/lang/String;)V" } : Jvm.MethodName)) ∈ lw_tbl := List.mem_append_right _ (List.mem_append_right _ (List.mem_append_left _ (List.mem_of_getElem? (i := 230) rfl)))
theorem tb_472 : (Jvm.Cond.declares ({ cls := "java/lang/Throwable", name := "<init>", desc := "(Ljava/lang/String;)V" } : Jvm.MethodName)) ∈ lw_tbl := List.mem_append_right _ (List.mem_append_right _ (List.mem_append_left _ (List.mem_of_getElem? (i := 232) rfl)))
theorem tb_491 : (Jvm.Cond.laysStatic "java/lang/Throwable" "UNASSIGNED_STACK" "[Ljava/lang/StackTraceElement;") ∈ lw_tbl := List.mem_append_right _ (List.mem_append_right _ (List.mem_append_right _ (List.mem_append_left _ (List.mem_of_getElem? (i := 11) rfl))))
theorem tb_493 : (Jvm.Cond.laysStatic "java/lang/Throwable" "SUPPRESSED_SENTINEL" "Ljava/util/List;") ∈ lw_tbl := List.mem_append_right _ (List.mem_append_right _ (List.mem_append_right _ (List.mem_append_left _ (List.mem_of_getElem? (i := 13) rfl))))
theorem tb_504 : (Jvm.Cond.stringRef "FullHouse" (100 : Nat) "the tape has not so many bytes") ∈ lw_tbl := List.mem_append_right _ (List.mem_append_right _ (List.mem_append_right _ (List.mem_append_left _ (List.mem_of_getElem? (i := 24) rfl))))
theorem tb_560 : (Jvm.Cond.stringRef "FullHouse$Reader" (44 : Nat) "person") ∈ lw_tbl := List.mem_append_right _ (List.mem_append_right _ (List.mem_append_right _ (List.mem_append_left _ (List.mem_of_getElem? (i := 80) rfl))))
theorem tb_574 : (Jvm.Cond.laysStatic "java/lang/String" "COMPACT_STRINGS" "Z") ∈ lw_tbl := List.mem_append_right _ (List.mem_append_right _ (List.mem_append_right _ (List.mem_append_left _ (List.mem_of_getElem? (i := 94) rfl))))
theorem tb_590 : (Jvm.Cond.laysStatic "jdk/internal/util/Preconditions" "SIOOBE_FORMATTER" "Ljava/util/function/BiFunction;") ∈ lw_tbl := List.mem_append_right _ (List.mem_append_right _ (List.mem_append_right _ (List.mem_append_left _ (List.mem_of_getElem? (i := 110) rfl))))
theorem tb_633 : (Jvm.Cond.stringRef "FullHouse$Reader" (84 : Nat) "drawn") ∈ lw_tbl := List.mem_append_right _ (List.mem_append_right _ (List.mem_append_right _ (List.mem_append_left _ (List.mem_of_getElem? (i := 153) rfl))))
theorem tb_650 : (Jvm.Cond.stringRef "FullHouse$Reader" (53 : Nat) "work") ∈ lw_tbl := List.mem_append_right _ (List.mem_append_right _ (List.mem_append_right _ (List.mem_append_left _ (List.mem_of_getElem? (i := 170) rfl))))
theorem tb_666 : (Jvm.Cond.stringRef "FullHouse$Reader" (58 : Nat) "can") ∈ lw_tbl := List.mem_append_right _ (List.mem_append_right _ (List.mem_append_right _ (List.mem_append_left _ (List.mem_of_getElem? (i := 186) rfl))))
theorem tb_687 : (Jvm.Cond.stringRef "FullHouse$Reader" (63 : Nat) "learn") ∈ lw_tbl := List.mem_append_right _ (List.mem_append_right _ (List.mem_append_right _ (List.mem_append_left _ (List.mem_of_getElem? (i := 207) rfl))))
theorem tb_696 : (Jvm.Cond.stringRef "FullHouse$Reader" (68 : Nat) "forget") ∈ lw_tbl := List.mem_append_right _ (List.mem_append_right _ (List.mem_append_right _ (List.mem_append_left _ (List.mem_of_getElem? (i := 216) rfl))))
theorem tb_711 : (Jvm.Cond.castable "java/util/NoSuchElementException" "java/util/NoSuchElementException") ∈ lw_tbl := List.mem_append_right _ (List.mem_append_right _ (List.mem_append_right _ (List.mem_append_left _ (List.mem_of_getElem? (i := 231) rfl))))
theorem tb_718 : (Jvm.Cond.stringRef "FullHouse" (129 : Nat) "no such count") ∈ lw_tbl := List.mem_append_right _ (List.mem_append_right _ (List.mem_append_right _ (List.mem_append_left _ (List.mem_of_getElem? (i := 238) rfl))))
theorem tb_736 : (Jvm.Cond.stringRef "FullHouse" (350 : Nat) "no such person") ∈ lw_tbl := List.mem_append_right _ (List.mem_append_right _ (List.mem_append_right _ (List.mem_append_right _ (List.mem_append_left _ (List.mem_of_getElem? (i := 16) rfl)))))
theorem tb_737 : (Jvm.Cond.stringRef "FullHouse" (144 : Nat) "no such what of a person") ∈ lw_tbl := List.mem_append_right _ (List.mem_append_right _ (List.mem_append_right _ (List.mem_append_right _ (List.mem_append_left _ (List.mem_of_getElem? (i := 17) rfl)))))
theorem tb_749 : (Jvm.Cond.stringRef "FullHouse" (352 : Nat) "no such work") ∈ lw_tbl := List.mem_append_right _ (List.mem_append_right _ (List.mem_append_right _ (List.mem_append_right _ (List.mem_append_left _ (List.mem_of_getElem? (i := 29) rfl)))))
theorem tb_750 : (Jvm.Cond.stringRef "FullHouse" (158 : Nat) "no such what of a work") ∈ lw_tbl := List.mem_append_right _ (List.mem_append_right _ (List.mem_append_right _ (List.mem_append_right _ (List.mem_append_left _ (List.mem_of_getElem? (i := 30) rfl)))))
theorem tb_765 : (Jvm.Cond.stringRef "FullHouse" (163 : Nat) "no such teaching") ∈ lw_tbl := List.mem_append_right _ (List.mem_append_right _ (List.mem_append_right _ (List.mem_append_right _ (List.mem_append_left _ (List.mem_of_getElem? (i := 45) rfl)))))
theorem tb_766 : (Jvm.Cond.stringRef "FullHouse" (177 : Nat) "no such what of a teaching") ∈ lw_tbl := List.mem_append_right _ (List.mem_append_right _ (List.mem_append_right _ (List.mem_append_right _ (List.mem_append_left _ (List.mem_of_getElem? (i := 46) rfl)))))
theorem tb_779 : (Jvm.Cond.stringRef "FullHouse" (357 : Nat) "people that there aren't") ∈ lw_tbl := List.mem_append_right _ (List.mem_append_right _ (List.mem_append_right _ (List.mem_append_right _ (List.mem_append_left _ (List.mem_of_getElem? (i := 59) rfl)))))
theorem tb_824 : (Jvm.Cond.stringRef "FullHouse" (198 : Nat) "no row is kept") ∈ lw_tbl := List.mem_append_right _ (List.mem_append_right _ (List.mem_append_right _ (List.mem_append_right _ (List.mem_append_left _ (List.mem_of_getElem? (i := 104) rfl)))))
theorem tb_888 : (Jvm.Cond.stringRef "FullHouse" (243 : Nat) "no such what of any") ∈ lw_tbl := List.mem_append_right _ (List.mem_append_right _ (List.mem_append_right _ (List.mem_append_right _ (List.mem_append_left _ (List.mem_of_getElem? (i := 168) rfl)))))
theorem tb_937 : (Jvm.Cond.stringRef "FullHouse" (255 : Nat) "no such what of learn") ∈ lw_tbl := List.mem_append_right _ (List.mem_append_right _ (List.mem_append_right _ (List.mem_append_right _ (List.mem_append_left _ (List.mem_of_getElem? (i := 217) rfl)))))
theorem tb_945 : (Jvm.Cond.stringRef "FullHouse" (266 : Nat) "no such what of worth") ∈ lw_tbl := List.mem_append_right _ (List.mem_append_right _ (List.mem_append_right _ (List.mem_append_right _ (List.mem_append_left _ (List.mem_of_getElem? (i := 225) rfl)))))
theorem tb_947 : (Jvm.Cond.laysStatic "FullHouse" "FACTORIALS" "[I") ∈ lw_tbl := List.mem_append_right _ (List.mem_append_right _ (List.mem_append_right _ (List.mem_append_right _ (List.mem_append_left _ (List.mem_of_getElem? (i := 227) rfl)))))
theorem tb_965 : (Jvm.Cond.stringRef "FullHouse" (277 : Nat) "works that there aren't") ∈ lw_tbl := List.mem_append_right _ (List.mem_append_right _ (List.mem_append_right _ (List.mem_append_right _ (List.mem_append_right _ (List.mem_append_left _ (List.mem_of_getElem? (i := 5) rfl))))))
theorem tb_994 : (Jvm.Cond.stringRef "FullHouse" (283 : Nat) "not so many works") ∈ lw_tbl := List.mem_append_right _ (List.mem_append_right _ (List.mem_append_right _ (List.mem_append_right _ (List.mem_append_right _ (List.mem_append_left _ (List.mem_of_getElem? (i := 34) rfl))))))
theorem tb_1002 : (Jvm.Cond.stringRef "FullHouse" (285 : Nat) "told is not 0 to 1000") ∈ lw_tbl := List.mem_append_right _ (List.mem_append_right _ (List.mem_append_right _ (List.mem_append_right _ (List.mem_append_right _ (List.mem_append_left _ (List.mem_of_getElem? (i := 42) rfl))))))
theorem tb_1010 : (Jvm.Cond.stringRef "FullHouse" (287 : Nat) "days are not 0 to 5000") ∈ lw_tbl := List.mem_append_right _ (List.mem_append_right _ (List.mem_append_right _ (List.mem_append_right _ (List.mem_append_right _ (List.mem_append_left _ (List.mem_of_getElem? (i := 50) rfl))))))
theorem tb_1020 : (Jvm.Cond.stringRef "FullHouse" (297 : Nat) "weeks are not 0 to 60") ∈ lw_tbl := List.mem_append_right _ (List.mem_append_right _ (List.mem_append_right _ (List.mem_append_right _ (List.mem_append_right _ (List.mem_append_left _ (List.mem_of_getElem? (i := 60) rfl))))))
theorem tb_1057 : (Jvm.Cond.stringRef "FullHouse" (307 : Nat) "the week hasn't been") ∈ lw_tbl := List.mem_append_right _ (List.mem_append_right _ (List.mem_append_right _ (List.mem_append_right _ (List.mem_append_right _ (List.mem_append_left _ (List.mem_of_getElem? (i := 97) rfl))))))
theorem tb_1070 : (Jvm.Cond.stringRef "FullHouse" (315 : Nat) "no such what of a week") ∈ lw_tbl := List.mem_append_right _ (List.mem_append_right _ (List.mem_append_right _ (List.mem_append_right _ (List.mem_append_right _ (List.mem_append_left _ (List.mem_of_getElem? (i := 110) rfl))))))
theorem tb_1079 : (Jvm.Cond.stringRef "FullHouse" (318 : Nat) "no weeks have begun") ∈ lw_tbl := List.mem_append_right _ (List.mem_append_right _ (List.mem_append_right _ (List.mem_append_right _ (List.mem_append_right _ (List.mem_append_left _ (List.mem_of_getElem? (i := 119) rfl))))))
theorem st_in : ∀ x ∈ aStrs, Cond.stringRef x.1 x.2.1 x.2.2.1 ∈ lw_tbl := List.forall_mem_cons.mpr ⟨tb_504, List.forall_mem_cons.mpr ⟨tb_560, List.forall_mem_cons.mpr ⟨tb_633, List.forall_mem_cons.mpr ⟨tb_650, List.forall_mem_cons.mpr ⟨tb_666, List.forall_mem_cons.mpr ⟨tb_687, List.forall_mem_cons.mpr ⟨tb_696, List.forall_mem_cons.mpr ⟨tb_718, List.forall_mem_cons.mpr ⟨tb_736, List.forall_mem_cons.mpr ⟨tb_737, List.forall_mem_cons.mpr ⟨tb_749, List.forall_mem_cons.mpr ⟨tb_750, List.forall_mem_cons.mpr ⟨tb_765, List.forall_mem_cons.mpr ⟨tb_766, List.forall_mem_cons.mpr ⟨tb_779, List.forall_mem_cons.mpr ⟨tb_824, List.forall_mem_cons.mpr ⟨tb_888, List.forall_mem_cons.mpr ⟨tb_937, List.forall_mem_cons.mpr ⟨tb_945, List.forall_mem_cons.mpr ⟨tb_965, List.forall_mem_cons.mpr ⟨tb_994, List.forall_mem_cons.mpr ⟨tb_1002, List.forall_mem_cons.mpr ⟨tb_1010, List.forall_mem_cons.mpr ⟨tb_1020, List.forall_mem_cons.mpr ⟨tb_1057, List.forall_mem_cons.mpr ⟨tb_1070, List.forall_mem_cons.mpr ⟨tb_1079, fun _ h => absurd h List.not_mem_nil⟩⟩⟩⟩⟩⟩⟩⟩⟩⟩⟩⟩⟩⟩⟩⟩⟩⟩⟩⟩⟩⟩⟩⟩⟩⟩⟩
theorem st_one : ∀ x ∈ aStrs, ∀ y ∈ aStrs, x.2.2.2 = y.2.2.2 → x = y := by decide +kernel
theorem st_pos : ∀ x ∈ aStrs, x.2.2.2 ≠ 0 := by decide +kernel
theorem ne_in : ∀ x ∈ aNests, Cond.methodLinkNest x.1 x.2.1 x.2.2.1 x.2.2.2 ∈ lw_tbl := List.forall_mem_cons.mpr ⟨tb_35, List.forall_mem_cons.mpr ⟨tb_41, List.forall_mem_cons.mpr ⟨tb_82, List.forall_mem_cons.mpr ⟨tb_184, List.forall_mem_cons.mpr ⟨tb_199, List.forall_mem_cons.mpr ⟨tb_213, List.forall_mem_cons.mpr ⟨tb_232, List.forall_mem_cons.mpr ⟨tb_237, List.forall_mem_cons.mpr ⟨tb_253, List.forall_mem_cons.mpr ⟨tb_269, fun _ h => absurd h List.not_mem_nil⟩⟩⟩⟩⟩⟩⟩⟩⟩⟩
theorem de_in : ∀ x ∈ aDecls, Cond.declares x ∈ lw_tbl := List.forall_mem_cons.mpr ⟨tb_468, List.forall_mem_cons.mpr ⟨tb_470, List.forall_mem_cons.mpr ⟨tb_472, fun _ h => absurd h List.not_mem_nil⟩⟩⟩
theorem xx_in : ∀ x ∈ aXs, Cond.castable x x ∈ lw_tbl := List.forall_mem_cons.mpr ⟨tb_466, List.forall_mem_cons.mpr ⟨tb_711, fun _ h => absurd h List.not_mem_nil⟩⟩
theorem str_at {args : Array Value} {s : State} {own tx : String} {k : Nat} (h : (Cond.stringRef own k tx).before args s = true) : ∃ a, vk_R own k tx a s := by
  have hcur : ∃ cur, s.vm.findClass own = some cur := by
    have h1 := h
    simp only [Cond.before, Cond.holds, Cond.value] at h1
    cases hc : s.vm.findClass own with
    | none => simp [hc] at h1
    | some cur => exact ⟨cur, rfl⟩
  obtain ⟨cur, hcur⟩ := hcur
  obtain ⟨k', cf, i, a, -, -, -, -, -, he⟩ := Cond.stringRef_spec hcur h
  exact ⟨a, vk_R.of h he⟩
theorem strs_at {args : Array Value} {s : State} (b : Nat) (hts : ∀ w ∈ lw_tbl, w.before args s = true) : ∃ f : Nat → Nat, f 0 = b ∧ ∀ x ∈ aStrs, vk_R x.1 x.2.1 x.2.2.1 (f x.2.2.2) s := by
  have h : ∀ n : Nat, ∃ a : Nat, (n = 0 → a = b) ∧ ∀ x ∈ aStrs, x.2.2.2 = n → vk_R x.1 x.2.1 x.2.2.1 a s := by
    intro n
    by_cases h0 : n = 0
    · exact ⟨b, fun _ => rfl, fun x hx e => absurd (e.trans h0) (st_pos x hx)⟩
    · by_cases h1 : ∃ x ∈ aStrs, x.2.2.2 = n
      · obtain ⟨x, hx, e⟩ := h1
        obtain ⟨a, ha⟩ := str_at (hts _ (st_in x hx))
        refine ⟨a, fun h => absurd h h0, fun y hy e2 => ?_⟩
        have e3 := st_one y hy x hx (e2.trans e.symm)
        subst e3
        exact ha
      · exact ⟨0, fun h => absurd h h0, fun y hy e2 => absurd ⟨y, hy, e2⟩ h1⟩
  obtain ⟨f, hf⟩ := Classical.axiomOfChoice h
  exact ⟨f, (hf 0).1 rfl, fun x hx => (hf _).2 x hx rfl⟩
theorem cls_at {args : Array Value} {s : State} (hts : ∀ w ∈ GW, w.before args s = true) : ∃ D : va_G, va_K D vwCl [] s := by
  have h : ∀ k : Nat, ∃ p : ClassId × (Nat → Nat), ∀ q : vw_C, vwCl[k]? = some q → u_Kn s q.1 q.2.1 q.2.2 p.1 p.2 := by
    intro k
    match k with
    | 0 =>
      obtain ⟨c, iS, h⟩ := u_known (C := RX0) (T := TX0) (N := 3) (n := 3) hts cl_0.1 (hts (.instantiable RX0 3) gw_252)
      exact ⟨(c, iS), fun q hq => by cases hq; exact h⟩
    | 1 =>
      obtain ⟨c, iS, h⟩ := u_known (C := RX1) (T := TX1) (N := 16) (n := 16) hts cl_1.1 (hts (.instantiable RX1 16) gw_81)
      exact ⟨(c, iS), fun q hq => by cases hq; exact h⟩
    | 2 =>
      obtain ⟨c, iS, h⟩ := u_known (C := RX2) (T := TX2) (N := 4) (n := 4) hts cl_2.1 (hts (.instantiable RX2 4) gw_231)
      exact ⟨(c, iS), fun q hq => by cases hq; exact h⟩
    | 3 =>
      obtain ⟨c, iS, h⟩ := u_known (C := RX3) (T := TX3) (N := 2) (n := 2) hts cl_3.1 (hts (.instantiable RX3 2) gw_198)
      exact ⟨(c, iS), fun q hq => by cases hq; exact h⟩
    | 4 =>
      obtain ⟨c, iS, h⟩ := u_known (C := RX4) (T := TX4) (N := 3) (n := 3) hts cl_4.1 (hts (.instantiable RX4 3) gw_34)
      exact ⟨(c, iS), fun q hq => by cases hq; exact h⟩
    | 5 =>
      obtain ⟨c, iS, h⟩ := u_known (C := RX5) (T := TX5) (N := 4) (n := 4) hts cl_5.1 (hts (.instantiable RX5 4) gw_212)
      exact ⟨(c, iS), fun q hq => by cases hq; exact h⟩
    | 6 =>
      obtain ⟨c, iS, h⟩ := u_known (C := RX6) (T := TX6) (N := 2) (n := 2) hts cl_6.1 (hts (.instantiable RX6 2) gw_183)
      exact ⟨(c, iS), fun q hq => by cases hq; exact h⟩
    | 7 =>
      obtain ⟨c, iS, h⟩ := u_known (C := RX7) (T := TX7) (N := 6) (n := 6) hts cl_7.1 (hts (.instantiable RX7 6) gw_40)
      exact ⟨(c, iS), fun q hq => by cases hq; exact h⟩
    | 8 =>
      obtain ⟨c, iS, h⟩ := u_known (C := RX8) (T := TX8) (N := 6) (n := 6) hts cl_8.1 (hts (.instantiable RX8 6) gw_268)
      exact ⟨(c, iS), fun q hq => by cases hq; exact h⟩
    | 9 =>
      obtain ⟨c, iS, h⟩ := u_known (C := RX9) (T := TX9) (N := 14) (n := 14) hts cl_9.1 (hts (.instantiable RX9 14) gw_26)
      exact ⟨(c, iS), fun q hq => by cases hq; exact h⟩
    | 10 =>
      obtain ⟨c, iS, h⟩ := u_known (C := RX10) (T := TX10) (N := 64) (n := 64) hts cl_10.1 (hts (.instantiable RX10 64) gw_1081)
      exact ⟨(c, iS), fun q hq => by cases hq; exact h⟩
    | k + 11 => exact ⟨(0, fun _ => 0), fun q hq => by simp [vwCl] at hq⟩
  obtain ⟨f, hf⟩ := Classical.axiomOfChoice h
  exact ⟨(fun k => (f k).1, fun k => (f k).2), fun c q hq => hf c q hq, fun k q h => by simp at h⟩
/-- a constant text's object, out of what the Statement gives -/
theorem str_full {args : Array Value} {s : State} {t : Term} {N : Nat} {b : List Int32} {A : Nat → Prop} (hN : N < 2 ^ 31) (hex : (Cond.exactly t "java/lang/String").before args s = true) (hco : (Cond.eq (.field t "java/lang/String" "coder" "B") (.int 0)).before args s = true) (har : (Cond.arrayOf (.field t "java/lang/String" "value" "[B") .byte).before args s = true) (hle : (Cond.eq (.length (.field t "java/lang/String" "value" "[B")) (.int (Int32.ofNat N))).before args s = true)
    (hel : ∀ j : Nat, j < N → (Cond.eq (.elem (.field t "java/lang/String" "value" "[B") (.int (Int32.ofNat j))) (.int (b.getD j 0))).before args s = true) (hA : ∀ a : Nat, a < s.heap.size → ¬ A a) : ∃ a v : Nat, t.eval args s none [] s = some (.ref a) ∧ va_O "java/lang/String" a A s s.heap ∧ va_OF "java/lang/String" "coder" "B" (.int 0) a A s s.heap ∧ va_OF "java/lang/String" "value" "[B" (.ref v) a A s s.heap ∧ va_T .byte v N (fun j => .int (b.getD j 0)) A s s.heap := by
  obtain ⟨a, c, cA, kA, q1, q2, q3, q4, q5, q6, -⟩ := Cond.exactly_spec (args := args) (first := s) (o := none) (s := s) (idx := []) (t := t) (cls := "java/lang/String") hex
  obtain ⟨v, hv, hT⟩ := va_Tof (f := fun j => .int (b.getD j 0)) (A := A) hN har (va_eqt hle) (fun j hj => va_eqt (hel j hj)) hA
  exact ⟨a, v, q1, ⟨cA, q3, q5, by rw [q6]; exact q2, hA a (Array.getElem?_eq_some_iff.mp q3).1⟩, vk_OFof q1 (va_eqt hco) hA, vk_OFof q1 hv hA, hT⟩
theorem txt_2 {args : Array Value} {s : State} {A : Nat → Prop} (hgv : (Jvm.Cond.and given_1 narrow_1).before args s = true) (hA : ∀ a : Nat, a < s.heap.size → ¬ A a) {a0 : Nat} (h0 : vk_R "FullHouse$Reader" 44 "person" a0 s) : ∃ v : Nat, va_O "java/lang/String" a0 A s s.heap ∧ va_OF "java/lang/String" "coder" "B" (.int 0) a0 A s s.heap ∧ va_OF "java/lang/String" "value" "[B" (.ref v) a0 A s s.heap ∧ va_T .byte v 6 (fun j => .int (([112, 101, 114, 115, 111, 110] : List Int32).getD j 0)) A s s.heap := by
  have hs := flat_of_before _ hgv
  obtain ⟨a, v, e, h⟩ := str_full (args := args) (t := .string "FullHouse$Reader" 44) (N := 6) (b := [112, 101, 114, 115, 111, 110]) (by decide) (hs _ (by decide +kernel)) (hs _ (by decide +kernel)) (hs _ (by decide +kernel)) (hs _ (by decide +kernel)) (fun j hj => match j, hj with | 0, _ => hs _ (by decide +kernel) | 1, _ => hs _ (by decide +kernel) | 2, _ => hs _ (by decide +kernel) | 3, _ => hs _ (by decide +kernel) | 4, _ => hs _ (by decide +kernel) | 5, _ => hs _ (by decide +kernel) | j + 6, h => absurd h (by omega)) hA
  have e2 : (Term.string "FullHouse$Reader" 44).eval args s none [] s = some (.ref a0) := h0.2
  have e3 : a = a0 := by
    have := e.symm.trans e2
    simpa using this
  subst e3
  exact ⟨v, h⟩
theorem txt_3 {args : Array Value} {s : State} {A : Nat → Prop} (hgv : (Jvm.Cond.and given_1 narrow_1).before args s = true) (hA : ∀ a : Nat, a < s.heap.size → ¬ A a) {a0 : Nat} (h0 : vk_R "FullHouse$Reader" 84 "drawn" a0 s) : ∃ v : Nat, va_O "java/lang/String" a0 A s s.heap ∧ va_OF "java/lang/String" "coder" "B" (.int 0) a0 A s s.heap ∧ va_OF "java/lang/String" "value" "[B" (.ref v) a0 A s s.heap ∧ va_T .byte v 5 (fun j => .int (([100, 114, 97, 119, 110] : List Int32).getD j 0)) A s s.heap := by
  have hs := flat_of_before _ hgv
  obtain ⟨a, v, e, h⟩ := str_full (args := args) (t := .string "FullHouse$Reader" 84) (N := 5) (b := [100, 114, 97, 119, 110]) (by decide) (hs _ (by decide +kernel)) (hs _ (by decide +kernel)) (hs _ (by decide +kernel)) (hs _ (by decide +kernel)) (fun j hj => match j, hj with | 0, _ => hs _ (by decide +kernel) | 1, _ => hs _ (by decide +kernel) | 2, _ => hs _ (by decide +kernel) | 3, _ => hs _ (by decide +kernel) | 4, _ => hs _ (by decide +kernel) | j + 5, h => absurd h (by omega)) hA
  have e2 : (Term.string "FullHouse$Reader" 84).eval args s none [] s = some (.ref a0) := h0.2
  have e3 : a = a0 := by
    have := e.symm.trans e2
    simpa using this
  subst e3
  exact ⟨v, h⟩
theorem txt_4 {args : Array Value} {s : State} {A : Nat → Prop} (hgv : (Jvm.Cond.and given_1 narrow_1).before args s = true) (hA : ∀ a : Nat, a < s.heap.size → ¬ A a) {a0 : Nat} (h0 : vk_R "FullHouse$Reader" 53 "work" a0 s) : ∃ v : Nat, va_O "java/lang/String" a0 A s s.heap ∧ va_OF "java/lang/String" "coder" "B" (.int 0) a0 A s s.heap ∧ va_OF "java/lang/String" "value" "[B" (.ref v) a0 A s s.heap ∧ va_T .byte v 4 (fun j => .int (([119, 111, 114, 107] : List Int32).getD j 0)) A s s.heap := by
  have hs := flat_of_before _ hgv
  obtain ⟨a, v, e, h⟩ := str_full (args := args) (t := .string "FullHouse$Reader" 53) (N := 4) (b := [119, 111, 114, 107]) (by decide) (hs _ (by decide +kernel)) (hs _ (by decide +kernel)) (hs _ (by decide +kernel)) (hs _ (by decide +kernel)) (fun j hj => match j, hj with | 0, _ => hs _ (by decide +kernel) | 1, _ => hs _ (by decide +kernel) | 2, _ => hs _ (by decide +kernel) | 3, _ => hs _ (by decide +kernel) | j + 4, h => absurd h (by omega)) hA
  have e2 : (Term.string "FullHouse$Reader" 53).eval args s none [] s = some (.ref a0) := h0.2
  have e3 : a = a0 := by
    have := e.symm.trans e2
    simpa using this
  subst e3
  exact ⟨v, h⟩
theorem txt_5 {args : Array Value} {s : State} {A : Nat → Prop} (hgv : (Jvm.Cond.and given_1 narrow_1).before args s = true) (hA : ∀ a : Nat, a < s.heap.size → ¬ A a) {a0 : Nat} (h0 : vk_R "FullHouse$Reader" 58 "can" a0 s) : ∃ v : Nat, va_O "java/lang/String" a0 A s s.heap ∧ va_OF "java/lang/String" "coder" "B" (.int 0) a0 A s s.heap ∧ va_OF "java/lang/String" "value" "[B" (.ref v) a0 A s s.heap ∧ va_T .byte v 3 (fun j => .int (([99, 97, 110] : List Int32).getD j 0)) A s s.heap := by
  have hs := flat_of_before _ hgv
  obtain ⟨a, v, e, h⟩ := str_full (args := args) (t := .string "FullHouse$Reader" 58) (N := 3) (b := [99, 97, 110]) (by decide) (hs _ (by decide +kernel)) (hs _ (by decide +kernel)) (hs _ (by decide +kernel)) (hs _ (by decide +kernel)) (fun j hj => match j, hj with | 0, _ => hs _ (by decide +kernel) | 1, _ => hs _ (by decide +kernel) | 2, _ => hs _ (by decide +kernel) | j + 3, h => absurd h (by omega)) hA
  have e2 : (Term.string "FullHouse$Reader" 58).eval args s none [] s = some (.ref a0) := h0.2
  have e3 : a = a0 := by
    have := e.symm.trans e2
    simpa using this
  subst e3
  exact ⟨v, h⟩
theorem txt_6 {args : Array Value} {s : State} {A : Nat → Prop} (hgv : (Jvm.Cond.and given_1 narrow_1).before args s = true) (hA : ∀ a : Nat, a < s.heap.size → ¬ A a) {a0 : Nat} (h0 : vk_R "FullHouse$Reader" 63 "learn" a0 s) : ∃ v : Nat, va_O "java/lang/String" a0 A s s.heap ∧ va_OF "java/lang/String" "coder" "B" (.int 0) a0 A s s.heap ∧ va_OF "java/lang/String" "value" "[B" (.ref v) a0 A s s.heap ∧ va_T .byte v 5 (fun j => .int (([108, 101, 97, 114, 110] : List Int32).getD j 0)) A s s.heap := by
  have hs := flat_of_before _ hgv
  obtain ⟨a, v, e, h⟩ := str_full (args := args) (t := .string "FullHouse$Reader" 63) (N := 5) (b := [108, 101, 97, 114, 110]) (by decide) (hs _ (by decide +kernel)) (hs _ (by decide +kernel)) (hs _ (by decide +kernel)) (hs _ (by decide +kernel)) (fun j hj => match j, hj with | 0, _ => hs _ (by decide +kernel) | 1, _ => hs _ (by decide +kernel) | 2, _ => hs _ (by decide +kernel) | 3, _ => hs _ (by decide +kernel) | 4, _ => hs _ (by decide +kernel) | j + 5, h => absurd h (by omega)) hA
  have e2 : (Term.string "FullHouse$Reader" 63).eval args s none [] s = some (.ref a0) := h0.2
  have e3 : a = a0 := by
    have := e.symm.trans e2
    simpa using this
  subst e3
  exact ⟨v, h⟩
theorem txt_7 {args : Array Value} {s : State} {A : Nat → Prop} (hgv : (Jvm.Cond.and given_1 narrow_1).before args s = true) (hA : ∀ a : Nat, a < s.heap.size → ¬ A a) {a0 : Nat} (h0 : vk_R "FullHouse$Reader" 68 "forget" a0 s) : ∃ v : Nat, va_O "java/lang/String" a0 A s s.heap ∧ va_OF "java/lang/String" "coder" "B" (.int 0) a0 A s s.heap ∧ va_OF "java/lang/String" "value" "[B" (.ref v) a0 A s s.heap ∧ va_T .byte v 6 (fun j => .int (([102, 111, 114, 103, 101, 116] : List Int32).getD j 0)) A s s.heap := by
  have hs := flat_of_before _ hgv
  obtain ⟨a, v, e, h⟩ := str_full (args := args) (t := .string "FullHouse$Reader" 68) (N := 6) (b := [102, 111, 114, 103, 101, 116]) (by decide) (hs _ (by decide +kernel)) (hs _ (by decide +kernel)) (hs _ (by decide +kernel)) (hs _ (by decide +kernel)) (fun j hj => match j, hj with | 0, _ => hs _ (by decide +kernel) | 1, _ => hs _ (by decide +kernel) | 2, _ => hs _ (by decide +kernel) | 3, _ => hs _ (by decide +kernel) | 4, _ => hs _ (by decide +kernel) | 5, _ => hs _ (by decide +kernel) | j + 6, h => absurd h (by omega)) hA
  have e2 : (Term.string "FullHouse$Reader" 68).eval args s none [] s = some (.ref a0) := h0.2
  have e3 : a = a0 := by
    have := e.symm.trans e2
    simpa using this
  subst e3
  exact ⟨v, h⟩
theorem fact_at {args : Array Value} {s : State} {A : Nat → Prop} (hts : ∀ w ∈ lw_tbl, w.before args s = true) (hgv : (Jvm.Cond.and given_1 narrow_1).before args s = true) (hA : ∀ a : Nat, a < s.heap.size → ¬ A a) : ∃ v : Nat, va_Z "FullHouse" "FACTORIALS" "[I" (.ref v) A s s.heap ∧ va_T .int v 7 (fun j => .int (aFact.getD j 0)) A s s.heap := by
  have hs := flat_of_before _ hgv
  obtain ⟨v, hv, hT⟩ := va_Tof (args := args) (tm := .static "FullHouse" "FACTORIALS" "[I") (ty := .int) (N := 7) (f := fun j => .int (aFact.getD j 0)) (A := A) (by decide) (hs _ (by decide +kernel)) (va_eqt (hs _ (by decide +kernel))) (fun j hj => match j, hj with | 0, _ => va_eqt (z := aFact.getD 0 0) (hs _ (by decide +kernel)) | 1, _ => va_eqt (z := aFact.getD 1 0) (hs _ (by decide +kernel)) | 2, _ => va_eqt (z := aFact.getD 2 0) (hs _ (by decide +kernel)) | 3, _ => va_eqt (z := aFact.getD 3 0) (hs _ (by decide +kernel)) | 4, _ => va_eqt (z := aFact.getD 4 0) (hs _ (by decide +kernel)) | 5, _ => va_eqt (z := aFact.getD 5 0) (hs _ (by decide +kernel)) | 6, _ => va_eqt (z := aFact.getD 6 0) (hs _ (by decide +kernel)) | j + 7, h => absurd h (by omega)) hA
  exact ⟨v, va_Zref (hts _ tb_947) (hts _ tb_1) hv hA, hT⟩
/-- the environment at the entry -/
theorem env_at {s : State} {b L : Nat} {xs : Nat → Int32} (hts : ∀ w ∈ lw_tbl, w.before #[Value.ref b] s = true) (hX : va_X b L xs s s.heap) (hbl : b < s.heap.size) (hgv : (Jvm.Cond.and given_1 narrow_1).before #[Value.ref b] s = true) : ∃ (f : Nat → Nat) (D : va_G), f 0 = b ∧ aE (s.heap.size, f, D, L, xs) s := by
  have hGW : ∀ w ∈ GW, w.before #[Value.ref b] s = true := fun w hw => hts w (List.mem_filter.mp hw).1
  obtain ⟨f0, hf00, hf⟩ := strs_at b hts
  obtain ⟨D, hD⟩ := cls_at hGW
  have hs := flat_of_before _ hgv
  have hA : ∀ a : Nat, a < s.heap.size → ¬ (fun q => s.heap.size ≤ q) a := fun a h => Nat.not_le.mpr h
  have hlt : ∀ x ∈ aStrs, x.2.2.2 < 100 := by decide +kernel
  obtain ⟨vf, hvf, hvt⟩ := fact_at (A := fun q => s.heap.size ≤ q) hts hgv hA
  obtain ⟨v2, t2⟩ := txt_2 (A := fun q => s.heap.size ≤ q) hgv hA (hf ("FullHouse$Reader", 44, "person", 2) (by decide +kernel))
  obtain ⟨v3, t3⟩ := txt_3 (A := fun q => s.heap.size ≤ q) hgv hA (hf ("FullHouse$Reader", 84, "drawn", 3) (by decide +kernel))
  obtain ⟨v4, t4⟩ := txt_4 (A := fun q => s.heap.size ≤ q) hgv hA (hf ("FullHouse$Reader", 53, "work", 4) (by decide +kernel))
  obtain ⟨v5, t5⟩ := txt_5 (A := fun q => s.heap.size ≤ q) hgv hA (hf ("FullHouse$Reader", 58, "can", 5) (by decide +kernel))
  obtain ⟨v6, t6⟩ := txt_6 (A := fun q => s.heap.size ≤ q) hgv hA (hf ("FullHouse$Reader", 63, "learn", 6) (by decide +kernel))
  obtain ⟨v7, t7⟩ := txt_7 (A := fun q => s.heap.size ≤ q) hgv hA (hf ("FullHouse$Reader", 68, "forget", 7) (by decide +kernel))
  have hq := va_Zqof (A := fun q => s.heap.size ≤ q) (hts _ tb_590) (hts _ tb_20) (hs _ (by decide +kernel)) hA
  obtain ⟨tq, htq⟩ : ∃ t : Nat, va_Z "jdk/internal/util/Preconditions" "SIOOBE_FORMATTER" "Ljava/util/function/BiFunction;" .null (fun q => s.heap.size ≤ q) s s.heap ∨ va_Z "jdk/internal/util/Preconditions" "SIOOBE_FORMATTER" "Ljava/util/function/BiFunction;" (.ref t) (fun q => s.heap.size ≤ q) s s.heap := by
    rcases hq with h | ⟨t, h⟩
    · exact ⟨0, Or.inl h⟩
    · exact ⟨t, Or.inr h⟩
  refine ⟨fun n => if n < 100 then f0 n else if n = 102 then v2 else if n = 103 then v3 else if n = 104 then v4 else if n = 105 then v5 else if n = 106 then v6 else if n = 107 then v7 else if n = 200 then vf else tq, D, hf00, hD, Nat.le_refl _, ?_, ?_, fun x hx => ?_, fun x hx => va_Nw.of rfl (hts _ (ne_in x hx)), ?_, ⟨?_, ?_⟩, fun x hx => va_Nw.of rfl (hts _ (de_in x hx)), ?_, fun x hx => va_Yc.of (hts _ (xx_in x hx))⟩
  · exact vx_Zqof (hts _ tb_491) (hts _ tb_14) (hs _ (by decide +kernel)) hA
  · exact vx_Zqof (hts _ tb_493) (hts _ tb_14) (hs _ (by decide +kernel)) hA
  · show vk_R x.1 x.2.1 x.2.2.1 (if x.2.2.2 < 100 then f0 x.2.2.2 else _) s
    rw [if_pos (hlt x hx)]
    exact hf x hx
  · show va_X (f0 0) L xs s s.heap
    rw [hf00]
    exact hX
  · show f0 0 < s.heap.size
    rw [hf00]
    exact hbl
  · refine ⟨List.forall_mem_cons.mpr ⟨t2, List.forall_mem_cons.mpr ⟨t3, List.forall_mem_cons.mpr ⟨t4, List.forall_mem_cons.mpr ⟨t5, List.forall_mem_cons.mpr ⟨t6, List.forall_mem_cons.mpr ⟨t7, fun _ h => absurd h List.not_mem_nil⟩⟩⟩⟩⟩⟩, va_Zof (hts _ tb_574) (hts _ tb_18) (va_eqi (hs _ (by decide +kernel))) hA, hvf, hvt, htq⟩
  · exact va_Nc.of (hs _ (by decide +kernel))
