/-- an answer: returned (a value or none), or thrown (a class's name) -/
abbrev aR : Type := (Option Value) ⊕ String
abbrev aP : Type := aR → aH → aM → Prop
abbrev gA (G : aG) : Nat → Prop := fun q => G.1 ≤ q
/-- constant strings: own class, pool place, text, number in the environment -/
def aStrs : List (String × Nat × String × Nat) := [("FullHouse", 100, "the tape has not so many bytes", 1), ("FullHouse$Reader", 44, "person", 2), ("FullHouse$Reader", 84, "drawn", 3), ("FullHouse$Reader", 53, "work", 4), ("FullHouse$Reader", 58, "can", 5), ("FullHouse$Reader", 63, "learn", 6), ("FullHouse$Reader", 68, "forget", 7), ("FullHouse", 129, "no such count", 8), ("FullHouse", 350, "no such person", 9), ("FullHouse", 144, "no such what of a person", 10), ("FullHouse", 352, "no such work", 11), ("FullHouse", 158, "no such what of a work", 12), ("FullHouse", 163, "no such teaching", 13), ("FullHouse", 177, "no such what of a teaching", 14), ("FullHouse", 357, "people that there aren't", 15), ("FullHouse", 198, "no row is kept", 16), ("FullHouse", 243, "no such what of any", 17), ("FullHouse", 255, "no such what of learn", 18), ("FullHouse", 266, "no such what of worth", 19), ("FullHouse", 277, "works that there aren't", 20), ("FullHouse", 283, "not so many works", 21), ("FullHouse", 285, "told is not 0 to 1000", 22), ("FullHouse", 287, "days are not 0 to 5000", 23), ("FullHouse", 297, "weeks are not 0 to 60", 24), ("FullHouse", 307, "the week hasn't been", 25), ("FullHouse", 315, "no such what of a week", 26), ("FullHouse", 318, "no weeks have begun", 27)]
/-- private constructors that a nest mate calls -/
def aNests : List (String × Nat × MethodName × String) := [("FullHouse", 9, ⟨"FullHouse$Reader", "<init>", "()V"⟩, "FullHouse"), ("FullHouse$Reader", 11, ⟨"FullHouse$Tokens", "<init>", "()V"⟩, "FullHouse"), ("FullHouse", 18, ⟨"FullHouse$House", "<init>", "()V"⟩, "FullHouse"), ("FullHouse", 28, ⟨"FullHouse$Spans", "<init>", "()V"⟩, "FullHouse"), ("FullHouse", 35, ⟨"FullHouse$Lefts", "<init>", "()V"⟩, "FullHouse"), ("FullHouse", 42, ⟨"FullHouse$Rows", "<init>", "()V"⟩, "FullHouse"), ("FullHouse", 49, ⟨"FullHouse$Learning", "<init>", "()V"⟩, "FullHouse"), ("FullHouse$Learning", 11, ⟨"FullHouse$Lefts", "<init>", "()V"⟩, "FullHouse"), ("FullHouse", 56, ⟨"FullHouse$Guest", "<init>", "()V"⟩, "FullHouse"), ("FullHouse", 67, ⟨"FullHouse$Weeks", "<init>", "()V"⟩, "FullHouse")]
/-- constructors that throws pass through -/
def aDecls : List MethodName := [⟨"java/lang/RuntimeException", "<init>", "(Ljava/lang/String;)V"⟩, ⟨"java/lang/Exception", "<init>", "(Ljava/lang/String;)V"⟩, ⟨"java/lang/Throwable", "<init>", "(Ljava/lang/String;)V"⟩]
/-- the exceptions that are thrown -/
def aXs : List String := ["java/lang/IllegalArgumentException", "java/util/NoSuchElementException"]
def va_Yc (C T : String) (U : State) : Prop := ∃ c t : ClassId, U.vm.findClass C = some c ∧ U.vm.findClass T = some t ∧ U.vm.assignable c t = true
theorem va_Yc.moved {C T : String} {u U : State} (hvm : u.vm.Alike U.vm) (h : va_Yc C T u) : va_Yc C T U := by
  obtain ⟨c, t, h1, h2, h3⟩ := h
  exact ⟨c, t, by rw [hvm.findClass]; exact h1, by rw [hvm.findClass]; exact h2, by rw [hvm.assignable]; exact h3⟩
theorem va_Yc.of {args : Array Value} {s : State} {C T : String} (h : (Cond.castable C T).before args s = true) : va_Yc C T s := by
  obtain ⟨c, t, h1, h2, h3⟩ := Cond.castable_spec h
  exact ⟨c, t, h1, h2, h3⟩
theorem va_Yc.use {args : Array Value} {s : State} {C T : String} (h : va_Yc C T s) : (Cond.castable C T).before args s = true := by
  obtain ⟨c, t, h1, h2, h3⟩ := h
  simp [Cond.before, Cond.holds, Cond.value, h1, h2, h3]
/-- the six words of a text: number in the environment, bytes -/
def aTxts : List (Nat × List Int32) := [(2, [112, 101, 114, 115, 111, 110]), (3, [100, 114, 97, 119, 110]), (4, [119, 111, 114, 107]), (5, [99, 97, 110]), (6, [108, 101, 97, 114, 110]), (7, [102, 111, 114, 103, 101, 116])]
def aFact : List Int32 := [1, 1, 2, 6, 24, 120, 720]
/-- what outer objects hold: the words' fields (their bytes at 100 + number), the row of factorials (200), a formatter (201) -/
def aZ (G : aG) (s : State) : Prop := (∀ x ∈ aTxts, va_O "java/lang/String" (G.2.1 x.1) (gA G) s s.heap ∧ va_OF "java/lang/String" "coder" "B" (.int 0) (G.2.1 x.1) (gA G) s s.heap ∧ va_OF "java/lang/String" "value" "[B" (.ref (G.2.1 (100 + x.1))) (G.2.1 x.1) (gA G) s s.heap ∧ va_T .byte (G.2.1 (100 + x.1)) x.2.length (fun j => .int (x.2.getD j 0)) (gA G) s s.heap) ∧
  va_Z "java/lang/String" "COMPACT_STRINGS" "Z" (.int 1) (gA G) s s.heap ∧ va_Z "FullHouse" "FACTORIALS" "[I" (.ref (G.2.1 200)) (gA G) s s.heap ∧ va_T .int (G.2.1 200) 7 (fun j => .int (aFact.getD j 0)) (gA G) s s.heap ∧
  (va_Z "jdk/internal/util/Preconditions" "SIOOBE_FORMATTER" "Ljava/util/function/BiFunction;" .null (gA G) s s.heap ∨ va_Z "jdk/internal/util/Preconditions" "SIOOBE_FORMATTER" "Ljava/util/function/BiFunction;" (.ref (G.2.1 201)) (gA G) s s.heap)
theorem aZ.to {G : aG} {s U : State} {locs : List Loc} (hW : s.WarmedH U.vm) (hS : va_S (gA G) s.heap U.heap locs) (h : aZ G s) : aZ G U := by
  obtain ⟨h1, h2, h3, h4, h5⟩ := h
  refine ⟨fun x hx => ?_, va_Z.moved hW.alike (h2.kept hS.2.1), va_Z.moved hW.alike (h3.kept hS.2.1), va_T.moved hW.alike (h4.kept hS.2.1), h5.imp (fun h => va_Z.moved hW.alike (h.kept hS.2.1)) (fun h => va_Z.moved hW.alike (h.kept hS.2.1))⟩
  obtain ⟨g1, g2, g3, g4⟩ := h1 x hx
  exact ⟨va_O.moved hW.alike (g1.kept hS.2.1), va_OF.moved hW.alike (g2.kept hS.2.1), va_OF.moved hW.alike (g3.kept hS.2.1), va_T.moved hW.alike (g4.kept hS.2.1)⟩
/-- what stands outside of the numbered cells -/
def aE (G : aG) (s : State) : Prop := va_K G.2.2.1 vwCl [] s ∧ G.1 ≤ s.heap.size ∧ vx_Zq Bundle.tN "UNASSIGNED_STACK" Bundle.steD (gA G) s s.heap ∧ vx_Zq Bundle.tN "SUPPRESSED_SENTINEL" Bundle.listD (gA G) s s.heap ∧
  (∀ x ∈ aStrs, vk_R x.1 x.2.1 x.2.2.1 (G.2.1 x.2.2.2) s) ∧ (∀ x ∈ aNests, va_Nw (.methodLinkNest x.1 x.2.1 x.2.2.1 x.2.2.2) s) ∧ va_X (G.2.1 0) G.2.2.2.1 G.2.2.2.2 s s.heap ∧ (G.2.1 0 < G.1 ∧ aZ G s) ∧ (∀ x ∈ aDecls, va_Nw (.declares x) s) ∧ va_Nc "java/lang/IllegalArgumentException" "java/util/NoSuchElementException" s ∧ ∀ x ∈ aXs, va_Yc x x s
theorem aE.to {G : aG} {s U : State} {locs : List Loc} (hW : s.WarmedH U.vm) (hS : va_S (gA G) s.heap U.heap locs) (h : aE G s) : aE G U := by
  obtain ⟨h1, h2, h3, h4, h5, h6, h7, ⟨h8, hz⟩, h9, h10, h11⟩ := h
  exact ⟨va_K.moved hW.alike h1, Nat.le_trans h2 hS.1, vx_Zq.moved hW.alike (h3.kept hS.2.1), vx_Zq.moved hW.alike (h4.kept hS.2.1), fun x hx => vk_R.warm hW (h5 x hx), fun x hx => va_Nw.warmM hW (h6 x hx), va_X.moved hW.alike (h7.kept (hS.2.1 _ (Nat.lt_of_lt_of_le h8 h2) (Nat.not_le.mpr h8))), ⟨h8, hz.to hW hS⟩, fun x hx => va_Nw.warmD hW (h9 x hx), va_Nc.moved hW.alike h10, fun x hx => (h11 x hx).moved hW.alike⟩
def aCtx (l : Launch) (mi : aI) (p : Program) (s : State) (m : MethodId) (args : Array Value) (meth : Method) (c : Code) : Prop :=
  p.tables.exec = Jvm.exec ∧ c.code = iC mi ∧ c.maxLocals = iL mi ∧ s.vm.findClass (iO mi) = some m.cls ∧ (∀ w ∈ GW, w.before args s = true) ∧ meth.sig.returnType = iR mi ∧ meth.locks = false ∧ ((iY mi).name = "<init>" → meth.name = "<init>") ∧ c.exceptionTable.toList = iT mi ∧ l.stackTraces = false
def lcv (G : aG) (lv : List (Nat × Value)) : List (Nat × Value) := lv.map (fun q => (q.1, cv G q.2))
def aQ (G : aG) (P : aP) : Array Value → State → Outcome → State → Prop := fun _ st o t => ∃ (v : Option Value) (sh : aH) (M : aM), o = .returned (v.map (cv G)) ∧ P (.inl v) sh M ∧ aW G sh M t t.heap ∧ va_F (gA G) st t
def aX (G : aG) (P : aP) : String → State → State → Prop := fun E st t => ∃ (sh : aH) (M : aM), P (.inr E) sh M ∧ aW G sh M t t.heap ∧ va_F (gA G) st t
def aPc (G : aG) (sh : aH) (M : aM) (av : List Value) : Array Value → State → Prop := fun a U => a = (av.map (cv G)).toArray ∧ aE G U ∧ aW G sh M U U.heap
/-- a launch, and what is asked of the environment -/
abbrev aL : Type := Launch × (aG → Prop)
/-- THE JUDGEMENT: from here on the method comes to an end with P, with at most kc cells of ks slots more -/
def AW (l : aL) (mi : aI) (P : aP) (kc ks pc : Nat) (lv : List (Nat × Value)) (st : List Value) (sh : aH) (M : aM) : Prop :=
  ∀ (p : Program) (e : Env) (s : State) (m : MethodId) (args : Array Value) (below : List Frame) (meth : Method) (c : Code) (G : aG) (H : Heap) (locs : List Loc) (cells slots : Nat) (ls : Array Slot) (KC KS : Nat),
    aCtx l.1 mi p s m args meth c → aE G s ∧ l.2 G → aW G sh M s H → va_S (gA G) s.heap H locs → lv_has ls (iL mi) (lcv G lv) → cells + kc ≤ KC → slots + ks ≤ KS →
    W p l.1 e { frames := iF mi, cells := KC, slots := KS, locals := iW mi } s m args below meth c H locs cells slots (vx_MQ below (aQ G P) (aX G P) args s KC KS (gA G)) (F0 m pc ls (st.map (cv G)))
/-- THE CONTRACT of a method at these arguments in this memory -/
def AC (l : aL) (mi : aI) (P : aP) (kc ks : Nat) (av : List Value) (sh : aH) (M : aM) : Prop :=
  ∀ G : aG, l.2 G → vx_Met l.1 (iY mi) (.code (iY mi) (iC mi) (iL mi) (iR mi) :: GW) { frames := iF mi, cells := kc, slots := ks, locals := iW mi } (aPc G sh M av) (aQ G P) (aX G P) kc ks (gA G)
theorem cv_cat (G : aG) (v : Value) : (cv G v).category = v.category := by
  cases v <;> try rfl
  simp only [cv, cvF]
  split <;> rfl
def lk : List (Nat × Value) → Nat → Option Value
  | [], _ => none
  | q :: r, i => if q.1 = i then some q.2 else lk r i
theorem lk_mem : ∀ {lv : List (Nat × Value)} {i : Nat} {v : Value}, lk lv i = some v → (i, v) ∈ lv
  | [], _, _, h => by cases h
  | q :: r, i, v, h => by
    unfold lk at h
    split at h
    · next e => cases h; subst e; exact List.mem_cons_self
    · exact List.mem_cons_of_mem _ (lk_mem h)
theorem lk_at {G : aG} {ls : Array Slot} {n : Nat} {lv : List (Nat × Value)} {i : Nat} {v : Value} (hl : lv_has ls n (lcv G lv)) (h : lk lv i = some v) : ls[i]? = some (.val (cv G v)) := hl.2.2 (i, cv G v) (List.mem_map.mpr ⟨(i, v), lk_mem h, rfl⟩)
def s1 (lv : List (Nat × Value)) (i : Nat) (v : Value) : List (Nat × Value) := (i, v) :: lv.filter (fun q => !(q.1 == i) && !(q.1 + 1 == i && q.2.category == 2))
def s2 (lv : List (Nat × Value)) (i : Nat) (v : Value) : List (Nat × Value) := (i, v) :: lv.filter (fun q => !(q.1 == i) && (!(q.1 == i + 1) && !(q.1 + 1 == i && q.2.category == 2)))
theorem lcv_s1 (G : aG) (lv : List (Nat × Value)) (i : Nat) (v : Value) : (i, cv G v) :: (lcv G lv).filter (fun q => !(q.1 == i) && !(q.1 + 1 == i && q.2.category == 2)) = lcv G (s1 lv i v) := by
  simp only [lcv, s1, List.map_cons, List.filter_map]
  congr 3
  funext q
  simp [cv_cat]
theorem lcv_s2 (G : aG) (lv : List (Nat × Value)) (i : Nat) (v : Value) : (i, cv G v) :: (lcv G lv).filter (fun q => !(q.1 == i) && (!(q.1 == i + 1) && !(q.1 + 1 == i && q.2.category == 2))) = lcv G (s2 lv i v) := by
  simp only [lcv, s2, List.map_cons, List.filter_map]
  congr 3
  funext q
  simp [cv_cat]
def isR : Value → Bool
  | .ref _ => true
  | .retAddr _ => true
  | _ => false
theorem isR_cv {G : aG} {v : Value} (h : isR v = true) : ∃ a : Nat, cv G v = .ref a := by cases v <;> first | exact ⟨_, rfl⟩ | cases h
section AWrules
variable {l : aL} {mi : aI} {P : aP} {kc ks pc : Nat} {lv : List (Nat × Value)} {st : List Value} {sh : aH} {M : aM}
theorem AW.iconst {n : Int} (hd : decode (iC mi) pc = .ok (.iconst n, 1)) (k : AW l mi P kc ks (pc + 1) lv (.int (Int32.ofInt n) :: st) sh M) : AW l mi P kc ks pc lv (st) sh M := by
  intro p e s m args below meth c G H locs cells slots ls KC KS C E w hS hl hc hs
  exact lv_iconst C.1 C.2.1 hd rfl (k p e s m args below meth c G H locs cells slots ls KC KS C E w hS hl hc hs)
theorem AW.bipush {n : Int} (hd : decode (iC mi) pc = .ok (.bipush n, 2)) (k : AW l mi P kc ks (pc + 2) lv (.int ((Int8.ofInt n).toInt32) :: st) sh M) : AW l mi P kc ks pc lv (st) sh M := by
  intro p e s m args below meth c G H locs cells slots ls KC KS C E w hS hl hc hs
  exact lv_bipush C.1 C.2.1 hd rfl (k p e s m args below meth c G H locs cells slots ls KC KS C E w hS hl hc hs)
theorem AW.sipush {n : Int} (hd : decode (iC mi) pc = .ok (.sipush n, 3)) (k : AW l mi P kc ks (pc + 3) lv (.int ((Int16.ofInt n).toInt32) :: st) sh M) : AW l mi P kc ks pc lv (st) sh M := by
  intro p e s m args below meth c G H locs cells slots ls KC KS C E w hS hl hc hs
  exact lv_sipush C.1 C.2.1 hd rfl (k p e s m args below meth c G H locs cells slots ls KC KS C E w hS hl hc hs)
theorem AW.lconst {n : Fin 2} (hd : decode (iC mi) pc = .ok (.lconst n, 1)) (k : AW l mi P kc ks (pc + 1) lv (.long (Int64.ofNat n) :: st) sh M) : AW l mi P kc ks pc lv (st) sh M := by
  intro p e s m args below meth c G H locs cells slots ls KC KS C E w hS hl hc hs
  exact lv_lconst C.1 C.2.1 hd rfl (k p e s m args below meth c G H locs cells slots ls KC KS C E w hS hl hc hs)
theorem AW.iload_n {n : Fin 4} {x : Int32} (hd : decode (iC mi) pc = .ok (.iload_n n, 1)) (hv : lk lv n = some (.int x)) (k : AW l mi P kc ks (pc + 1) lv (.int x :: st) sh M) : AW l mi P kc ks pc lv (st) sh M := by
  intro p e s m args below meth c G H locs cells slots ls KC KS C E w hS hl hc hs
  exact lv_iload_n C.1 C.2.1 hd rfl (lk_at hl hv) (k p e s m args below meth c G H locs cells slots ls KC KS C E w hS hl hc hs)
theorem AW.iload {n : Nat} {x : Int32} (hd : decode (iC mi) pc = .ok (.iload n, 2)) (hv : lk lv n = some (.int x)) (k : AW l mi P kc ks (pc + 2) lv (.int x :: st) sh M) : AW l mi P kc ks pc lv (st) sh M := by
  intro p e s m args below meth c G H locs cells slots ls KC KS C E w hS hl hc hs
  exact lv_iload C.1 C.2.1 hd (lk_at hl hv) (k p e s m args below meth c G H locs cells slots ls KC KS C E w hS hl hc hs)
theorem AW.lload_n {n : Fin 4} {x : Int64} (hd : decode (iC mi) pc = .ok (.lload_n n, 1)) (hv : lk lv n = some (.long x)) (k : AW l mi P kc ks (pc + 1) lv (.long x :: st) sh M) : AW l mi P kc ks pc lv (st) sh M := by
  intro p e s m args below meth c G H locs cells slots ls KC KS C E w hS hl hc hs
  exact lv_lload_n C.1 C.2.1 hd rfl (lk_at hl hv) (k p e s m args below meth c G H locs cells slots ls KC KS C E w hS hl hc hs)
theorem AW.lload {n : Nat} {x : Int64} (hd : decode (iC mi) pc = .ok (.lload n, 2)) (hv : lk lv n = some (.long x)) (k : AW l mi P kc ks (pc + 2) lv (.long x :: st) sh M) : AW l mi P kc ks pc lv (st) sh M := by
  intro p e s m args below meth c G H locs cells slots ls KC KS C E w hS hl hc hs
  exact lv_lload C.1 C.2.1 hd (lk_at hl hv) (k p e s m args below meth c G H locs cells slots ls KC KS C E w hS hl hc hs)
theorem AW.aload_n {n : Fin 4} {v : Value} (hd : decode (iC mi) pc = .ok (.aload_n n, 1)) (hv : lk lv n = some v) (hr : isR v = true) (k : AW l mi P kc ks (pc + 1) lv (v :: st) sh M) : AW l mi P kc ks pc lv st sh M := by
  intro p e s m args below meth c G H locs cells slots ls KC KS C E w hS hl hc hs
  have h1 := k p e s m args below meth c G H locs cells slots ls KC KS C E w hS hl hc hs
  obtain ⟨a, ha⟩ := isR_cv (G := G) hr
  have h2 := lk_at hl hv
  rw [ha] at h2
  rw [List.map_cons, ha] at h1
  exact lv_aload_n C.1 C.2.1 hd rfl h2 h1
theorem AW.aload {n : Nat} {v : Value} (hd : decode (iC mi) pc = .ok (.aload n, 2)) (hv : lk lv n = some v) (hr : isR v = true) (k : AW l mi P kc ks (pc + 2) lv (v :: st) sh M) : AW l mi P kc ks pc lv st sh M := by
  intro p e s m args below meth c G H locs cells slots ls KC KS C E w hS hl hc hs
  have h1 := k p e s m args below meth c G H locs cells slots ls KC KS C E w hS hl hc hs
  obtain ⟨a, ha⟩ := isR_cv (G := G) hr
  have h2 := lk_at hl hv
  rw [ha] at h2
  rw [List.map_cons, ha] at h1
  exact lv_aload C.1 C.2.1 hd h2 h1
theorem AW.istore_n {n : Fin 4} {x : Int32} (hd : decode (iC mi) pc = .ok (.istore_n n, 1)) (hn : (n : Nat) < iL mi) (k : AW l mi P kc ks (pc + 1) (s1 lv n (.int x)) st sh M) : AW l mi P kc ks pc lv (.int x :: st) sh M := by
  intro p e s m args below meth c G H locs cells slots ls KC KS C E w hS hl hc hs
  exact lv_istore_n C.1 C.2.1 hd rfl hl hn (lcv_s1 G lv n (.int x)) (fun ls hl => k p e s m args below meth c G H locs cells slots ls KC KS C E w hS hl hc hs)
theorem AW.istore {n : Nat} {x : Int32} (hd : decode (iC mi) pc = .ok (.istore n, 2)) (hn : (n : Nat) < iL mi) (k : AW l mi P kc ks (pc + 2) (s1 lv n (.int x)) st sh M) : AW l mi P kc ks pc lv (.int x :: st) sh M := by
  intro p e s m args below meth c G H locs cells slots ls KC KS C E w hS hl hc hs
  exact lv_istore C.1 C.2.1 hd hl hn (lcv_s1 G lv n (.int x)) (fun ls hl => k p e s m args below meth c G H locs cells slots ls KC KS C E w hS hl hc hs)
theorem AW.lstore_n {n : Fin 4} {x : Int64} (hd : decode (iC mi) pc = .ok (.lstore_n n, 1)) (hn : (n : Nat) + 1 < iL mi) (k : AW l mi P kc ks (pc + 1) (s2 lv n (.long x)) st sh M) : AW l mi P kc ks pc lv (.long x :: st) sh M := by
  intro p e s m args below meth c G H locs cells slots ls KC KS C E w hS hl hc hs
  exact lv_lstore_n C.1 C.2.1 hd rfl hl hn (lcv_s2 G lv n (.long x)) (fun ls hl => k p e s m args below meth c G H locs cells slots ls KC KS C E w hS hl hc hs)
theorem AW.lstore {n : Nat} {x : Int64} (hd : decode (iC mi) pc = .ok (.lstore n, 2)) (hn : (n : Nat) + 1 < iL mi) (k : AW l mi P kc ks (pc + 2) (s2 lv n (.long x)) st sh M) : AW l mi P kc ks pc lv (.long x :: st) sh M := by
  intro p e s m args below meth c G H locs cells slots ls KC KS C E w hS hl hc hs
  exact lv_lstore C.1 C.2.1 hd hl hn (lcv_s2 G lv n (.long x)) (fun ls hl => k p e s m args below meth c G H locs cells slots ls KC KS C E w hS hl hc hs)
theorem AW.astore_n {n : Fin 4} {v : Value} (hd : decode (iC mi) pc = .ok (.astore_n n, 1)) (hr : isR v = true) (hn : (n : Nat) < iL mi) (k : AW l mi P kc ks (pc + 1) (s1 lv n v) st sh M) : AW l mi P kc ks pc lv (v :: st) sh M := by
  intro p e s m args below meth c G H locs cells slots ls KC KS C E w hS hl hc hs
  obtain ⟨a, ha⟩ := isR_cv (G := G) hr
  have e9 := lcv_s1 G lv n v
  rw [ha] at e9
  rw [List.map_cons, ha]
  exact lv_astore_n C.1 C.2.1 hd rfl hl hn e9 (fun ls hl => k p e s m args below meth c G H locs cells slots ls KC KS C E w hS hl hc hs)
theorem AW.astore {n : Nat} {v : Value} (hd : decode (iC mi) pc = .ok (.astore n, 2)) (hr : isR v = true) (hn : (n : Nat) < iL mi) (k : AW l mi P kc ks (pc + 2) (s1 lv n v) st sh M) : AW l mi P kc ks pc lv (v :: st) sh M := by
  intro p e s m args below meth c G H locs cells slots ls KC KS C E w hS hl hc hs
  obtain ⟨a, ha⟩ := isR_cv (G := G) hr
  have e9 := lcv_s1 G lv n v
  rw [ha] at e9
  rw [List.map_cons, ha]
  exact lv_astore C.1 C.2.1 hd hl hn e9 (fun ls hl => k p e s m args below meth c G H locs cells slots ls KC KS C E w hS hl hc hs)
theorem AW.iinc {i : Nat} {n : Int} {x : Int32} (hd : decode (iC mi) pc = .ok (.iinc i n, 3)) (hv : lk lv i = some (.int x)) (hn : i < iL mi) (k : AW l mi P kc ks (pc + 3) (s1 lv i (.int (x + Int32.ofInt n))) st sh M) : AW l mi P kc ks pc lv st sh M := by
  intro p e s m args below meth c G H locs cells slots ls KC KS C E w hS hl hc hs
  obtain ⟨j, hj⟩ := List.getElem?_of_mem (List.mem_map.mpr ⟨(i, Value.int x), lk_mem hv, rfl⟩ : (i, cv G (.int x)) ∈ lcv G lv)
  exact lv_iinc C.1 C.2.1 hd hl hj rfl hn (lcv_s1 G lv i (.int (x + Int32.ofInt n))) (fun ls hl => k p e s m args below meth c G H locs cells slots ls KC KS C E w hS hl hc hs)
theorem AW.iadd {x y : Int32} (hd : decode (iC mi) pc = .ok (.iadd, 1)) (k : AW l mi P kc ks (pc + 1) lv (.int (x + y) :: st) sh M) : AW l mi P kc ks pc lv (.int y :: .int x :: st) sh M := by
  intro p e s m args below meth c G H locs cells slots ls KC KS C E w hS hl hc hs
  exact lv_iadd C.1 C.2.1 hd (k p e s m args below meth c G H locs cells slots ls KC KS C E w hS hl hc hs)
theorem AW.isub {x y : Int32} (hd : decode (iC mi) pc = .ok (.isub, 1)) (k : AW l mi P kc ks (pc + 1) lv (.int (x - y) :: st) sh M) : AW l mi P kc ks pc lv (.int y :: .int x :: st) sh M := by
  intro p e s m args below meth c G H locs cells slots ls KC KS C E w hS hl hc hs
  exact lv_isub C.1 C.2.1 hd (k p e s m args below meth c G H locs cells slots ls KC KS C E w hS hl hc hs)
theorem AW.imul {x y : Int32} (hd : decode (iC mi) pc = .ok (.imul, 1)) (k : AW l mi P kc ks (pc + 1) lv (.int (x * y) :: st) sh M) : AW l mi P kc ks pc lv (.int y :: .int x :: st) sh M := by
  intro p e s m args below meth c G H locs cells slots ls KC KS C E w hS hl hc hs
  exact lv_imul C.1 C.2.1 hd (k p e s m args below meth c G H locs cells slots ls KC KS C E w hS hl hc hs)
theorem AW.iand {x y : Int32} (hd : decode (iC mi) pc = .ok (.iand, 1)) (k : AW l mi P kc ks (pc + 1) lv (.int (x &&& y) :: st) sh M) : AW l mi P kc ks pc lv (.int y :: .int x :: st) sh M := by
  intro p e s m args below meth c G H locs cells slots ls KC KS C E w hS hl hc hs
  exact lv_iand C.1 C.2.1 hd (k p e s m args below meth c G H locs cells slots ls KC KS C E w hS hl hc hs)
theorem AW.ior {x y : Int32} (hd : decode (iC mi) pc = .ok (.ior, 1)) (k : AW l mi P kc ks (pc + 1) lv (.int (x ||| y) :: st) sh M) : AW l mi P kc ks pc lv (.int y :: .int x :: st) sh M := by
  intro p e s m args below meth c G H locs cells slots ls KC KS C E w hS hl hc hs
  exact lv_ior C.1 C.2.1 hd (k p e s m args below meth c G H locs cells slots ls KC KS C E w hS hl hc hs)
theorem AW.ixor {x y : Int32} (hd : decode (iC mi) pc = .ok (.ixor, 1)) (k : AW l mi P kc ks (pc + 1) lv (.int (x ^^^ y) :: st) sh M) : AW l mi P kc ks pc lv (.int y :: .int x :: st) sh M := by
  intro p e s m args below meth c G H locs cells slots ls KC KS C E w hS hl hc hs
  exact lv_ixor C.1 C.2.1 hd (k p e s m args below meth c G H locs cells slots ls KC KS C E w hS hl hc hs)
theorem AW.ishl {x y : Int32} (hd : decode (iC mi) pc = .ok (.ishl, 1)) (k : AW l mi P kc ks (pc + 1) lv (.int (x <<< (y &&& 31)) :: st) sh M) : AW l mi P kc ks pc lv (.int y :: .int x :: st) sh M := by
  intro p e s m args below meth c G H locs cells slots ls KC KS C E w hS hl hc hs
  exact lv_ishl C.1 C.2.1 hd (k p e s m args below meth c G H locs cells slots ls KC KS C E w hS hl hc hs)
theorem AW.ishr {x y : Int32} (hd : decode (iC mi) pc = .ok (.ishr, 1)) (k : AW l mi P kc ks (pc + 1) lv (.int (x >>> (y &&& 31)) :: st) sh M) : AW l mi P kc ks pc lv (.int y :: .int x :: st) sh M := by
  intro p e s m args below meth c G H locs cells slots ls KC KS C E w hS hl hc hs
  exact lv_ishr C.1 C.2.1 hd (k p e s m args below meth c G H locs cells slots ls KC KS C E w hS hl hc hs)
theorem AW.iushr {x y : Int32} (hd : decode (iC mi) pc = .ok (.iushr, 1)) (k : AW l mi P kc ks (pc + 1) lv (.int ((x.toUInt32 >>> (y.toUInt32 &&& Int32.toUInt32 31)).toInt32) :: st) sh M) : AW l mi P kc ks pc lv (.int y :: .int x :: st) sh M := by
  intro p e s m args below meth c G H locs cells slots ls KC KS C E w hS hl hc hs
  exact lv_iushr C.1 C.2.1 hd rfl (k p e s m args below meth c G H locs cells slots ls KC KS C E w hS hl hc hs)
theorem AW.idiv {x y : Int32} (hd : decode (iC mi) pc = .ok (.idiv, 1)) (hne : ¬ y = 0) (k : AW l mi P kc ks (pc + 1) lv (.int (x / y) :: st) sh M) : AW l mi P kc ks pc lv (.int y :: .int x :: st) sh M := by
  intro p e s m args below meth c G H locs cells slots ls KC KS C E w hS hl hc hs
  exact lv_idiv C.1 C.2.1 hd hne (k p e s m args below meth c G H locs cells slots ls KC KS C E w hS hl hc hs)
theorem AW.irem {x y : Int32} (hd : decode (iC mi) pc = .ok (.irem, 1)) (hne : ¬ y = 0) (k : AW l mi P kc ks (pc + 1) lv (.int (x - x / y * y) :: st) sh M) : AW l mi P kc ks pc lv (.int y :: .int x :: st) sh M := by
  intro p e s m args below meth c G H locs cells slots ls KC KS C E w hS hl hc hs
  exact lv_irem C.1 C.2.1 hd hne (k p e s m args below meth c G H locs cells slots ls KC KS C E w hS hl hc hs)
theorem AW.ladd {x y : Int64} (hd : decode (iC mi) pc = .ok (.ladd, 1)) (k : AW l mi P kc ks (pc + 1) lv (.long (x + y) :: st) sh M) : AW l mi P kc ks pc lv (.long y :: .long x :: st) sh M := by
  intro p e s m args below meth c G H locs cells slots ls KC KS C E w hS hl hc hs
  exact lv_ladd C.1 C.2.1 hd (k p e s m args below meth c G H locs cells slots ls KC KS C E w hS hl hc hs)
theorem AW.lsub {x y : Int64} (hd : decode (iC mi) pc = .ok (.lsub, 1)) (k : AW l mi P kc ks (pc + 1) lv (.long (x - y) :: st) sh M) : AW l mi P kc ks pc lv (.long y :: .long x :: st) sh M := by
  intro p e s m args below meth c G H locs cells slots ls KC KS C E w hS hl hc hs
  exact lv_lsub C.1 C.2.1 hd (k p e s m args below meth c G H locs cells slots ls KC KS C E w hS hl hc hs)
theorem AW.lmul {x y : Int64} (hd : decode (iC mi) pc = .ok (.lmul, 1)) (k : AW l mi P kc ks (pc + 1) lv (.long (x * y) :: st) sh M) : AW l mi P kc ks pc lv (.long y :: .long x :: st) sh M := by
  intro p e s m args below meth c G H locs cells slots ls KC KS C E w hS hl hc hs
  exact lv_lmul C.1 C.2.1 hd (k p e s m args below meth c G H locs cells slots ls KC KS C E w hS hl hc hs)
theorem AW.land {x y : Int64} (hd : decode (iC mi) pc = .ok (.land, 1)) (k : AW l mi P kc ks (pc + 1) lv (.long (x &&& y) :: st) sh M) : AW l mi P kc ks pc lv (.long y :: .long x :: st) sh M := by
  intro p e s m args below meth c G H locs cells slots ls KC KS C E w hS hl hc hs
  exact lv_land C.1 C.2.1 hd (k p e s m args below meth c G H locs cells slots ls KC KS C E w hS hl hc hs)
theorem AW.lor {x y : Int64} (hd : decode (iC mi) pc = .ok (.lor, 1)) (k : AW l mi P kc ks (pc + 1) lv (.long (x ||| y) :: st) sh M) : AW l mi P kc ks pc lv (.long y :: .long x :: st) sh M := by
  intro p e s m args below meth c G H locs cells slots ls KC KS C E w hS hl hc hs
  exact lv_lor C.1 C.2.1 hd (k p e s m args below meth c G H locs cells slots ls KC KS C E w hS hl hc hs)
theorem AW.ldiv {x y : Int64} (hd : decode (iC mi) pc = .ok (.ldiv, 1)) (hne : ¬ y = 0) (k : AW l mi P kc ks (pc + 1) lv (.long (x / y) :: st) sh M) : AW l mi P kc ks pc lv (.long y :: .long x :: st) sh M := by
  intro p e s m args below meth c G H locs cells slots ls KC KS C E w hS hl hc hs
  exact lv_ldiv C.1 C.2.1 hd hne (k p e s m args below meth c G H locs cells slots ls KC KS C E w hS hl hc hs)
theorem AW.lshl {x : Int64} {y : Int32} (hd : decode (iC mi) pc = .ok (.lshl, 1)) (k : AW l mi P kc ks (pc + 1) lv (.long (x <<< (y.toInt64 &&& 63)) :: st) sh M) : AW l mi P kc ks pc lv (.int y :: .long x :: st) sh M := by
  intro p e s m args below meth c G H locs cells slots ls KC KS C E w hS hl hc hs
  exact lv_lshl C.1 C.2.1 hd rfl (k p e s m args below meth c G H locs cells slots ls KC KS C E w hS hl hc hs)
theorem AW.lshr {x : Int64} {y : Int32} (hd : decode (iC mi) pc = .ok (.lshr, 1)) (k : AW l mi P kc ks (pc + 1) lv (.long (x >>> (y.toInt64 &&& 63)) :: st) sh M) : AW l mi P kc ks pc lv (.int y :: .long x :: st) sh M := by
  intro p e s m args below meth c G H locs cells slots ls KC KS C E w hS hl hc hs
  exact lv_lshr C.1 C.2.1 hd rfl (k p e s m args below meth c G H locs cells slots ls KC KS C E w hS hl hc hs)
theorem AW.lushr {x : Int64} {y : Int32} (hd : decode (iC mi) pc = .ok (.lushr, 1)) (k : AW l mi P kc ks (pc + 1) lv (.long ((x.toUInt64 >>> (y.toInt64.toUInt64 &&& Int64.toUInt64 63)).toInt64) :: st) sh M) : AW l mi P kc ks pc lv (.int y :: .long x :: st) sh M := by
  intro p e s m args below meth c G H locs cells slots ls KC KS C E w hS hl hc hs
  exact lv_lushr C.1 C.2.1 hd rfl (k p e s m args below meth c G H locs cells slots ls KC KS C E w hS hl hc hs)
theorem AW.lcmp {x y : Int64} (hd : decode (iC mi) pc = .ok (.lcmp, 1)) (k : AW l mi P kc ks (pc + 1) lv (.int (lg_cmp x y) :: st) sh M) : AW l mi P kc ks pc lv (.long y :: .long x :: st) sh M := by
  intro p e s m args below meth c G H locs cells slots ls KC KS C E w hS hl hc hs
  exact W.lcmp C.1 C.2.1 hd (k p e s m args below meth c G H locs cells slots ls KC KS C E w hS hl hc hs)
theorem AW.i2l {x : Int32} (hd : decode (iC mi) pc = .ok (.i2l, 1)) (k : AW l mi P kc ks (pc + 1) lv (.long x.toInt64 :: st) sh M) : AW l mi P kc ks pc lv (.int x :: st) sh M := by
  intro p e s m args below meth c G H locs cells slots ls KC KS C E w hS hl hc hs
  exact lv_i2l C.1 C.2.1 hd rfl (k p e s m args below meth c G H locs cells slots ls KC KS C E w hS hl hc hs)
theorem AW.l2i {x : Int64} (hd : decode (iC mi) pc = .ok (.l2i, 1)) (k : AW l mi P kc ks (pc + 1) lv (.int x.toInt32 :: st) sh M) : AW l mi P kc ks pc lv (.long x :: st) sh M := by
  intro p e s m args below meth c G H locs cells slots ls KC KS C E w hS hl hc hs
  exact lv_l2i C.1 C.2.1 hd rfl (k p e s m args below meth c G H locs cells slots ls KC KS C E w hS hl hc hs)
theorem AW.i2b {x : Int32} (hd : decode (iC mi) pc = .ok (.i2b, 1)) (k : AW l mi P kc ks (pc + 1) lv (.int x.toInt8.toInt32 :: st) sh M) : AW l mi P kc ks pc lv (.int x :: st) sh M := by
  intro p e s m args below meth c G H locs cells slots ls KC KS C E w hS hl hc hs
  exact lv_i2b C.1 C.2.1 hd rfl (k p e s m args below meth c G H locs cells slots ls KC KS C E w hS hl hc hs)
theorem AW.i2c {x : Int32} (hd : decode (iC mi) pc = .ok (.i2c, 1)) (k : AW l mi P kc ks (pc + 1) lv (.int ((x.toUInt32 % 65536).toInt32) :: st) sh M) : AW l mi P kc ks pc lv (.int x :: st) sh M := by
  intro p e s m args below meth c G H locs cells slots ls KC KS C E w hS hl hc hs
  exact lv_i2c C.1 C.2.1 hd rfl (k p e s m args below meth c G H locs cells slots ls KC KS C E w hS hl hc hs)
theorem AW.dup {v : Value} (hd : decode (iC mi) pc = .ok (.dup, 1)) (hv : v.category = 1) (k : AW l mi P kc ks (pc + 1) lv (v :: v :: st) sh M) : AW l mi P kc ks pc lv (v :: st) sh M := by
  intro p e s m args below meth c G H locs cells slots ls KC KS C E w hS hl hc hs
  exact lv_dup C.1 C.2.1 hd ((cv_cat G v).trans hv) (k p e s m args below meth c G H locs cells slots ls KC KS C E w hS hl hc hs)
theorem AW.pop {v : Value} (hd : decode (iC mi) pc = .ok (.pop, 1)) (hv : v.category = 1) (k : AW l mi P kc ks (pc + 1) lv (st) sh M) : AW l mi P kc ks pc lv (v :: st) sh M := by
  intro p e s m args below meth c G H locs cells slots ls KC KS C E w hS hl hc hs
  exact lv_pop C.1 C.2.1 hd ((cv_cat G v).trans hv) (k p e s m args below meth c G H locs cells slots ls KC KS C E w hS hl hc hs)
theorem AW.dup2_11 {v w : Value} (hd : decode (iC mi) pc = .ok (.dup2, 1)) (hv : v.category = 1) (hw : w.category = 1) (k : AW l mi P kc ks (pc + 1) lv (v :: w :: v :: w :: st) sh M) : AW l mi P kc ks pc lv (v :: w :: st) sh M := by
  intro p e s m args below meth c G H locs cells slots ls KC KS C E w hS hl hc hs
  exact lv_dup2_11 C.1 C.2.1 hd ((cv_cat G v).trans hv) ((cv_cat G _).trans hw) (k p e s m args below meth c G H locs cells slots ls KC KS C E w hS hl hc hs)
theorem AW.dup2_2 {v : Value} (hd : decode (iC mi) pc = .ok (.dup2, 1)) (hv : v.category = 2) (k : AW l mi P kc ks (pc + 1) lv (v :: v :: st) sh M) : AW l mi P kc ks pc lv (v :: st) sh M := by
  intro p e s m args below meth c G H locs cells slots ls KC KS C E w hS hl hc hs
  exact lv_dup2_2 C.1 C.2.1 hd ((cv_cat G v).trans hv) (k p e s m args below meth c G H locs cells slots ls KC KS C E w hS hl hc hs)
theorem AW.icmp_eq {x y : Int32} {off : Int} {tgt : Nat} (hd : decode (iC mi) pc = .ok (.if_icmp .eq off, 3)) (ht : (pc : Int) + off = (tgt : Int)) (kt : x = y → AW l mi P kc ks tgt lv st sh M) (kf : ¬ (x = y) → AW l mi P kc ks (pc + 3) lv st sh M) : AW l mi P kc ks pc lv (.int y :: .int x :: st) sh M := by
  intro p e s m args below meth c G H locs cells slots ls KC KS C E w hS hl hc hs
  exact lv_icmp_eq C.1 C.2.1 hd ht (fun h => kt h p e s m args below meth c G H locs cells slots ls KC KS C E w hS hl hc hs) (fun h => kf h p e s m args below meth c G H locs cells slots ls KC KS C E w hS hl hc hs)
theorem AW.icmp_ne {x y : Int32} {off : Int} {tgt : Nat} (hd : decode (iC mi) pc = .ok (.if_icmp .ne off, 3)) (ht : (pc : Int) + off = (tgt : Int)) (kt : ¬ x = y → AW l mi P kc ks tgt lv st sh M) (kf : x = y → AW l mi P kc ks (pc + 3) lv st sh M) : AW l mi P kc ks pc lv (.int y :: .int x :: st) sh M := by
  intro p e s m args below meth c G H locs cells slots ls KC KS C E w hS hl hc hs
  exact lv_icmp_ne C.1 C.2.1 hd ht (fun h => kt h p e s m args below meth c G H locs cells slots ls KC KS C E w hS hl hc hs) (fun h => kf h p e s m args below meth c G H locs cells slots ls KC KS C E w hS hl hc hs)
theorem AW.icmp_lt {x y : Int32} {off : Int} {tgt : Nat} (hd : decode (iC mi) pc = .ok (.if_icmp .lt off, 3)) (ht : (pc : Int) + off = (tgt : Int)) (kt : x < y → AW l mi P kc ks tgt lv st sh M) (kf : ¬ (x < y) → AW l mi P kc ks (pc + 3) lv st sh M) : AW l mi P kc ks pc lv (.int y :: .int x :: st) sh M := by
  intro p e s m args below meth c G H locs cells slots ls KC KS C E w hS hl hc hs
  exact lv_icmp_lt C.1 C.2.1 hd ht (fun h => kt h p e s m args below meth c G H locs cells slots ls KC KS C E w hS hl hc hs) (fun h => kf h p e s m args below meth c G H locs cells slots ls KC KS C E w hS hl hc hs)
theorem AW.icmp_ge {x y : Int32} {off : Int} {tgt : Nat} (hd : decode (iC mi) pc = .ok (.if_icmp .ge off, 3)) (ht : (pc : Int) + off = (tgt : Int)) (kt : y ≤ x → AW l mi P kc ks tgt lv st sh M) (kf : ¬ (y ≤ x) → AW l mi P kc ks (pc + 3) lv st sh M) : AW l mi P kc ks pc lv (.int y :: .int x :: st) sh M := by
  intro p e s m args below meth c G H locs cells slots ls KC KS C E w hS hl hc hs
  exact lv_icmp_ge C.1 C.2.1 hd ht (fun h => kt h p e s m args below meth c G H locs cells slots ls KC KS C E w hS hl hc hs) (fun h => kf h p e s m args below meth c G H locs cells slots ls KC KS C E w hS hl hc hs)
theorem AW.icmp_gt {x y : Int32} {off : Int} {tgt : Nat} (hd : decode (iC mi) pc = .ok (.if_icmp .gt off, 3)) (ht : (pc : Int) + off = (tgt : Int)) (kt : y < x → AW l mi P kc ks tgt lv st sh M) (kf : ¬ (y < x) → AW l mi P kc ks (pc + 3) lv st sh M) : AW l mi P kc ks pc lv (.int y :: .int x :: st) sh M := by
  intro p e s m args below meth c G H locs cells slots ls KC KS C E w hS hl hc hs
  exact lv_icmp_gt C.1 C.2.1 hd ht (fun h => kt h p e s m args below meth c G H locs cells slots ls KC KS C E w hS hl hc hs) (fun h => kf h p e s m args below meth c G H locs cells slots ls KC KS C E w hS hl hc hs)
theorem AW.icmp_le {x y : Int32} {off : Int} {tgt : Nat} (hd : decode (iC mi) pc = .ok (.if_icmp .le off, 3)) (ht : (pc : Int) + off = (tgt : Int)) (kt : x ≤ y → AW l mi P kc ks tgt lv st sh M) (kf : ¬ (x ≤ y) → AW l mi P kc ks (pc + 3) lv st sh M) : AW l mi P kc ks pc lv (.int y :: .int x :: st) sh M := by
  intro p e s m args below meth c G H locs cells slots ls KC KS C E w hS hl hc hs
  exact lv_icmp_le C.1 C.2.1 hd ht (fun h => kt h p e s m args below meth c G H locs cells slots ls KC KS C E w hS hl hc hs) (fun h => kf h p e s m args below meth c G H locs cells slots ls KC KS C E w hS hl hc hs)
theorem AW.if_eq {x : Int32} {off : Int} {tgt : Nat} (hd : decode (iC mi) pc = .ok (.ifCond .eq off, 3)) (ht : (pc : Int) + off = (tgt : Int)) (kt : x = 0 → AW l mi P kc ks tgt lv st sh M) (kf : ¬ (x = 0) → AW l mi P kc ks (pc + 3) lv st sh M) : AW l mi P kc ks pc lv (.int x :: st) sh M := by
  intro p e s m args below meth c G H locs cells slots ls KC KS C E w hS hl hc hs
  exact lv_if_eq C.1 C.2.1 hd ht (fun h => kt h p e s m args below meth c G H locs cells slots ls KC KS C E w hS hl hc hs) (fun h => kf h p e s m args below meth c G H locs cells slots ls KC KS C E w hS hl hc hs)
theorem AW.if_ne {x : Int32} {off : Int} {tgt : Nat} (hd : decode (iC mi) pc = .ok (.ifCond .ne off, 3)) (ht : (pc : Int) + off = (tgt : Int)) (kt : ¬ x = 0 → AW l mi P kc ks tgt lv st sh M) (kf : x = 0 → AW l mi P kc ks (pc + 3) lv st sh M) : AW l mi P kc ks pc lv (.int x :: st) sh M := by
  intro p e s m args below meth c G H locs cells slots ls KC KS C E w hS hl hc hs
  exact lv_if_ne C.1 C.2.1 hd ht (fun h => kt h p e s m args below meth c G H locs cells slots ls KC KS C E w hS hl hc hs) (fun h => kf h p e s m args below meth c G H locs cells slots ls KC KS C E w hS hl hc hs)
theorem AW.if_lt {x : Int32} {off : Int} {tgt : Nat} (hd : decode (iC mi) pc = .ok (.ifCond .lt off, 3)) (ht : (pc : Int) + off = (tgt : Int)) (kt : x < 0 → AW l mi P kc ks tgt lv st sh M) (kf : ¬ (x < 0) → AW l mi P kc ks (pc + 3) lv st sh M) : AW l mi P kc ks pc lv (.int x :: st) sh M := by
  intro p e s m args below meth c G H locs cells slots ls KC KS C E w hS hl hc hs
  exact lv_if_lt C.1 C.2.1 hd ht (fun h => kt h p e s m args below meth c G H locs cells slots ls KC KS C E w hS hl hc hs) (fun h => kf h p e s m args below meth c G H locs cells slots ls KC KS C E w hS hl hc hs)
theorem AW.if_ge {x : Int32} {off : Int} {tgt : Nat} (hd : decode (iC mi) pc = .ok (.ifCond .ge off, 3)) (ht : (pc : Int) + off = (tgt : Int)) (kt : 0 ≤ x → AW l mi P kc ks tgt lv st sh M) (kf : ¬ (0 ≤ x) → AW l mi P kc ks (pc + 3) lv st sh M) : AW l mi P kc ks pc lv (.int x :: st) sh M := by
  intro p e s m args below meth c G H locs cells slots ls KC KS C E w hS hl hc hs
  exact lv_if_ge C.1 C.2.1 hd ht (fun h => kt h p e s m args below meth c G H locs cells slots ls KC KS C E w hS hl hc hs) (fun h => kf h p e s m args below meth c G H locs cells slots ls KC KS C E w hS hl hc hs)
theorem AW.if_gt {x : Int32} {off : Int} {tgt : Nat} (hd : decode (iC mi) pc = .ok (.ifCond .gt off, 3)) (ht : (pc : Int) + off = (tgt : Int)) (kt : 0 < x → AW l mi P kc ks tgt lv st sh M) (kf : ¬ (0 < x) → AW l mi P kc ks (pc + 3) lv st sh M) : AW l mi P kc ks pc lv (.int x :: st) sh M := by
  intro p e s m args below meth c G H locs cells slots ls KC KS C E w hS hl hc hs
  exact lv_if_gt C.1 C.2.1 hd ht (fun h => kt h p e s m args below meth c G H locs cells slots ls KC KS C E w hS hl hc hs) (fun h => kf h p e s m args below meth c G H locs cells slots ls KC KS C E w hS hl hc hs)
theorem AW.if_le {x : Int32} {off : Int} {tgt : Nat} (hd : decode (iC mi) pc = .ok (.ifCond .le off, 3)) (ht : (pc : Int) + off = (tgt : Int)) (kt : x ≤ 0 → AW l mi P kc ks tgt lv st sh M) (kf : ¬ (x ≤ 0) → AW l mi P kc ks (pc + 3) lv st sh M) : AW l mi P kc ks pc lv (.int x :: st) sh M := by
  intro p e s m args below meth c G H locs cells slots ls KC KS C E w hS hl hc hs
  exact lv_if_le C.1 C.2.1 hd ht (fun h => kt h p e s m args below meth c G H locs cells slots ls KC KS C E w hS hl hc hs) (fun h => kf h p e s m args below meth c G H locs cells slots ls KC KS C E w hS hl hc hs)
theorem AW.goto {off : Int} {tgt : Nat} (hd : decode (iC mi) pc = .ok (.goto off, 3)) (ht : (pc : Int) + off = (tgt : Int)) (k : AW l mi P kc ks tgt lv st sh M) : AW l mi P kc ks pc lv st sh M := by
  intro p e s m args below meth c G H locs cells slots ls KC KS C E w hS hl hc hs
  exact lv_goto C.1 C.2.1 hd ht (k p e s m args below meth c G H locs cells slots ls KC KS C E w hS hl hc hs)
theorem AW.tableIn {dflt lo hi : Int} {offs : Array Int} {len : Nat} {x : Int32} {off : Int} {tgt : Nat} (hd : decode (iC mi) pc = .ok (.tableswitch dflt lo hi offs, len)) (h1 : ¬ x.toInt < lo) (h2 : ¬ hi < x.toInt) (ho : offs[(x.toInt - lo).toNat]? = some off) (ht : (pc : Int) + off = (tgt : Int)) (k : AW l mi P kc ks tgt lv st sh M) : AW l mi P kc ks pc lv (.int x :: st) sh M := by
  intro p e s m args below meth c G H locs cells slots ls KC KS C E w hS hl hc hs
  exact lv_tableIn C.1 C.2.1 hd h1 h2 ho ht (k p e s m args below meth c G H locs cells slots ls KC KS C E w hS hl hc hs)
theorem AW.tableOut {dflt lo hi : Int} {offs : Array Int} {len : Nat} {x : Int32} {tgt : Nat} (hd : decode (iC mi) pc = .ok (.tableswitch dflt lo hi offs, len)) (h : x.toInt < lo ∨ hi < x.toInt) (ht : (pc : Int) + dflt = (tgt : Int)) (k : AW l mi P kc ks tgt lv st sh M) : AW l mi P kc ks pc lv (.int x :: st) sh M := by
  intro p e s m args below meth c G H locs cells slots ls KC KS C E w hS hl hc hs
  exact lv_tableOut C.1 C.2.1 hd h ht (k p e s m args below meth c G H locs cells slots ls KC KS C E w hS hl hc hs)
theorem AW.ldc {n : Nat} {v : Int32} (hd : decode (iC mi) pc = .ok (.ldc n, 2)) (hw : Cond.constant (iO mi) n v ∈ GW) (k : AW l mi P kc ks (pc + 2) lv (.int v :: st) sh M) : AW l mi P kc ks pc lv st sh M := by
  intro p e s m args below meth c G H locs cells slots ls KC KS C E w hS hl hc hs
  exact lv_ldc C.1 C.2.1 C.2.2.2.1 (C.2.2.2.2.1 _ hw) hd (k p e s m args below meth c G H locs cells slots ls KC KS C E w hS hl hc hs)
theorem AW.ldcw {n : Nat} {v : Int32} (hd : decode (iC mi) pc = .ok (.ldc_w n, 3)) (hw : Cond.constant (iO mi) n v ∈ GW) (k : AW l mi P kc ks (pc + 3) lv (.int v :: st) sh M) : AW l mi P kc ks pc lv st sh M := by
  intro p e s m args below meth c G H locs cells slots ls KC KS C E w hS hl hc hs
  exact lv_ldcw C.1 C.2.1 C.2.2.2.1 (C.2.2.2.2.1 _ hw) hd (k p e s m args below meth c G H locs cells slots ls KC KS C E w hS hl hc hs)
theorem AW.ldc2 {n : Nat} {v : Int64} (hd : decode (iC mi) pc = .ok (.ldc2_w n, 3)) (hw : Cond.constantLong (iO mi) n v ∈ GW) (k : AW l mi P kc ks (pc + 3) lv (.long v :: st) sh M) : AW l mi P kc ks pc lv st sh M := by
  intro p e s m args below meth c G H locs cells slots ls KC KS C E w hS hl hc hs
  exact lv_ldc2 C.1 C.2.1 C.2.2.2.1 (C.2.2.2.2.1 _ hw) hd (k p e s m args below meth c G H locs cells slots ls KC KS C E w hS hl hc hs)
end AWrules
