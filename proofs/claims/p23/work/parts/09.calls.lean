/-! returns, entries, calls -/
section AWend
variable {l : aL} {mi : aI} {P : aP} {kc ks pc : Nat} {lv : List (Nat × Value)} {sh : aH} {M : aM}
theorem AW.iret {x : Int32} (hd : decode (iC mi) pc = .ok (.ireturn, 1)) (hr : iR mi = some .int) (hP : P (.inl (some (.int x))) sh M) : AW l mi P kc ks pc lv [.int x] sh M := by
  intro p e s m args below meth c G H locs cells slots ls KC KS C E w hS hl hc hs
  refine vx_ret (W.widen (k := KC) (n := KS) (by omega) (by omega) ?_)
  exact W.iret (v := x) C.1 C.2.1 (C.2.2.2.2.2.1.trans hr) (fun t ht hW => ⟨some (.int x), sh, M, rfl, hP, by rw [ht]; exact w.moved hW.alike, hS.F ht⟩) hS.2.2 hd C.2.2.2.2.2.2.1
theorem AW.zret {x : Int32} {ty : FieldType} (hd : decode (iC mi) pc = .ok (.ireturn, 1)) (hr : iR mi = some ty) (hn : narrow ty (.int x) = .int x) (hP : P (.inl (some (.int x))) sh M) : AW l mi P kc ks pc lv [.int x] sh M := by
  intro p e s m args below meth c G H locs cells slots ls KC KS C E w hS hl hc hs
  refine vx_ret (W.widen (k := KC) (n := KS) (by omega) (by omega) ?_)
  exact W.zret (v := x) C.1 C.2.1 (C.2.2.2.2.2.1.trans hr) hn (fun t ht hW => ⟨some (.int x), sh, M, rfl, hP, by rw [ht]; exact w.moved hW.alike, hS.F ht⟩) hS.2.2 hd C.2.2.2.2.2.2.1
theorem AW.lret {x : Int64} (hd : decode (iC mi) pc = .ok (.lreturn, 1)) (hr : iR mi = some .long) (hP : P (.inl (some (.long x))) sh M) : AW l mi P kc ks pc lv [.long x] sh M := by
  intro p e s m args below meth c G H locs cells slots ls KC KS C E w hS hl hc hs
  refine vx_ret (W.widen (k := KC) (n := KS) (by omega) (by omega) ?_)
  exact W.lret (v := x) C.1 C.2.1 (C.2.2.2.2.2.1.trans hr) (fun t ht hW => ⟨some (.long x), sh, M, rfl, hP, by rw [ht]; exact w.moved hW.alike, hS.F ht⟩) hS.2.2 hd C.2.2.2.2.2.2.1
theorem AW.vret (hd : decode (iC mi) pc = .ok (.return_, 1)) (hr : iR mi = none) (hP : P (.inl none) sh M) : AW l mi P kc ks pc lv [] sh M := by
  intro p e s m args below meth c G H locs cells slots ls KC KS C E w hS hl hc hs
  refine vx_ret (W.widen (k := KC) (n := KS) (by omega) (by omega) ?_)
  exact W.vret C.1 C.2.1 (C.2.2.2.2.2.1.trans hr) (fun t ht hW => ⟨none, sh, M, rfl, hP, by rw [ht]; exact w.moved hW.alike, hS.F ht⟩) hS.2.2 hd C.2.2.2.2.2.2.1
theorem lcv_args (G : aG) : ∀ (av : List Value) (i : Nat), lv_args i (av.map (cv G)) = lcv G (lv_args i av)
  | [], _ => rfl
  | v :: r, i => by
    show (i, cv G v) :: lv_args (if (cv G v).category = 2 then i + 2 else i + 1) (r.map (cv G)) = _
    rw [cv_cat, lcv_args G r]
    rfl
theorem lcv_len (G : aG) : ∀ (av : List Value), (lg_sl (av.map (cv G))).length = (lg_sl av).length
  | [] => rfl
  | v :: r => by
    have h := lcv_len G r
    simp only [lg_sl, List.map_cons, List.flatMap_cons, List.length_append, cv_cat] at h ⊢
    rw [h]
    split <;> rfl
/-- a contract out of the walk of its body -/
theorem AC.of {av : List Value} (hl0 : l.1.stackTraces = false) (hy : plainName (iY mi).cls = true) (ho : (iY mi).cls = iO mi) (ht0 : iT mi = []) (hlen : (lg_sl av).length ≤ iL mi) (k : AW l mi P kc ks 0 (lv_args 0 av) [] sh M) : AC l mi P kc ks av sh M := by
  intro G hΓ
  refine vx_ofW (cc := iC mi) (maxL := iL mi) (ret := iR mi) hy rfl ?_
  intro p e s m args below meth c s₁ B hml ht hv
  obtain ⟨rfl, hE, hw⟩ := hv
  have hl := lv_entry (av.map (cv G)) (n := iL mi) (by rw [lcv_len]; exact hlen)
  rw [lg_entry_eq]
  generalize (lg_sl (av.map (cv G)) ++ List.replicate (iL mi - (lg_sl (av.map (cv G))).length) Slot.unset).toArray = ls at hl ⊢
  rw [lcv_args] at hl
  have hts := atoms_spec (ws := .code (iY mi) (iC mi) (iL mi) (iR mi) :: GW) B.pre
  have hown : s.vm.findClass (iY mi).cls = some m.cls := findClass_of_methodNamed B.named
  rw [ho] at hown
  have htab : c.exceptionTable.toList = iT mi := by
    rw [ht0]
    exact List.eq_nil_iff_forall_not_mem.mpr (fun x hx => ht x hx)
  exact k p e s m _ below meth c G s.heap [] 0 0 ls kc ks ⟨B.exec, B.bytes, hml, hown, fun w h => hts w (List.mem_cons_of_mem _ h), B.returns, B.notSynchronized, fun h => (name_of_methodNamed B.named B.method).1.trans h, htab, hl0⟩ ⟨hE, hΓ⟩ hw va_S.rf hl (by omega) (by omega)
end AWend
theorem aPc_blind (G : aG) (sh : aH) (M : aM) (av : List Value) : FrameBlind (aPc G sh M av) := by
  intro a U g mk h
  obtain ⟨h1, h2, h3⟩ := h
  exact ⟨h1, aE.to (s := U) (U := U.calling g mk a) (locs := []) (State.WarmedH.refl U) va_S.rf h2, h3.moved (Vm.Alike.refl U.vm)⟩
section AWgo
variable {p : Program} {l : Launch} {e : Env} {R : Room} {s : State} {m : MethodId} {args : Array Value} {below : List Frame} {meth : Method} {c : Code} {H : Heap} {locs : List Loc} {cells slots mc ms pc : Nat} {ls : Array Slot} {st0 rest : List Value} {a : Array Value} {Q : State → Prop} {G : aG} {P1 : aP}
theorem aw_go (hr : vx_Run p l e R s m args below meth c H locs cells slots mc ms (F0 m pc ls st0) rest (aQ G P1 a) (aX G P1) (gA G)) (hS : va_S (gA G) s.heap H locs)
    (kx : ∀ (E : String) (q : Addr) (ce : Cell) (sh : aH) (M : aM) (H1 : Heap) (locs1 : List Loc), P1 (.inr E) sh M → aW G sh M s H1 → va_S (gA G) s.heap H1 locs1 → H1[q]? = some ce → ce.vm = .none → s.vm.findClass E = some ce.cls → vx_W p l e R s m args below meth c H1 locs1 (cells + mc) (slots + ms) Q (F0 m pc ls rest) q)
    (kk : ∀ (v : Option Value) (sh : aH) (M : aM) (H1 : Heap) (locs1 : List Loc), P1 (.inl v) sh M → aW G sh M s H1 → va_S (gA G) s.heap H1 locs1 → W p l e R s m args below meth c H1 locs1 (cells + mc) (slots + ms) Q (F0 m (pc + 3) ls ((v.map (cv G)).toList ++ rest))) : W p l e R s m args below meth c H locs cells slots Q (F0 m pc ls st0) := by
  intro T hT X
  rcases hr T hT X with ⟨v, st₀, t, T', L, h0, X', hL, e1, e2, ⟨v', sh, M, hv, hp, hw, hF⟩, st⟩ | ⟨q, st₀, t, T', L, E, ce, h0, X', hL, e1, e2, ⟨sh, M, hp, hw, hF⟩, hce, hcv, hcl, st⟩
  · cases hv
    obtain ⟨k1, k2, k3⟩ := vx_keep h0 e1 hS (fun _ _ h => h) (fun _ h => h) hL hF
    have hw' : aW G sh M s T'.heap := by
      rw [e1]
      exact hw.moved (by rw [← e2]; exact X'.warmed.alike.symm)
    obtain ⟨t2, a1, b1⟩ := kk v' sh M T'.heap (locs ++ L) hp hw' k3 T' rfl X'
    exact ⟨t2, st t2 a1, b1⟩
  · obtain ⟨k1, k2, k3⟩ := vx_keep h0 e1 hS (fun _ _ h => h) (fun _ h => h) hL hF
    have hw' : aW G sh M s T'.heap := by
      rw [e1]
      exact hw.moved (by rw [← e2]; exact X'.warmed.alike.symm)
    obtain ⟨t2, a1, b1⟩ := kx E q ce sh M T'.heap (locs ++ L) hp hw' k3 (by rw [e1]; exact hce) hcv hcl T' rfl X'
    exact ⟨t2, st.trans a1, b1⟩
/-- a call that never throws -/
theorem aw_goR (hr : va_Run p l e R s m args below meth c H locs cells slots mc ms (F0 m pc ls st0) rest (aQ G P1 a) (gA G)) (hS : va_S (gA G) s.heap H locs)
    (kk : ∀ (v : Option Value) (sh : aH) (M : aM) (H1 : Heap) (locs1 : List Loc), P1 (.inl v) sh M → aW G sh M s H1 → va_S (gA G) s.heap H1 locs1 → W p l e R s m args below meth c H1 locs1 (cells + mc) (slots + ms) Q (F0 m (pc + 3) ls ((v.map (cv G)).toList ++ rest))) : W p l e R s m args below meth c H locs cells slots Q (F0 m pc ls st0) := by
  intro T hT X
  obtain ⟨v, st₀, t, T', L, h0, X', hL, e1, e2, ⟨v', sh, M, hv, hp, hw, hF⟩, st⟩ := hr T hT X
  cases hv
  obtain ⟨k1, k2, k3⟩ := vx_keep h0 e1 hS (fun _ _ h => h) (fun _ h => h) hL hF
  have hw' : aW G sh M s T'.heap := by
    rw [e1]
    exact hw.moved (by rw [← e2]; exact X'.warmed.alike.symm)
  obtain ⟨t2, a1, b1⟩ := kk v' sh M T'.heap (locs ++ L) hp hw' k3 T' rfl X'
  exact ⟨t2, st t2 a1, b1⟩
end AWgo
theorem AC.met {l : aL} {mi : aI} {P : aP} {kc ks : Nat} {av : List Value} {sh : aH} {M : aM} (h : AC l mi P kc ks av sh M) (hx : ∀ E sh M, ¬ P (.inr E) sh M) (G : aG) (hΓ : l.2 G) : Met l.1 (iY mi) (.code (iY mi) (iC mi) (iL mi) (iR mi) :: GW) { frames := iF mi, cells := kc, slots := ks, locals := iW mi } (aPc G sh M av) (aQ G P) kc ks (gA G) := by
  intro p e h1 h2 h3 s m args below h4 h5 h6 h7
  obtain ⟨n, o, a1, a2, a3, a4⟩ := h G hΓ p e h1 h2 h3 s m args below h4 h5 h6 h7
  refine ⟨n, o, a1, a2, a3, ?_⟩
  rcases a4 with h | ⟨q, -, E, ce, L, ⟨sh, M, h, -⟩, -⟩
  · exact h
  · exact absurd h (hx E sh M)
/-- thrown over the frame at pc -/
def AX (l : aL) (mi : aI) (P : aP) (kc ks pc : Nat) (lv : List (Nat × Value)) (sh : aH) (M : aM) (X : String) : Prop :=
  ∀ (p : Program) (e : Env) (s : State) (m : MethodId) (args : Array Value) (below : List Frame) (meth : Method) (c : Code) (G : aG) (H : Heap) (locs : List Loc) (cells slots : Nat) (ls : Array Slot) (rest : List Value) (KC KS : Nat) (q : Addr) (ce : Cell),
    aCtx l.1 mi p s m args meth c → aE G s ∧ l.2 G → aW G sh M s H → va_S (gA G) s.heap H locs → lv_has ls (iL mi) (lcv G lv) → cells + kc ≤ KC → slots + ks ≤ KS → H[q]? = some ce → ce.vm = .none → s.vm.findClass X = some ce.cls →
    vx_W p l.1 e { frames := iF mi, cells := KC, slots := KS, locals := iW mi } s m args below meth c H locs cells slots (vx_MQ below (aQ G P) (aX G P) args s KC KS (gA G)) (F0 m pc ls rest) q
theorem AX.out {l : aL} {mi : aI} {P : aP} {kc ks pc : Nat} {lv : List (Nat × Value)} {sh : aH} {M : aM} {X : String} (ht : ∀ x ∈ iT mi, covers x pc = false) (hP : P (.inr X) sh M) : AX l mi P kc ks pc lv sh M X := by
  intro p e s m args below meth c G H locs cells slots ls rest KC KS q ce C E w hS hl hc hs h1 h2 h3
  exact vx_out (by rw [C.2.2.2.2.2.2.2.2.1]; exact ht) C.2.2.2.2.2.2.1 h1 h2 h3 (fun t e1 e2 => ⟨sh, M, hP, by rw [e1]; exact w.moved e2, hS.F e1⟩) hS.2.2 (by omega) (by omega)
/-- a callee's words -/
def cD (mi mj : aI) (k : Nat) : Prop := ((iY mj).cls ≠ "java/lang/invoke/MethodHandle" ∧ (iY mj).cls ≠ "java/lang/invoke/VarHandle" ∧ (parseMethodDescriptor (iY mj).desc).map (fun d => d.parameters.length) = some k) ∧ iF mj + 1 ≤ iF mi ∧ 8 + (iL mj + 11) + iW mj ≤ iW mi
def cK (mj : aI) : Prop := Cond.initialized (iY mj).cls ∈ GW ∧ Cond.code (iY mj) (iC mj) (iL mj) (iR mj) ∈ GW
def cV (mi mj : aI) (n : Nat) : Prop := Cond.methodLink (iO mi) n (iY mj) ∈ GW ∧ Cond.instanceMethod (iY mj) ∈ GW ∧ Cond.selects (iY mj).cls (iY mj) (iY mj) ∈ GW ∧ cK mj
def cS (mi mj : aI) (n : Nat) : Prop := Cond.methodLink (iO mi) n (iY mj) ∈ GW ∧ Cond.static (iY mj) ∈ GW ∧ cK mj
def cN (mi mj : aI) (n : Nat) : Prop := (∃ h : String, (iO mi, n, iY mj, h) ∈ aNests) ∧ Cond.instanceMethod (iY mj) ∈ GW ∧ cK mj ∧ (iY mj).name = "<init>" ∧ iR mj = none
theorem GW_sub {d : Cond} (hd : d ∈ GW) : GoodIn GW (d :: GW) := by
  have hg : ∀ w ∈ GW, (w.onTables && w.keeps) = true ∨ ∃ ty, w = .arrayClass ty := fun w hw => good_of_word (List.mem_filter.mp hw).2
  intro w hw
  rcases List.mem_cons.mp hw with rfl | hw
  · exact ⟨hd, hg _ hd⟩
  · exact ⟨hw, hg _ hw⟩
theorem GW_one {d : Cond} (hd : d ∈ GW) : d ∈ GW ∧ ((d.onTables && d.keeps) = true ∨ ∃ ty, d = .arrayClass ty) := ⟨hd, good_of_word (List.mem_filter.mp hd).2⟩
theorem lcv_cats (G : aG) (st : List Value) : ((st.map (cv G)).map fun v => v.category).sum = (st.map fun v => v.category).sum := by
  rw [List.map_map]
  congr 2
  funext v
  exact cv_cat G v
theorem map_opt (G : aG) (v : Option Value) (st : List Value) : (v.map (cv G)).toList ++ st.map (cv G) = (v.toList ++ st).map (cv G) := by cases v <;> rfl
section AWcalls
variable {l : aL} {mi mj : aI} {P P1 : aP} {kc ks kc1 ks1 pc n : Nat} {lv : List (Nat × Value)} {st as : List Value} {sh : aH} {M : aM}
theorem AW.callV {i ci : Nat} {q : vw_C} (hd : decode (iC mi) pc = .ok (.invokevirtual n, 3)) (hi : sh.2[i]? = some (.inl ci)) (hq : vwCl[ci]? = some q) (hy : q.1 = (iY mj).cls) (hw : cV mi mj n) (hD : cD mi mj as.length) (hst : (st.map fun v => v.category).sum ≤ 8) (hc : AC l mj P1 kc1 ks1 (.ref i :: as) sh M)
    (kr : ∀ v sh' M', P1 (.inl v) sh' M' → AW l mi P kc ks (pc + 3) lv (v.toList ++ st) sh' M') (kx : ∀ X sh' M', P1 (.inr X) sh' M' → AX l mi P kc ks pc lv sh' M' X) : AW l mi P (kc + kc1) (ks + ks1) pc lv (as.reverse ++ .ref i :: st) sh M := by
  intro p e s m args below meth c G H locs cells slots ls KC KS C E w hS hl hcc hss
  have hts := C.2.2.2.2.1
  obtain ⟨w1, w2, w3, w4, w5⟩ := hw
  obtain ⟨d1, d2, d3⟩ := hD
  obtain ⟨r, h1, cell, q1, q2, q3, q4⟩ := w.2 i _ hi
  cases h1.symm.trans hq
  obtain ⟨hSl, hfc, kC, hkC, hkind⟩ := E.1.1.1 ci _ hq
  have hG : GoodIn GW (wsV (iO mi) n (iY mj).cls (iY mj) (.code (iY mj) (iC mj) (iL mj) (iR mj) :: GW)) := by
    intro w hw
    rcases List.mem_append.mp hw with hw | hw
    · simp only [List.mem_cons, List.not_mem_nil, or_false] at hw
      rcases hw with rfl | rfl | rfl | rfl
      · exact GW_one w1
      · exact GW_one w2
      · exact GW_one w3
      · exact GW_one w4
    · exact GW_sub w5 w hw
  have hrun := vx_runV (p := p) (e := e) (below := below) (meth := meth) (locs := locs) (cells := cells) (slots := slots) (R := { frames := iF mi, cells := KC, slots := KS, locals := iW mi }) (H := H) (b := G.1 + i) (As := as.map (cv G)) (rest := st.map (cv G)) (g := F0 m pc ls ((as.reverse ++ .ref i :: st).map (cv G))) ⟨C.1, C.2.1, C.2.2.1, C.2.2.2.1, hts⟩ (hc G E.2)
    (cwV as.length hts hG rfl rfl rfl ⟨rfl, d1⟩ ⟨d2, d3⟩)
    ⟨aPc_blind G sh M _, ⟨cell, q1, by rw [q3]; rfl, by rw [← hy, q2]; exact hfc⟩, fun U hU hW => ⟨rfl, aE.to hW (by rw [hU]; exact hS) E.1, by rw [hU]; exact w.moved hW.alike⟩⟩
    rfl (by simp) hl.1 (by simp [cv]) (lv_room (by rw [lcv_cats]; exact hst)) hd ⟨show cells + kc1 ≤ KC by omega, show slots + ks1 ≤ KS by omega⟩
  refine aw_go hrun hS (fun X q ce sh' M' H1 locs1 hp hw' hS' h1 h2 h3 => ?_) (fun v sh' M' H1 locs1 hp hw' hS' => ?_)
  · exact kx X sh' M' hp p e s m args below meth c G H1 locs1 (cells + kc1) (slots + ks1) ls (st.map (cv G)) KC KS q ce C E hw' hS' hl (by omega) (by omega) h1 h2 h3
  · rw [map_opt]
    exact kr v sh' M' hp p e s m args below meth c G H1 locs1 (cells + kc1) (slots + ks1) ls KC KS C E hw' hS' hl (by omega) (by omega)
theorem AW.callS (hd : decode (iC mi) pc = .ok (.invokestatic n, 3)) (hw : cS mi mj n) (hD : cD mi mj as.length) (hst : (st.map fun v => v.category).sum ≤ 8) (hc : AC l mj P1 kc1 ks1 as sh M)
    (kr : ∀ v sh' M', P1 (.inl v) sh' M' → AW l mi P kc ks (pc + 3) lv (v.toList ++ st) sh' M') (kx : ∀ X sh' M', P1 (.inr X) sh' M' → AX l mi P kc ks pc lv sh' M' X) : AW l mi P (kc + kc1) (ks + ks1) pc lv (as.reverse ++ st) sh M := by
  intro p e s m args below meth c G H locs cells slots ls KC KS C E w hS hl hcc hss
  have hts := C.2.2.2.2.1
  obtain ⟨w1, w2, w4, w5⟩ := hw
  obtain ⟨d1, d2, d3⟩ := hD
  have hG : GoodIn GW (va_wsS (iO mi) n (iY mj) (.code (iY mj) (iC mj) (iL mj) (iR mj) :: GW)) := by
    intro w hw
    rcases List.mem_append.mp hw with hw | hw
    · simp only [List.mem_cons, List.not_mem_nil, or_false] at hw
      rcases hw with rfl | rfl | rfl
      · exact GW_one w1
      · exact GW_one w2
      · exact GW_one w4
    · exact GW_sub w5 w hw
  have hrun := vx_runS (p := p) (e := e) (below := below) (meth := meth) (locs := locs) (cells := cells) (slots := slots) (R := { frames := iF mi, cells := KC, slots := KS, locals := iW mi }) (H := H) (As := as.map (cv G)) (rest := st.map (cv G)) (g := F0 m pc ls ((as.reverse ++ st).map (cv G))) ⟨C.1, C.2.1, C.2.2.1, C.2.2.2.1, hts⟩ (hc G E.2)
    (va_cwS as.length hts hG rfl rfl rfl d1 ⟨d2, d3⟩)
    ⟨aPc_blind G sh M _, fun U hU hW => ⟨rfl, aE.to hW (by rw [hU]; exact hS) E.1, by rw [hU]; exact w.moved hW.alike⟩⟩
    rfl (by simp) hl.1 (by simp) (lv_room (by rw [lcv_cats]; exact hst)) hd ⟨show cells + kc1 ≤ KC by omega, show slots + ks1 ≤ KS by omega⟩
  refine aw_go hrun hS (fun X q ce sh' M' H1 locs1 hp hw' hS' h1 h2 h3 => ?_) (fun v sh' M' H1 locs1 hp hw' hS' => ?_)
  · exact kx X sh' M' hp p e s m args below meth c G H1 locs1 (cells + kc1) (slots + ks1) ls (st.map (cv G)) KC KS q ce C E hw' hS' hl (by omega) (by omega) h1 h2 h3
  · rw [map_opt]
    exact kr v sh' M' hp p e s m args below meth c G H1 locs1 (cells + kc1) (slots + ks1) ls KC KS C E hw' hS' hl (by omega) (by omega)
/-- a constructor, called by the rows of the tables -/
def cI (mi mj : aI) (n : Nat) : Prop := Cond.methodLink (iO mi) n (iY mj) ∈ GW ∧ Cond.instanceMethod (iY mj) ∈ GW ∧ cK mj ∧ (iY mj).name = "<init>" ∧ iR mj = none
theorem AW.callI {i : Nat} (hd : decode (iC mi) pc = .ok (.invokespecial n, 3)) (hw : cI mi mj n) (hD : cD mi mj as.length) (hst : (st.map fun v => v.category).sum ≤ 8) (hc : AC l mj P1 kc1 ks1 (.ref i :: as) sh M) (hx : ∀ X sh M, ¬ P1 (.inr X) sh M)
    (kr : ∀ v sh' M', P1 (.inl v) sh' M' → AW l mi P kc ks (pc + 3) lv (v.toList ++ st) sh' M') : AW l mi P (kc + kc1) (ks + ks1) pc lv (as.reverse ++ .ref i :: st) sh M := by
  intro p e s m args below meth c G H locs cells slots ls KC KS C E w hS hl hcc hss
  have hts := C.2.2.2.2.1
  obtain ⟨w1, w2, ⟨w4, w5⟩, w6, w7⟩ := hw
  obtain ⟨d1, d2, d3⟩ := hD
  have hM := hc.met hx G E.2
  rw [w7] at w5 hM
  have hrun := va_runI (p := p) (e := e) (below := below) (meth := meth) (locs := locs) (cells := cells) (slots := slots) (R := { frames := iF mi, cells := KC, slots := KS, locals := iW mi }) (H := H) (b := G.1 + i) (As := as.map (cv G)) (rest := st.map (cv G)) (g := F0 m pc ls ((as.reverse ++ .ref i :: st).map (cv G))) ⟨C.1, C.2.1, C.2.2.1, C.2.2.2.1, hts⟩ hM
    (cwI as.length hts (GW_sub w5) rfl rfl rfl (hts _ w4) (hts _ w1) (hts _ w2) w6 d1 ⟨d2, d3⟩)
    ⟨aPc_blind G sh M _, fun U hU hW => ⟨rfl, aE.to hW (by rw [hU]; exact hS) E.1, by rw [hU]; exact w.moved hW.alike⟩⟩
    rfl (by simp) hl.1 (by simp [cv]) (lv_room (by rw [lcv_cats]; exact hst)) hd ⟨show cells + kc1 ≤ KC by omega, show slots + ks1 ≤ KS by omega⟩
  refine aw_goR hrun hS (fun v sh' M' H1 locs1 hp hw' hS' => ?_)
  rw [map_opt]
  exact kr v sh' M' hp p e s m args below meth c G H1 locs1 (cells + kc1) (slots + ks1) ls KC KS C E hw' hS' hl (by omega) (by omega)
theorem AW.callN {i : Nat} (hd : decode (iC mi) pc = .ok (.invokespecial n, 3)) (hw : cN mi mj n) (hD : cD mi mj as.length) (hst : (st.map fun v => v.category).sum ≤ 8) (hc : AC l mj P1 kc1 ks1 (.ref i :: as) sh M) (hx : ∀ X sh M, ¬ P1 (.inr X) sh M)
    (kr : ∀ v sh' M', P1 (.inl v) sh' M' → AW l mi P kc ks (pc + 3) lv (v.toList ++ st) sh' M') : AW l mi P (kc + kc1) (ks + ks1) pc lv (as.reverse ++ .ref i :: st) sh M := by
  intro p e s m args below meth c G H locs cells slots ls KC KS C E w hS hl hcc hss
  have hts := C.2.2.2.2.1
  obtain ⟨⟨h9, w1⟩, w2, ⟨w4, w5⟩, w6, w7⟩ := hw
  obtain ⟨d1, d2, d3⟩ := hD
  have hM := hc.met hx G E.2
  rw [w7] at w5 hM
  have hNw := E.1.2.2.2.2.2.1 _ w1
  have hrun := va_runIN (p := p) (e := e) (below := below) (meth := meth) (locs := locs) (cells := cells) (slots := slots) (R := { frames := iF mi, cells := KC, slots := KS, locals := iW mi }) (H := H) (b := G.1 + i) (As := as.map (cv G)) (rest := st.map (cv G)) (g := F0 m pc ls ((as.reverse ++ .ref i :: st).map (cv G))) ⟨C.1, C.2.1, C.2.2.1, C.2.2.2.1, hts⟩ hM
    ⟨va_cnB as.length hts (GW_sub w5) rfl rfl rfl hNw (hts _ w4) d1 ⟨d2, d3⟩, w6, hts _ w2⟩
    ⟨aPc_blind G sh M _, fun U hU hW => ⟨rfl, aE.to hW (by rw [hU]; exact hS) E.1, by rw [hU]; exact w.moved hW.alike⟩⟩
    rfl (by simp) hl.1 (by simp [cv]) (lv_room (by rw [lcv_cats]; exact hst)) hd ⟨show cells + kc1 ≤ KC by omega, show slots + ks1 ≤ KS by omega⟩
  refine aw_goR hrun hS (fun v sh' M' H1 locs1 hp hw' hS' => ?_)
  rw [map_opt]
  exact kr v sh' M' hp p e s m args below meth c G H1 locs1 (cells + kc1) (slots + ks1) ls KC KS C E hw' hS' hl (by omega) (by omega)
theorem AW.obj {i : Nat} (hd : decode (iC mi) pc = .ok (.invokespecial n, 3)) (w1 : Cond.methodLink (iO mi) n Lib.objectInit ∈ GW) (w2 : Cond.instanceMethod Lib.objectInit ∈ GW) (w3 : Cond.code Lib.objectInit ⟨#[0xb1]⟩ 1 none ∈ GW) (hF : 1 ≤ iF mi) (hL : (st.map fun v => v.category).sum + 12 ≤ iW mi) (k : AW l mi P kc ks (pc + 3) lv st sh M) : AW l mi P kc ks pc lv (.ref i :: st) sh M := by
  intro p e s m args below meth c G H locs cells slots ls KC KS C E w hS hl hcc hss
  have hts := C.2.2.2.2.1
  exact W.objInit C.1 C.2.1 C.2.2.2.1 (hts _ w1) (hts _ w2) (hts _ w3) rfl (by rw [C.2.2.1]; exact hl.1) rfl hd hF (by
    have h9 := lcv_cats G st
    show 2 * (F0 m pc ls (.ref (G.1 + i) :: st.map (cv G))).monitorRoom + ((st.map (cv G)).map fun v => v.category).sum + 12 ≤ iW mi
    rw [h9]
    exact (by simpa [JFrame.monitorRoom] using hL)) (k p e s m args below meth c G H locs cells slots ls KC KS C E w hS hl hcc hss)
end AWcalls
