/-! methods with handlers: 'catch (X e) { return k; }' -/
/-- the same frame, with another stack below -/
def nMiss (X nm : String) : Prop := X = "java/lang/IllegalArgumentException" ∧ nm = "java/util/NoSuchElementException"
section HX
variable {l : aL} {mi mj : aI} {P P1 : aP} {kc ks kc1 ks1 pc n : Nat} {lv : List (Nat × Value)} {st as : List Value} {sh : aH} {M : aM}
theorem AX.catchRet {X : String} {hn : Int} {hi : Nat} (pre : List ExceptionTableEntry) (x : ExceptionTableEntry) (suf : List ExceptionTableEntry) (hT : iT mi = pre ++ x :: suf)
    (hpass : ∀ z ∈ pre, covers z pc = false ∨ (z.catchType ≠ 0 ∧ ∃ nm : String, Cond.classLink (iO mi) z.catchType nm ∈ GW ∧ nMiss X nm)) (hx : covers x pc = true) (h0 : x.catchType ≠ 0) (hlink : Cond.classLink (iO mi) x.catchType X ∈ GW) (hcast : X ∈ aXs)
    (hnn : hi < iL mi) (d0 : (∃ k : Fin 4, (k : Nat) = hi ∧ decode (iC mi) x.handlerPc = .ok (.astore_n k, 1) ∧ decode (iC mi) (x.handlerPc + 1) = .ok (.iconst hn, 1) ∧ decode (iC mi) (x.handlerPc + 1 + 1) = .ok (.ireturn, 1)) ∨ (decode (iC mi) x.handlerPc = .ok (.astore hi, 2) ∧ decode (iC mi) (x.handlerPc + 2) = .ok (.iconst hn, 1) ∧ decode (iC mi) (x.handlerPc + 2 + 1) = .ok (.ireturn, 1)))
    (hr : iR mi = some .int) (hP : P (.inl (some (.int (Int32.ofInt hn)))) sh M) : AX l mi P kc ks pc lv sh M X := by
  intro p e s m args below meth c G H locs cells slots ls rest KC KS q ce C E w hS hl hc hs h1 h2 h3
  have hts := C.2.2.2.2.1
  have fin : ∀ (pc : Nat) (ls : Array Slot), decode (iC mi) pc = .ok (.iconst hn, 1) → decode (iC mi) (pc + 1) = .ok (.ireturn, 1) → W p l.1 e { frames := iF mi, cells := KC, slots := KS, locals := iW mi } s m args below meth c H locs cells slots (vx_MQ below (aQ G P) (aX G P) args s KC KS (gA G)) (F0 m pc ls []) := by
    intro pc ls d1 d2
    refine lv_iconst C.1 C.2.1 d1 rfl ?_
    refine vx_ret (W.widen (k := KC) (n := KS) (by omega) (by omega) ?_)
    exact W.iret (v := Int32.ofInt hn) C.1 C.2.1 (C.2.2.2.2.2.1.trans hr) (fun t ht hW => ⟨some (.int (Int32.ofInt hn)), sh, M, rfl, hP, by rw [ht]; exact w.moved hW.alike, hS.F ht⟩) hS.2.2 d2 C.2.2.2.2.2.2.1
  refine ct_catch (E := X) C.2.2.2.1 pre x suf (C.2.2.2.2.2.2.2.2.1.trans hT) (fun z hz => ?_) hx h0 (hts _ hlink) (E.1.2.2.2.2.2.2.2.2.2.2 X hcast).use h1 h2 h3 ?_
  · rcases hpass z hz with h | ⟨hz0, nm, hw, e1, e2⟩
    · exact Or.inl h
    · subst e1
      subst e2
      exact Or.inr ⟨hz0, _, hts _ hw, E.1.2.2.2.2.2.2.2.2.2.1⟩
  · rcases d0 with ⟨k, hk, d1, d2, d3⟩ | ⟨d1, d2, d3⟩
    · exact lv_astore_n (x := q) C.1 C.2.1 d1 hk hl hnn rfl (fun ls hl => fin _ ls d2 d3)
    · exact lv_astore (x := q) C.1 C.2.1 d1 hl hnn rfl (fun ls hl => fin _ ls d2 d3)
/-- the contract of a method with handlers -/
def ACH (l : aL) (mi : aI) (hh : List (Nat × Nat × Nat × Nat)) (P : aP) (kc ks : Nat) (av : List Value) (sh : aH) (M : aM) : Prop :=
  ∀ G : aG, l.2 G → vx_Met l.1 (iY mi) (.codeWith (iY mi) (iC mi) (iL mi) (iR mi) hh :: GW) { frames := iF mi, cells := kc, slots := ks, locals := iW mi } (aPc G sh M av) (aQ G P) (aX G P) kc ks (gA G)
theorem ACH.of {av : List Value} {hh : List (Nat × Nat × Nat × Nat)} (hl0 : l.1.stackTraces = false) (hy : plainName (iY mi).cls = true) (ho : (iY mi).cls = iO mi) (ht0 : iT mi = tableOf hh) (hlen : (lg_sl av).length ≤ iL mi) (k : AW l mi P kc ks 0 (lv_args 0 av) [] sh M) : ACH l mi hh P kc ks av sh M := by
  intro G hΓ
  refine vx_ofWH (cc := iC mi) (maxL := iL mi) (ret := iR mi) hy rfl ?_
  intro p e s m args below meth c s₁ B hml hv
  obtain ⟨rfl, hE, hw⟩ := hv
  have hl := lv_entry (av.map (cv G)) (n := iL mi) (by rw [lcv_len]; exact hlen)
  rw [lg_entry_eq]
  generalize (lg_sl (av.map (cv G)) ++ List.replicate (iL mi - (lg_sl (av.map (cv G))).length) Slot.unset).toArray = ls at hl ⊢
  rw [lcv_args] at hl
  have hts := atoms_spec (ws := .codeWith (iY mi) (iC mi) (iL mi) (iR mi) hh :: GW) B.pre
  have hown : s.vm.findClass (iY mi).cls = some m.cls := findClass_of_methodNamed B.named
  rw [ho] at hown
  have htab : c.exceptionTable.toList = iT mi := (vx_table (x := iY mi) B (hts _ List.mem_cons_self)).trans ht0.symm
  exact k p e s m _ below meth c G s.heap [] 0 0 ls kc ks ⟨B.exec, B.bytes, hml, hown, fun w h => hts w (List.mem_cons_of_mem _ h), B.returns, B.notSynchronized, fun h => (name_of_methodNamed B.named B.method).1.trans h, htab, hl0⟩ ⟨hE, hΓ⟩ hw va_S.rf hl (by omega) (by omega)
def cH (mi mj : aI) (hh : List (Nat × Nat × Nat × Nat)) (n : Nat) : Prop := Cond.methodLink (iO mi) n (iY mj) ∈ GW ∧ Cond.static (iY mj) ∈ GW ∧ Cond.initialized (iY mj).cls ∈ GW ∧ Cond.codeWith (iY mj) (iC mj) (iL mj) (iR mj) hh ∈ GW
theorem AW.callH {hh : List (Nat × Nat × Nat × Nat)} (hd : decode (iC mi) pc = .ok (.invokestatic n, 3)) (hw : cH mi mj hh n) (hD : cD mi mj as.length) (hst : (st.map fun v => v.category).sum ≤ 8) (hc : ACH l mj hh P1 kc1 ks1 as sh M)
    (kr : ∀ v sh' M', P1 (.inl v) sh' M' → AW l mi P kc ks (pc + 3) lv (v.toList ++ st) sh' M') (kx : ∀ X sh' M', P1 (.inr X) sh' M' → AX l mi P kc ks pc lv sh' M' X) : AW l mi P (kc + kc1) (ks + ks1) pc lv (as.reverse ++ st) sh M := by
  intro p e s m args below meth c G H locs cells slots ls KC KS C E w hS hl hcc hss
  have hts := C.2.2.2.2.1
  obtain ⟨w1, w2, w4, w5⟩ := hw
  obtain ⟨d1, d2, d3⟩ := hD
  have hG : GoodIn GW (va_wsS (iO mi) n (iY mj) (.codeWith (iY mj) (iC mj) (iL mj) (iR mj) hh :: GW)) := by
    intro w hw
    rcases List.mem_append.mp hw with hw | hw
    · simp only [List.mem_cons, List.not_mem_nil, or_false] at hw
      rcases hw with rfl | rfl | rfl
      · exact GW_one w1
      · exact GW_one w2
      · exact GW_one w4
    · exact GW_sub w5 w hw
  have hrun := vx_runSX (p := p) (e := e) (below := below) (meth := meth) (locs := locs) (cells := cells) (slots := slots) (R := { frames := iF mi, cells := KC, slots := KS, locals := iW mi }) (H := H) (As := as.map (cv G)) (rest := st.map (cv G)) (g := F0 m pc ls ((as.reverse ++ st).map (cv G))) ⟨C.1, C.2.1, C.2.2.1, C.2.2.2.1, hts⟩ (hc G E.2)
    (vx_cwSW as.length hts hG rfl rfl rfl d1 ⟨d2, d3⟩)
    ⟨aPc_blind G sh M _, fun U hU hW => ⟨rfl, aE.to hW (by rw [hU]; exact hS) E.1, by rw [hU]; exact w.moved hW.alike⟩⟩
    rfl (by simp) hl.1 (by simp) (lv_room (by rw [lcv_cats]; exact hst)) hd ⟨show cells + kc1 ≤ KC by omega, show slots + ks1 ≤ KS by omega⟩
  refine aw_go hrun hS (fun X q ce sh' M' H1 locs1 hp hw' hS' h1 h2 h3 => ?_) (fun v sh' M' H1 locs1 hp hw' hS' => ?_)
  · exact kx X sh' M' hp p e s m args below meth c G H1 locs1 (cells + kc1) (slots + ks1) ls (st.map (cv G)) KC KS q ce C E hw' hS' hl (by omega) (by omega) h1 h2 h3
  · rw [map_opt]
    exact kr v sh' M' hp p e s m args below meth c G H1 locs1 (cells + kc1) (slots + ks1) ls KC KS C E hw' hS' hl (by omega) (by omega)
end HX
