/-! outer objects: the six words of a text, the row of factorials -/
section OUT
variable {l : aL} {mi mj : aI} {P P1 : aP} {kc ks kc1 ks1 pc n : Nat} {lv : List (Nat × Value)} {st as : List Value} {sh : aH} {M : aM} {x : Nat × List Int32}
theorem AW.callVO (hx : x ∈ aTxts) (hd : decode (iC mi) pc = .ok (.invokevirtual n, 3)) (hy : (iY mj).cls = "java/lang/String") (hw : cV mi mj n) (hD : cD mi mj as.length) (hst : (st.map fun v => v.category).sum ≤ 8) (hc : AC l mj P1 kc1 ks1 (.retAddr x.1 :: as) sh M)
    (kr : ∀ v sh' M', P1 (.inl v) sh' M' → AW l mi P kc ks (pc + 3) lv (v.toList ++ st) sh' M') (kx : ∀ X sh' M', P1 (.inr X) sh' M' → AX l mi P kc ks pc lv sh' M' X) : AW l mi P (kc + kc1) (ks + ks1) pc lv (as.reverse ++ .retAddr x.1 :: st) sh M := by
  intro p e s m args below meth c G H locs cells slots ls KC KS C E w hS hl hcc hss
  have hts := C.2.2.2.2.1
  obtain ⟨w1, w2, w3, w4, w5⟩ := hw
  obtain ⟨d1, d2, d3⟩ := hD
  obtain ⟨cell, q1, q2, q3, -⟩ := (E.1.2.2.2.2.2.2.2.1.2.1 x hx).1.kept hS.2.1
  have hG : GoodIn GW (wsV (iO mi) n (iY mj).cls (iY mj) (.code (iY mj) (iC mj) (iL mj) (iR mj) :: GW)) := by
    intro w hw
    rcases List.mem_append.mp hw with hw | hw
    · simp only [List.mem_cons, List.not_mem_nil, or_false] at hw
      rcases hw with rfl | rfl | rfl | rfl
      · exact GW_one w1
      · exact GW_one w2
      · exact GW_one w3
      · exact GW_one w4
    · exact GW_sub w5 w hw
  have hrun := vx_runV (p := p) (e := e) (below := below) (meth := meth) (locs := locs) (cells := cells) (slots := slots) (R := { frames := iF mi, cells := KC, slots := KS, locals := iW mi }) (H := H) (b := G.2.1 x.1) (As := as.map (cv G)) (rest := st.map (cv G)) (g := F0 m pc ls ((as.reverse ++ .retAddr x.1 :: st).map (cv G))) ⟨C.1, C.2.1, C.2.2.1, C.2.2.2.1, hts⟩ (hc G E.2)
    (cwV as.length hts hG rfl rfl rfl ⟨rfl, d1⟩ ⟨d2, d3⟩)
    ⟨aPc_blind G sh M _, ⟨cell, q1, q2, by rw [hy]; exact q3⟩, fun U hU hW => ⟨rfl, aE.to hW (by rw [hU]; exact hS) E.1, by rw [hU]; exact w.moved hW.alike⟩⟩
    rfl (by simp) hl.1 (by simp [cv]) (lv_room (by rw [lcv_cats]; exact hst)) hd ⟨show cells + kc1 ≤ KC by omega, show slots + ks1 ≤ KS by omega⟩
  refine aw_go hrun hS (fun X q ce sh' M' H1 locs1 hp hw' hS' h1 h2 h3 => ?_) (fun v sh' M' H1 locs1 hp hw' hS' => ?_)
  · exact kx X sh' M' hp p e s m args below meth c G H1 locs1 (cells + kc1) (slots + ks1) ls (st.map (cv G)) KC KS q ce C E hw' hS' hl (by omega) (by omega) h1 h2 h3
  · rw [map_opt]
    exact kr v sh' M' hp p e s m args below meth c G H1 locs1 (cells + kc1) (slots + ks1) ls KC KS C E hw' hS' hl (by omega) (by omega)
theorem AW.getsC (hd : decode (iC mi) pc = .ok (.getstatic n, 3)) (hlink : Cond.fieldLink (iO mi) n "java/lang/String" "COMPACT_STRINGS" "Z" ∈ GW) (kk : AW l mi P kc ks (pc + 3) lv (.int 1 :: st) sh M) : AW l mi P kc ks pc lv st sh M := by
  intro p e s m args below meth c G H locs cells slots ls KC KS C E w hS hl hc hs
  exact va_gets C.1 C.2.1 E.1.2.2.2.2.2.2.2.1.2.2.1 hS C.2.2.2.1 (C.2.2.2.2.1 _ hlink) (fun _ h => h) hd (kk p e s m args below meth c G H locs cells slots ls KC KS C E w hS hl hc hs)
theorem AW.getsF (hd : decode (iC mi) pc = .ok (.getstatic n, 3)) (hlink : Cond.fieldLink (iO mi) n "FullHouse" "FACTORIALS" "[I" ∈ GW) (kk : AW l mi P kc ks (pc + 3) lv (.retAddr 200 :: st) sh M) : AW l mi P kc ks pc lv st sh M := by
  intro p e s m args below meth c G H locs cells slots ls KC KS C E w hS hl hc hs
  exact va_gets C.1 C.2.1 E.1.2.2.2.2.2.2.2.1.2.2.2.1 hS C.2.2.2.1 (C.2.2.2.2.1 _ hlink) (fun _ h => h) hd (kk p e s m args below meth c G H locs cells slots ls KC KS C E w hS hl hc hs)
theorem AW.getsQ (hd : decode (iC mi) pc = .ok (.getstatic n, 3)) (hlink : Cond.fieldLink (iO mi) n "jdk/internal/util/Preconditions" "SIOOBE_FORMATTER" "Ljava/util/function/BiFunction;" ∈ GW) (k1 : AW l mi P kc ks (pc + 3) lv (.null :: st) sh M) (k2 : AW l mi P kc ks (pc + 3) lv (.retAddr 201 :: st) sh M) : AW l mi P kc ks pc lv st sh M := by
  intro p e s m args below meth c G H locs cells slots ls KC KS C E w hS hl hc hs
  rcases E.1.2.2.2.2.2.2.2.1.2.2.2.2.2 with h | h
  · exact va_gets C.1 C.2.1 h hS C.2.2.2.1 (C.2.2.2.2.1 _ hlink) (fun _ h => h) hd (k1 p e s m args below meth c G H locs cells slots ls KC KS C E w hS hl hc hs)
  · exact va_gets C.1 C.2.1 h hS C.2.2.2.1 (C.2.2.2.2.1 _ hlink) (fun _ h => h) hd (k2 p e s m args below meth c G H locs cells slots ls KC KS C E w hS hl hc hs)
theorem AW.getfC (hx : x ∈ aTxts) (hd : decode (iC mi) pc = .ok (.getfield n, 3)) (hlink : Cond.fieldLink (iO mi) n "java/lang/String" "coder" "B" ∈ GW) (kk : AW l mi P kc ks (pc + 3) lv (.int 0 :: st) sh M) : AW l mi P kc ks pc lv (.retAddr x.1 :: st) sh M := by
  intro p e s m args below meth c G H locs cells slots ls KC KS C E w hS hl hc hs
  exact vk_getf C.1 C.2.1 (E.1.2.2.2.2.2.2.2.1.2.1 x hx).2.1 hS C.2.2.2.1 (C.2.2.2.2.1 _ hlink) (fun _ h => h) hd (kk p e s m args below meth c G H locs cells slots ls KC KS C E w hS hl hc hs)
theorem AW.getfV (hx : x ∈ aTxts) (hd : decode (iC mi) pc = .ok (.getfield n, 3)) (hlink : Cond.fieldLink (iO mi) n "java/lang/String" "value" "[B" ∈ GW) (kk : AW l mi P kc ks (pc + 3) lv (.retAddr (100 + x.1) :: st) sh M) : AW l mi P kc ks pc lv (.retAddr x.1 :: st) sh M := by
  intro p e s m args below meth c G H locs cells slots ls KC KS C E w hS hl hc hs
  exact vk_getf C.1 C.2.1 (E.1.2.2.2.2.2.2.2.1.2.1 x hx).2.2.1 hS C.2.2.2.1 (C.2.2.2.2.1 _ hlink) (fun _ h => h) hd (kk p e s m args below meth c G H locs cells slots ls KC KS C E w hS hl hc hs)
theorem AW.alenO (hx : x ∈ aTxts) (hd : decode (iC mi) pc = .ok (.arraylength, 1)) (kk : AW l mi P kc ks (pc + 1) lv (.int (Int32.ofNat x.2.length) :: st) sh M) : AW l mi P kc ks pc lv (.retAddr (100 + x.1) :: st) sh M := by
  intro p e s m args below meth c G H locs cells slots ls KC KS C E w hS hl hc hs
  obtain ⟨cell, q1, q2, q3, q4, q5, q6, -⟩ := (E.1.2.2.2.2.2.2.2.1.2.1 x hx).2.2.2.kept hS.2.1
  exact W.alen C.1 C.2.1 q1 q2 q5 rfl rfl hd (kk p e s m args below meth c G H locs cells slots ls KC KS C E w hS hl hc hs)
theorem AW.baldO {j : Int32} (hx : x ∈ aTxts) (hd : decode (iC mi) pc = .ok (.baload, 1)) (hin : vp_in j x.2.length) (kk : AW l mi P kc ks (pc + 1) lv (.int (x.2.getD j.toNatClampNeg 0) :: st) sh M) : AW l mi P kc ks pc lv (.int j :: .retAddr (100 + x.1) :: st) sh M := by
  intro p e s m args below meth c G H locs cells slots ls KC KS C E w hS hl hc hs
  obtain ⟨cell, q1, q2, q3, q4, q5, q6, -⟩ := (E.1.2.2.2.2.2.2.2.1.2.1 x hx).2.2.2.kept hS.2.1
  have hlt : j.toNatClampNeg < x.2.length := Nat.not_le.mp fun q => hin (Or.inr q)
  exact W.bald C.1 C.2.1 q1 q2 q3 (fun h => h.elim (fun h => hin (Or.inl h)) (fun h => by omega)) (q6 _ hlt) rfl rfl hd (kk p e s m args below meth c G H locs cells slots ls KC KS C E w hS hl hc hs)
theorem AW.ialdF {j : Int32} (hd : decode (iC mi) pc = .ok (.iaload, 1)) (hin : vp_in j 7) (kk : AW l mi P kc ks (pc + 1) lv (.int (aFact.getD j.toNatClampNeg 0) :: st) sh M) : AW l mi P kc ks pc lv (.int j :: .retAddr 200 :: st) sh M := by
  intro p e s m args below meth c G H locs cells slots ls KC KS C E w hS hl hc hs
  obtain ⟨cell, q1, q2, q3, q4, q5, q6, -⟩ := E.1.2.2.2.2.2.2.2.1.2.2.2.2.1.kept hS.2.1
  have hlt : j.toNatClampNeg < 7 := Nat.not_le.mp fun q => hin (Or.inr q)
  exact W.iald C.1 C.2.1 q1 q2 q3 (fun h => h.elim (fun h => hin (Or.inl h)) (fun h => by omega)) (q6 _ hlt) rfl rfl hd (kk p e s m args below meth c G H locs cells slots ls KC KS C E w hS hl hc hs)
end OUT
/-- calls of a word's methods -/
theorem fw_callOI {l : aL} {P : aP} {kc ks pc id jd n : Nat} {lv : List (Nat × Value)} {st as : List Value} {M : aM} {x : Nat × List Int32} {Q : Int32 → aM → Prop} (hx : x ∈ aTxts) (hd : decode (iC (pI pg id)) pc = .ok (.invokevirtual n, 3)) (hy : (iY (pI pg jd)).cls = "java/lang/String") (hw : cV (pI pg id) (pI pg jd) n) (hN : okN (pI pg jd) as.length) (hr : room pg id jd = true) (hst : Nat.ble (cats st) 8 = true) (hc : AC l (pI pg jd) (fcI M Q) 0 0 (.retAddr x.1 :: as) SHF M)
    (kk : ∀ (y : Int32) (M' : aM), M'.2.2 = M.2.2 → Q y M' → AW l (pI pg id) P kc ks (pc + 3) lv (.int y :: st) SHF M') : AW l (pI pg id) P kc ks pc lv (as.reverse ++ .retAddr x.1 :: st) SHF M := by
  refine AW.callVO (P1 := fcI M Q) (kc1 := 0) (ks1 := 0) hx hd hy hw ⟨hN, room_spec hr⟩ (Nat.le_of_ble_eq_true hst) hc (fun v sh' M' hp => ?_) (fun X sh' M' hp => ?_)
  · obtain ⟨rfl, h2, y, h3, h4⟩ := hp
    cases h3
    exact kk y M' h2 h4
  · obtain ⟨-, -, y, h3, -⟩ := hp
    cases h3
theorem fw_callWI {l : aL} {P : aP} {kc ks pc id jd n : Nat} {lv : List (Nat × Value)} {st as : List Value} {M : aM} {Q : Int32 → aM → Prop} (hd : decode (iC (pI pg id)) pc = .ok (.invokestatic n, 3)) (hw : cS (pI pg id) (pI pg jd) n) (hN : okN (pI pg jd) as.length) (hr : room pg id jd = true) (hst : Nat.ble (cats st) 8 = true) (hc : AC l (pI pg jd) (fcI M Q) 0 0 as SHF M)
    (kk : ∀ (y : Int32) (M' : aM), M'.2.2 = M.2.2 → Q y M' → AW l (pI pg id) P kc ks (pc + 3) lv (.int y :: st) SHF M') : AW l (pI pg id) P kc ks pc lv (as.reverse ++ st) SHF M := by
  refine AW.callS (P1 := fcI M Q) (kc1 := 0) (ks1 := 0) hd hw ⟨hN, room_spec hr⟩ (Nat.le_of_ble_eq_true hst) hc (fun v sh' M' hp => ?_) (fun X sh' M' hp => ?_)
  · obtain ⟨rfl, h2, y, h3, h4⟩ := hp
    cases h3
    exact kk y M' h2 h4
  · obtain ⟨-, -, y, h3, -⟩ := hp
    cases h3
theorem fw_callWV {l : aL} {P : aP} {kc ks pc id jd n : Nat} {lv : List (Nat × Value)} {st as : List Value} {M : aM} {Q : aM → Prop} (hd : decode (iC (pI pg id)) pc = .ok (.invokestatic n, 3)) (hw : cS (pI pg id) (pI pg jd) n) (hN : okN (pI pg jd) as.length) (hr : room pg id jd = true) (hst : Nat.ble (cats st) 8 = true) (hc : AC l (pI pg jd) (fcV M Q) 0 0 as SHF M)
    (kk : ∀ (M' : aM), M'.2.2 = M.2.2 → Q M' → AW l (pI pg id) P kc ks (pc + 3) lv st SHF M') : AW l (pI pg id) P kc ks pc lv (as.reverse ++ st) SHF M := by
  refine AW.callS (P1 := fcV M Q) (kc1 := 0) (ks1 := 0) hd hw ⟨hN, room_spec hr⟩ (Nat.le_of_ble_eq_true hst) hc (fun v sh' M' hp => ?_) (fun X sh' M' hp => ?_)
  · obtain ⟨rfl, h2, h3, h4⟩ := hp
    cases h3
    exact kk M' h2 h4
  · obtain ⟨-, -, h3, -⟩ := hp
    cases h3
theorem tx_ok : ∀ x ∈ aTxts, x.2.length < 8 ∧ ∀ j, j < 8 → ((x.2.getD j 0 &&& (Int16.ofInt 255).toInt32).toUInt32 % 65536).toInt32 = x.2.getD j 0 ∧ narrow .char (.int (x.2.getD j 0)) = .int (x.2.getD j 0) := by decide +kernel
theorem on_54 : okN (pI pg 54) 0 := ⟨by decide +kernel, by decide +kernel, by decide +kernel⟩
theorem on_55 : okN (pI pg 55) 0 := ⟨by decide +kernel, by decide +kernel, by decide +kernel⟩
theorem on_56 : okN (pI pg 56) 1 := ⟨by decide +kernel, by decide +kernel, by decide +kernel⟩
theorem on_57 : okN (pI pg 57) 0 := ⟨by decide +kernel, by decide +kernel, by decide +kernel⟩
theorem on_58 : okN (pI pg 58) 2 := ⟨by decide +kernel, by decide +kernel, by decide +kernel⟩
theorem on_59 : okN (pI pg 59) 2 := ⟨by decide +kernel, by decide +kernel, by decide +kernel⟩
theorem on_60 : okN (pI pg 60) 3 := ⟨by decide +kernel, by decide +kernel, by decide +kernel⟩
section STR
variable {l : aL} {M : aM} {x : Nat × List Int32}
theorem c55 (hl0 : l.1.stackTraces = false) (hx : x ∈ aTxts) : AC l (pI pg 55) (fcI M (fun y M' => M' = M ∧ y = 0)) 0 0 [.retAddr x.1] SHF M := by
  refine fw_of hl0 ⟨by decide +kernel, by decide +kernel, by decide +kernel⟩ rfl ?_
  refine AW.getsC (dq rfl) gw_573 ?_
  refine AW.if_eq (dq rfl) (tgt := 13) (by decide) (fun h => absurd h (by decide)) (fun _ => ?_)
  refine AW.aload_n (dq rfl) rfl rfl ?_
  refine AW.getfC hx (dq rfl) gw_1603 ?_
  refine AW.goto (dq rfl) (tgt := 14) (by decide) ?_
  refine AW.zret (dq rfl) rfl (by decide) ?_
  exact ⟨rfl, rfl, _, rfl, rfl, rfl⟩
theorem c57 (hl0 : l.1.stackTraces = false) (hx : x ∈ aTxts) : AC l (pI pg 57) (fcI M (fun y M' => M' = M ∧ y = 1)) 0 0 [.retAddr x.1] SHF M := by
  refine fw_of hl0 ⟨by decide +kernel, by decide +kernel, by decide +kernel⟩ rfl ?_
  refine AW.getsC (dq rfl) gw_573 ?_
  refine AW.if_eq (dq rfl) (tgt := 17) (by decide) (fun h => absurd h (by decide)) (fun _ => ?_)
  refine AW.aload_n (dq rfl) rfl rfl ?_
  refine AW.getfC hx (dq rfl) gw_1603 ?_
  refine AW.if_ne (dq rfl) (tgt := 17) (by decide) (fun h => absurd rfl h) (fun _ => ?_)
  refine AW.iconst (dq rfl) ?_
  refine AW.goto (dq rfl) (tgt := 18) (by decide) ?_
  refine AW.zret (dq rfl) rfl (by decide) ?_
  exact ⟨rfl, rfl, _, rfl, rfl, rfl⟩
theorem c54 (hl0 : l.1.stackTraces = false) (hx : x ∈ aTxts) : AC l (pI pg 54) (fcI M (fun y M' => M' = M ∧ y = nI x.2.length)) 0 0 [.retAddr x.1] SHF M := by
  refine fw_of hl0 ⟨by decide +kernel, by decide +kernel, by decide +kernel⟩ rfl ?_
  refine AW.aload_n (dq rfl) rfl rfl ?_
  refine AW.getfV hx (dq rfl) gw_1602 ?_
  refine AW.alenO hx (dq rfl) ?_
  refine AW.aload_n (dq rfl) rfl rfl ?_
  refine fw_callOI (jd := 55) (as := []) hx (dq rfl) (by decide +kernel) ⟨gw_569, gw_570, gw_571, gw_18, gw_572⟩ on_55 (by decide +kernel) rfl (c55 hl0 hx) (fun y M1 e1 q1 => ?_)
  obtain ⟨rfl, rfl⟩ := q1
  refine AW.ishr (dq rfl) ?_
  refine AW.iret (dq rfl) rfl ?_
  have h := (tx_ok x hx).1
  exact ⟨rfl, rfl, _, rfl, rfl, sc_shr0 (by omega)⟩
theorem c60 (hl0 : l.1.stackTraces = false) {i n : Nat} (hi : i < n) (hn : n < 8) {v : Value} (hv : v = .null ∨ v = .retAddr 201) : AC l (pI pg 60) (fcI M (fun _ M' => M' = M)) 0 0 [.int (nI i), .int (nI n), v] SHF M := by
  refine fw_of hl0 ⟨by decide +kernel, by decide +kernel, by decide +kernel⟩ (by rcases hv with rfl | rfl <;> rfl) ?_
  refine AW.iload_n (dq rfl) rfl ?_
  refine AW.if_lt (dq rfl) (tgt := 9) (by decide) (fun h => absurd h (nI_pos (by omega))) (fun _ => ?_)
  refine AW.iload_n (dq rfl) rfl ?_
  refine AW.iload_n (dq rfl) rfl ?_
  refine AW.icmp_lt (dq rfl) (tgt := 16) (by decide) (fun _ => ?_) (fun h => absurd (nI_lt hi (by omega)) h)
  refine AW.iload_n (dq rfl) rfl ?_
  refine AW.iret (dq rfl) rfl ?_
  exact ⟨rfl, rfl, _, rfl, rfl⟩
theorem c59 (hl0 : l.1.stackTraces = false) {i n : Nat} (hi : i < n) (hn : n < 8) : AC l (pI pg 59) (fcV M (fun M' => M' = M)) 0 0 [.int (nI i), .int (nI n)] SHF M := by
  refine fw_of hl0 ⟨by decide +kernel, by decide +kernel, by decide +kernel⟩ rfl ?_
  have go : ∀ v : Value, (v = .null ∨ v = .retAddr 201) → AW l (pI pg 59) (fcV M (fun M' => M' = M)) 0 0 5 (lv_args 0 [.int (nI i), .int (nI n)]) [v, .int (nI n), .int (nI i)] SHF M := by
    intro v hv
    refine fw_callWI (jd := 60) (as := [.int (nI i), .int (nI n), v]) (st := []) (dq rfl) ⟨gw_591, gw_592, gw_20, gw_593⟩ on_60 (by decide +kernel) rfl (c60 hl0 hi hn hv) (fun y M1 e1 q1 => ?_)
    subst q1
    refine AW.pop (dq rfl) rfl ?_
    refine AW.vret (dq rfl) rfl ?_
    exact ⟨rfl, rfl, rfl, rfl⟩
  refine AW.iload_n (dq rfl) rfl ?_
  refine AW.iload_n (dq rfl) rfl ?_
  exact AW.getsQ (dq rfl) gw_589 (go _ (Or.inl rfl)) (go _ (Or.inr rfl))
theorem c58 (hl0 : l.1.stackTraces = false) (hx : x ∈ aTxts) {i : Nat} (hi : i < x.2.length) : AC l (pI pg 58) (fcI M (fun y M' => M' = M ∧ y = x.2.getD i 0)) 0 0 [.retAddr (100 + x.1), .int (nI i)] SHF M := by
  have h8 := (tx_ok x hx).1
  have hi8 := (tx_ok x hx).2 i (by omega)
  refine fw_of hl0 ⟨by decide +kernel, by decide +kernel, by decide +kernel⟩ rfl ?_
  refine AW.iload_n (dq rfl) rfl ?_
  refine AW.aload_n (dq rfl) rfl rfl ?_
  refine AW.alenO hx (dq rfl) ?_
  refine fw_callWV (jd := 59) (as := [.int (nI i), .int (nI x.2.length)]) (st := []) (dq rfl) ⟨gw_586, gw_587, gw_18, gw_588⟩ on_59 (by decide +kernel) rfl (c59 hl0 hi h8) (fun M1 e1 q1 => ?_)
  subst q1
  refine AW.aload_n (dq rfl) rfl rfl ?_
  refine AW.iload_n (dq rfl) rfl ?_
  refine AW.baldO hx (dq rfl) (vp_in_nI hi (by omega)) ?_
  rw [nI_clamp (by omega)]
  refine AW.sipush (dq rfl) ?_
  refine AW.iand (dq rfl) ?_
  refine AW.i2c (dq rfl) ?_
  rw [hi8.1]
  refine AW.zret (dq rfl) rfl hi8.2 ?_
  exact ⟨rfl, rfl, _, rfl, rfl, rfl⟩
theorem c56 (hl0 : l.1.stackTraces = false) (hx : x ∈ aTxts) {i : Nat} (hi : i < x.2.length) : AC l (pI pg 56) (fcI M (fun y M' => M' = M ∧ y = x.2.getD i 0)) 0 0 [.retAddr x.1, .int (nI i)] SHF M := by
  have h8 := (tx_ok x hx).1
  have hi8 := (tx_ok x hx).2 i (by omega)
  refine fw_of hl0 ⟨by decide +kernel, by decide +kernel, by decide +kernel⟩ rfl ?_
  refine AW.aload_n (dq rfl) rfl rfl ?_
  refine fw_callOI (jd := 57) (as := []) hx (dq rfl) (by decide +kernel) ⟨gw_579, gw_580, gw_581, gw_18, gw_582⟩ on_57 (by decide +kernel) rfl (c57 hl0 hx) (fun y M1 e1 q1 => ?_)
  obtain ⟨rfl, rfl⟩ := q1
  refine AW.if_eq (dq rfl) (tgt := 16) (by decide) (fun h => absurd h (by decide)) (fun _ => ?_)
  refine AW.aload_n (dq rfl) rfl rfl ?_
  refine AW.getfV hx (dq rfl) gw_1602 ?_
  refine AW.iload_n (dq rfl) rfl ?_
  refine fw_callWI (jd := 58) (as := [.retAddr (100 + x.1), .int (nI i)]) (st := []) (dq rfl) ⟨gw_583, gw_584, gw_19, gw_585⟩ on_58 (by decide +kernel) rfl (c58 hl0 hx hi) (fun y M2 e2 q2 => ?_)
  obtain ⟨rfl, rfl⟩ := q2
  refine AW.zret (dq rfl) rfl hi8.2 ?_
  exact ⟨rfl, rfl, _, rfl, rfl, rfl⟩
/-- is the token at hand this word -/
def isW (M : aM) (b : List Int32) : Prop := M.1 2 3 = nI 1 ∧ M.1 2 5 - M.1 2 4 = nI b.length ∧ ∀ i, i < b.length → M.1 3 ((M.1 2 4).toInt.toNat + i) = b.getD i 0
def Q53 (b : List Int32) (M : aM) : Int32 → aM → Prop := fun y M' => M' = M ∧ ((y = 1 ∧ isW M b) ∨ (y = 0 ∧ ¬ isW M b))
theorem c53 (hl0 : l.1.stackTraces = false) (hx : x ∈ aTxts) (h3 : M.2.2 2 0 = 4) (h4 : inI (M.1 2 4) (0, 800)) (h5 : inI (M.1 2 5) (0, 800)) : AC l (pI pg 53) (fcI M (Q53 x.2 M)) 0 0 [.ref 2, .retAddr x.1] SHF M := by
  have h8 := (tx_ok x hx).1
  refine fw_of hl0 ⟨by decide +kernel, by decide +kernel, by decide +kernel⟩ rfl ?_
  have no : ¬ isW M x.2 → fcI M (Q53 x.2 M) (.inl (some (.int (Int32.ofInt 0)))) SHF M := fun h => ⟨rfl, rfl, _, rfl, rfl, Or.inr ⟨rfl, h⟩⟩
  refine AW.aload_n (dq rfl) rfl rfl ?_
  refine fw_get (dq rfl) (pg_ok.2.1 53 _ _ _ _ rfl) rfl (v := .int (M.1 2 3)) rfl ?_
  refine AW.iconst (dq rfl) ?_
  refine AW.icmp_ne (dq rfl) (tgt := 24) (by decide) (fun h => ?_) (fun hk => ?_)
  · refine AW.iconst (dq rfl) ?_
    refine AW.zret (dq rfl) rfl (by decide) (no (fun h2 => h h2.1))
  refine AW.aload_n (dq rfl) rfl rfl ?_
  refine fw_get (dq rfl) (pg_ok.2.1 53 _ _ _ _ rfl) rfl (v := .int (M.1 2 5)) rfl ?_
  refine AW.aload_n (dq rfl) rfl rfl ?_
  refine fw_get (dq rfl) (pg_ok.2.1 53 _ _ _ _ rfl) rfl (v := .int (M.1 2 4)) rfl ?_
  refine AW.isub (dq rfl) ?_
  refine AW.aload_n (dq rfl) rfl rfl ?_
  refine fw_callOI (jd := 54) (as := []) hx (dq rfl) (by decide +kernel) ⟨gw_565, gw_566, gw_567, gw_18, gw_568⟩ on_54 (by decide +kernel) rfl (c54 hl0 hx) (fun y M1 e1 q1 => ?_)
  obtain ⟨rfl, rfl⟩ := q1
  refine AW.icmp_eq (dq rfl) (tgt := 26) (by decide) (fun hlen => ?_) (fun h => ?_)
  rotate_left
  · refine AW.iconst (dq rfl) ?_
    refine AW.zret (dq rfl) rfl (by decide) (no (fun h2 => h h2.2.1))
  refine AW.iconst (dq rfl) ?_
  refine AW.istore_n (dq rfl) (by decide +kernel) ?_
  have a1 := h4.1
  have a2 := h4.2
  have b1 := h5.1
  have b2 := h5.2
  simp only at a1 a2 b1 b2
  have hst : (M1.1 2 5).toInt - (M1.1 2 4).toInt = (x.2.length : Int) := by
    have e := congrArg Int32.toInt hlen
    rw [Int32.toInt_sub, bm32 (by omega) (by omega), nI_toInt (by omega)] at e
    exact e
  have h4s : M1.1 2 4 = nI (M1.1 2 4).toInt.toNat := nI_self a1
  have loop : ∀ d i : Nat, i + d = x.2.length → (∀ j, j < i → M1.1 3 ((M1.1 2 4).toInt.toNat + j) = x.2.getD j 0) → AW l (pI pg 53) (fcI M1 (Q53 x.2 M1)) 0 0 28 [(2, .int (nI i)), (0, .ref 2), (1, .retAddr x.1)] [] SHF M1 := by
    intro d
    induction d with
    | zero =>
      intro i hi h
      refine AW.iload_n (dq rfl) rfl ?_
      refine AW.aload_n (dq rfl) rfl rfl ?_
      refine fw_callOI (jd := 54) (as := []) hx (dq rfl) (by decide +kernel) ⟨gw_565, gw_566, gw_567, gw_18, gw_568⟩ on_54 (by decide +kernel) rfl (c54 hl0 hx) (fun y M2 e2 q2 => ?_)
      obtain ⟨rfl, rfl⟩ := q2
      refine AW.icmp_ge (dq rfl) (tgt := 63) (by decide) (fun _ => ?_) (fun h => absurd (nI_le (by omega) (by omega)) h)
      refine AW.iconst (dq rfl) ?_
      refine AW.zret (dq rfl) rfl (by decide) ?_
      exact ⟨rfl, rfl, _, rfl, rfl, Or.inl ⟨rfl, hk, hlen, fun j hj => h j (by omega)⟩⟩
    | succ d ih =>
      intro i hi h
      have hix : M1.1 2 4 + nI i = nI ((M1.1 2 4).toInt.toNat + i) := by
        conv => lhs; rw [h4s]
        exact nI_add _ _
      refine AW.iload_n (dq rfl) rfl ?_
      refine AW.aload_n (dq rfl) rfl rfl ?_
      refine fw_callOI (jd := 54) (as := []) hx (dq rfl) (by decide +kernel) ⟨gw_565, gw_566, gw_567, gw_18, gw_568⟩ on_54 (by decide +kernel) rfl (c54 hl0 hx) (fun y M2 e2 q2 => ?_)
      obtain ⟨rfl, rfl⟩ := q2
      refine AW.icmp_ge (dq rfl) (tgt := 63) (by decide) (fun h => ge_no (by omega) (by omega) h) (fun _ => ?_)
      refine AW.aload_n (dq rfl) rfl rfl ?_
      refine fw_get (dq rfl) (pg_ok.2.1 53 _ _ _ _ rfl) rfl (v := .ref 3) (isTA_ok rfl h3) ?_
      refine AW.aload_n (dq rfl) rfl rfl ?_
      refine fw_get (dq rfl) (pg_ok.2.1 53 _ _ _ _ rfl) rfl (v := .int (M2.1 2 4)) rfl ?_
      refine AW.iload_n (dq rfl) rfl ?_
      refine AW.iadd (dq rfl) ?_
      refine AW.bald (dq rfl) rfl (n := 800) (by rw [hix]; exact vp_in_nI (by omega) (by decide)) ?_
      refine AW.aload_n (dq rfl) rfl rfl ?_
      refine AW.iload_n (dq rfl) rfl ?_
      refine fw_callOI (jd := 56) (as := [.int (nI i)]) hx (dq rfl) (by decide +kernel) ⟨gw_575, gw_576, gw_577, gw_18, gw_578⟩ on_56 (by decide +kernel) rfl (c56 hl0 hx (by omega)) (fun y M3 e3 q3 => ?_)
      obtain ⟨rfl, rfl⟩ := q3
      rw [hix, nI_clamp (by omega)]
      refine AW.icmp_eq (dq rfl) (tgt := 57) (by decide) (fun he => ?_) (fun hne => ?_)
      · refine AW.iinc (dq rfl) rfl (by decide +kernel) ?_
        refine AW.goto (dq rfl) (tgt := 28) (by decide) ?_
        show AW l (pI pg 53) _ 0 0 28 [(2, .int (nI i + Int32.ofInt 1)), (0, .ref 2), (1, .retAddr x.1)] [] SHF M3
        rw [show nI i + Int32.ofInt 1 = nI (i + 1) from nI_1 i]
        refine ih (i + 1) (by omega) (fun j hj => ?_)
        by_cases e : j = i
        · subst e
          exact he
        · exact h j (by omega)
      · refine AW.iconst (dq rfl) ?_
        refine AW.zret (dq rfl) rfl (by decide) (no (fun h2 => hne (h2.2.2 i (by omega))))
  exact loop x.2.length 0 (Nat.zero_add _) (fun j hj => absurd hj (Nat.not_lt_zero _))
end STR
