/-! stretches of the calendar, printed by wip/gen/segs_q3.py -/
theorem stp49_0 {l : aL} {P : aP} {kc ks : Nat} {M : aM}   (r1 : P (.inl none) SHF (aset (aset M 49 0 (.int (Int32.ofInt 0))) 49 1 (.int (Int32.ofInt 0)))) : AW l (pI pg 13) P kc ks 0 [(0, .ref 49)] [] SHF M := by
  refine AW.aload_n (dq rfl) rfl rfl ?_
  show AW l (pI pg 13) P kc ks 1 _ _ SHF _
  refine AW.iconst (dq rfl) ?_
  show AW l (pI pg 13) P kc ks 2 _ _ SHF _
  refine fw_putZ (dq rfl) (pg_ok.2.1 13 _ _ _ _ rfl) rfl rfl rfl (by decide) ?_
  show AW l (pI pg 13) P kc ks 5 _ _ SHF _
  refine AW.aload_n (dq rfl) rfl rfl ?_
  show AW l (pI pg 13) P kc ks 6 _ _ SHF _
  refine AW.iconst (dq rfl) ?_
  show AW l (pI pg 13) P kc ks 7 _ _ SHF _
  refine fw_putI (dq rfl) (pg_ok.2.1 13 _ _ _ _ rfl) rfl rfl rfl ?_
  show AW l (pI pg 13) P kc ks 10 _ _ SHF _
  refine AW.vret (dq rfl) rfl ?_
  exact r1

theorem stp53_0 {l : aL} {P : aP} {kc ks : Nat} {M : aM}   (r1 : P (.inl none) SHF (aset (aset M 53 0 (.int (Int32.ofInt 0))) 53 1 (.int (Int32.ofInt 0)))) : AW l (pI pg 13) P kc ks 0 [(0, .ref 53)] [] SHF M := by
  refine AW.aload_n (dq rfl) rfl rfl ?_
  show AW l (pI pg 13) P kc ks 1 _ _ SHF _
  refine AW.iconst (dq rfl) ?_
  show AW l (pI pg 13) P kc ks 2 _ _ SHF _
  refine fw_putZ (dq rfl) (pg_ok.2.1 13 _ _ _ _ rfl) rfl rfl rfl (by decide) ?_
  show AW l (pI pg 13) P kc ks 5 _ _ SHF _
  refine AW.aload_n (dq rfl) rfl rfl ?_
  show AW l (pI pg 13) P kc ks 6 _ _ SHF _
  refine AW.iconst (dq rfl) ?_
  show AW l (pI pg 13) P kc ks 7 _ _ SHF _
  refine fw_putI (dq rfl) (pg_ok.2.1 13 _ _ _ _ rfl) rfl rfl rfl ?_
  show AW l (pI pg 13) P kc ks 10 _ _ SHF _
  refine AW.vret (dq rfl) rfl ?_
  exact r1

theorem lrs_0 {l : aL} {P : aP} {kc ks : Nat} {M : aM}   (r1 : P (.inl none) SHF (aset (aset M 40 2 (.int ((Int8.ofInt (-2)).toInt32))) 40 3 (.int ((Int8.ofInt (-2)).toInt32)))) : AW l (pI pg 22) P kc ks 0 [(0, .ref 40)] [] SHF M := by
  refine AW.aload_n (dq rfl) rfl rfl ?_
  show AW l (pI pg 22) P kc ks 1 _ _ SHF _
  refine AW.bipush (dq rfl) ?_
  show AW l (pI pg 22) P kc ks 3 _ _ SHF _
  refine fw_putI (dq rfl) (pg_ok.2.1 22 _ _ _ _ rfl) rfl rfl rfl ?_
  show AW l (pI pg 22) P kc ks 6 _ _ SHF _
  refine AW.aload_n (dq rfl) rfl rfl ?_
  show AW l (pI pg 22) P kc ks 7 _ _ SHF _
  refine AW.bipush (dq rfl) ?_
  show AW l (pI pg 22) P kc ks 9 _ _ SHF _
  refine fw_putI (dq rfl) (pg_ok.2.1 22 _ _ _ _ rfl) rfl rfl rfl ?_
  show AW l (pI pg 22) P kc ks 12 _ _ SHF _
  refine AW.vret (dq rfl) rfl ?_
  exact r1

theorem grs_0 {l : aL} {P : aP} {kc ks : Nat} {M : aM}   (r1 : P (.inl none) SHF (aset M 45 2 (.int (Int32.ofInt 0)))) : AW l (pI pg 23) P kc ks 0 [(0, .ref 45)] [] SHF M := by
  refine AW.aload_n (dq rfl) rfl rfl ?_
  show AW l (pI pg 23) P kc ks 1 _ _ SHF _
  refine AW.iconst (dq rfl) ?_
  show AW l (pI pg 23) P kc ks 2 _ _ SHF _
  refine fw_putZ (dq rfl) (pg_ok.2.1 23 _ _ _ _ rfl) rfl rfl rfl (by decide) ?_
  show AW l (pI pg 23) P kc ks 5 _ _ SHF _
  refine AW.vret (dq rfl) rfl ?_
  exact r1

theorem fil51_0 {l : aL} {P : aP} {kc ks : Nat} {x : Int32} {M : aM}  (hl0 : l.1.stackTraces = false) (k1 : AW l (pI pg 12) P kc ks 5 [(0, .ref 51), (1, .int (x)), (2, .int (Int32.ofInt 0)), (3, .int (Int32.ofNat 48))] [] SHF M) : AW l (pI pg 12) P kc ks 0 [(0, .ref 51), (1, .int (x))] [] SHF M := by
  refine AW.iconst (dq rfl) ?_
  show AW l (pI pg 12) P kc ks 1 _ _ SHF _
  refine AW.istore_n (dq rfl) (by decide +kernel) ?_
  show AW l (pI pg 12) P kc ks 2 [(2, .int (Int32.ofInt 0)), (0, .ref 51), (1, .int (x))] [] SHF _
  refine AW.aload_n (dq rfl) rfl rfl ?_
  show AW l (pI pg 12) P kc ks 3 _ _ SHF _
  refine AW.alen (dq rfl) rfl ?_
  show AW l (pI pg 12) P kc ks 4 _ _ SHF _
  refine AW.istore_n (dq rfl) (by decide +kernel) ?_
  show AW l (pI pg 12) P kc ks 5 [(3, .int (Int32.ofNat 48)), (2, .int (Int32.ofInt 0)), (0, .ref 51), (1, .int (x))] [] SHF _
  refine AW.drop (lv' := [(0, .ref 51), (1, .int (x)), (2, .int (Int32.ofInt 0)), (3, .int (Int32.ofNat 48))]) (List.forall_mem_cons.mpr ⟨List.mem_of_getElem? (i := 2) rfl, List.forall_mem_cons.mpr ⟨List.mem_of_getElem? (i := 3) rfl, List.forall_mem_cons.mpr ⟨List.mem_of_getElem? (i := 1) rfl, List.forall_mem_cons.mpr ⟨List.mem_of_getElem? (i := 0) rfl, fun _ h => absurd h List.not_mem_nil⟩⟩⟩⟩) ?_
  exact k1

theorem fil51_5 {l : aL} {P : aP} {kc ks : Nat} {i : Nat} {x : Int32} {M : aM}  (hl0 : l.1.stackTraces = false) (r2 : ∀ (h1 : (Int32.ofNat 48 : Int32) ≤ (nI i : Int32)), P (.inl none) SHF M) (o3 : ∀ (h1 : ¬ ((Int32.ofNat 48 : Int32) ≤ (nI i : Int32))), vp_in (nI i) 48) (k4 : ∀ (h1 : ¬ ((Int32.ofNat 48 : Int32) ≤ (nI i : Int32))), AW l (pI pg 12) P kc ks 5 [(0, .ref 51), (1, .int (x)), (2, .int ((nI i) + Int32.ofInt 1)), (3, .int (Int32.ofNat 48))] [] SHF (aset M 51 (nI i).toNatClampNeg (.int (x)))) : AW l (pI pg 12) P kc ks 5 [(0, .ref 51), (1, .int (x)), (2, .int (nI i)), (3, .int (Int32.ofNat 48))] [] SHF M := by
  refine AW.iload_n (dq rfl) rfl ?_
  show AW l (pI pg 12) P kc ks 6 _ _ SHF _
  refine AW.iload_n (dq rfl) rfl ?_
  show AW l (pI pg 12) P kc ks 7 _ _ SHF _
  refine AW.icmp_ge (dq rfl) (tgt := 20) (by decide) (fun h1 => ?_) (fun h1 => ?_)
  · have _ := h1
    refine AW.vret (dq rfl) rfl ?_
    exact r2 h1
  · have _ := h1
    refine AW.aload_n (dq rfl) rfl rfl ?_
    show AW l (pI pg 12) P kc ks 11 _ _ SHF _
    refine AW.iload_n (dq rfl) rfl ?_
    show AW l (pI pg 12) P kc ks 12 _ _ SHF _
    refine AW.iload_n (dq rfl) rfl ?_
    show AW l (pI pg 12) P kc ks 13 _ _ SHF _
    refine AW.iast (dq rfl) rfl (o3 h1) ?_
    show AW l (pI pg 12) P kc ks 14 _ _ SHF _
    refine AW.iinc (dq rfl) rfl (by decide +kernel) ?_
    show AW l (pI pg 12) P kc ks 17 [(2, .int ((nI i) + Int32.ofInt 1)), (0, .ref 51), (1, .int (x)), (3, .int (Int32.ofNat 48))] [] SHF _
    refine AW.goto (dq rfl) (tgt := 5) (by decide) ?_
    refine AW.drop (lv' := [(0, .ref 51), (1, .int (x)), (2, .int ((nI i) + Int32.ofInt 1)), (3, .int (Int32.ofNat 48))]) (List.forall_mem_cons.mpr ⟨List.mem_of_getElem? (i := 1) rfl, List.forall_mem_cons.mpr ⟨List.mem_of_getElem? (i := 2) rfl, List.forall_mem_cons.mpr ⟨List.mem_of_getElem? (i := 0) rfl, List.forall_mem_cons.mpr ⟨List.mem_of_getElem? (i := 3) rfl, fun _ h => absurd h List.not_mem_nil⟩⟩⟩⟩) ?_
    exact k4 h1

theorem staa_0 {l : aL} {P : aP} {kc ks : Nat} {x : Int32} {M : aM} (hJ : ∀ e ∈ RR.2, M.2.2 e.1 e.2.1 = e.2.2) (hl0 : l.1.stackTraces = false) (Q1 : aM → Prop) (c2 : AC l (pI pg 12) (fcV (aset (aset (aset M 49 0 (.int (Int32.ofInt 1))) 49 1 (.int (Int32.ofInt 0))) 49 2 (.int (x))) Q1) 0 0 [.ref 51, .int (Int32.ofInt (-1))] SHF (aset (aset (aset M 49 0 (.int (Int32.ofInt 1))) 49 1 (.int (Int32.ofInt 0))) 49 2 (.int (x)))) (r3 : ∀ (M1 : aM), ∀ (e1 : M1.2.2 = (aset (aset (aset M 49 0 (.int (Int32.ofInt 1))) 49 1 (.int (Int32.ofInt 0))) 49 2 (.int (x))).2.2), ∀ (q1 : Q1 M1), P (.inl none) SHF (acpy M1 7 52 (Int32.ofInt 0).toNatClampNeg (Int32.ofInt 0).toNatClampNeg ((Int8.ofInt 6).toInt32).toNatClampNeg)) : AW l (pI pg 34) P kc ks 0 [(0, .ref 49), (1, .ref 4), (2, .int (x))] [] SHF M := by
  refine AW.aload_n (dq rfl) rfl rfl ?_
  show AW l (pI pg 34) P kc ks 1 _ _ SHF _
  refine AW.iconst (dq rfl) ?_
  show AW l (pI pg 34) P kc ks 2 _ _ SHF _
  refine fw_putZ (dq rfl) (pg_ok.2.1 34 _ _ _ _ rfl) rfl rfl rfl (by decide) ?_
  show AW l (pI pg 34) P kc ks 5 _ _ SHF _
  refine AW.aload_n (dq rfl) rfl rfl ?_
  show AW l (pI pg 34) P kc ks 6 _ _ SHF _
  refine AW.iconst (dq rfl) ?_
  show AW l (pI pg 34) P kc ks 7 _ _ SHF _
  refine fw_putI (dq rfl) (pg_ok.2.1 34 _ _ _ _ rfl) rfl rfl rfl ?_
  show AW l (pI pg 34) P kc ks 10 _ _ SHF _
  refine AW.aload_n (dq rfl) rfl rfl ?_
  show AW l (pI pg 34) P kc ks 11 _ _ SHF _
  refine AW.iload_n (dq rfl) rfl ?_
  show AW l (pI pg 34) P kc ks 12 _ _ SHF _
  refine fw_putI (dq rfl) (pg_ok.2.1 34 _ _ _ _ rfl) rfl rfl rfl ?_
  show AW l (pI pg 34) P kc ks 15 _ _ SHF _
  refine AW.aload_n (dq rfl) rfl rfl ?_
  show AW l (pI pg 34) P kc ks 16 _ _ SHF _
  refine fw_get (dq rfl) (pg_ok.2.1 34 _ _ _ _ rfl) rfl (v := .ref 51) (isTA_ok rfl (rgR_ok hJ rfl)) ?_
  show AW l (pI pg 34) P kc ks 19 _ _ SHF _
  refine AW.iconst (dq rfl) ?_
  show AW l (pI pg 34) P kc ks 20 _ _ SHF _
  refine fw_callSV (as := [.ref 51, .int (Int32.ofInt (-1))]) (dq rfl) (pg_ok.2.2.1 34 _ _ _ _ rfl) (by decide +kernel) rfl rfl (c2) (fun M1 e1 q1 => ?_)
  have hJ1 : ∀ e ∈ RR.2, M1.2.2 e.1 e.2.1 = e.2.2 := fun e he => by rw [e1]; exact hJ e he
  show AW l (pI pg 34) P kc ks 23 [(0, .ref 49), (1, .ref 4), (2, .int (x))] [] SHF _
  refine AW.aload_n (dq rfl) rfl rfl ?_
  show AW l (pI pg 34) P kc ks 24 _ _ SHF _
  refine fw_get (dq rfl) (pg_ok.2.1 34 _ _ _ _ rfl) rfl (v := .ref 7) (isTA_ok rfl (rgR_ok hJ1 rfl)) ?_
  show AW l (pI pg 34) P kc ks 27 _ _ SHF _
  refine AW.iconst (dq rfl) ?_
  show AW l (pI pg 34) P kc ks 28 _ _ SHF _
  refine AW.aload_n (dq rfl) rfl rfl ?_
  show AW l (pI pg 34) P kc ks 29 _ _ SHF _
  refine fw_get (dq rfl) (pg_ok.2.1 34 _ _ _ _ rfl) rfl (v := .ref 52) (isTA_ok rfl (rgR_ok hJ1 rfl)) ?_
  show AW l (pI pg 34) P kc ks 32 _ _ SHF _
  refine AW.iconst (dq rfl) ?_
  show AW l (pI pg 34) P kc ks 33 _ _ SHF _
  refine AW.bipush (dq rfl) ?_
  show AW l (pI pg 34) P kc ks 35 _ _ SHF _
  refine AW.copyi (i := 7) (j := 52) (n0 := 6) (n1 := 6) (sp := Int32.ofInt 0) (dp := Int32.ofInt 0) (k := (Int8.ofInt 6).toInt32) (dq rfl) ((pg_ok.2.2.1 34 _ _ _ _ rfl).2.2.2.2.2.1 rfl) rfl rfl (by decide) (by decide) (by decide) (by decide) (by decide) (by decide +kernel) (by decide +kernel) ?_
  show AW l (pI pg 34) P kc ks 38 [(0, .ref 49), (1, .ref 4), (2, .int (x))] [] SHF _
  refine AW.vret (dq rfl) rfl ?_
  exact r3 M1 e1 q1

theorem bega_0 {l : aL} {P : aP} {kc ks : Nat} {x : Int32} {M : aM} (hJ : ∀ e ∈ RR.2, M.2.2 e.1 e.2.1 = e.2.2) (hl0 : l.1.stackTraces = false) (Q1 : aM → Prop) (c2 : AC l (pI pg 34) (fcV M Q1) 0 0 [.ref 49, .ref 4, .int (x)] SHF M) (r3 : ∀ (M1 : aM), ∀ (e1 : M1.2.2 = M.2.2), ∀ (q1 : Q1 M1), P (.inl none) SHF M1) : AW l (pI pg 33) P kc ks 0 [(0, .ref 0), (1, .int (x))] [] SHF M := by
  refine AW.aload_n (dq rfl) rfl rfl ?_
  show AW l (pI pg 33) P kc ks 1 _ _ SHF _
  refine fw_get (dq rfl) (pg_ok.2.1 33 _ _ _ _ rfl) rfl (v := .ref 49) (isTA_ok rfl (rgR_ok hJ rfl)) ?_
  show AW l (pI pg 33) P kc ks 4 _ _ SHF _
  refine AW.aload_n (dq rfl) rfl rfl ?_
  show AW l (pI pg 33) P kc ks 5 _ _ SHF _
  refine fw_get (dq rfl) (pg_ok.2.1 33 _ _ _ _ rfl) rfl (v := .ref 4) (isTA_ok rfl (rgR_ok hJ rfl)) ?_
  show AW l (pI pg 33) P kc ks 8 _ _ SHF _
  refine AW.iload_n (dq rfl) rfl ?_
  show AW l (pI pg 33) P kc ks 9 _ _ SHF _
  refine fw_callVV (as := [.ref 4, .int (x)]) (dq rfl) (pg_ok.2.2.1 33 _ _ _ _ rfl) rfl (by decide +kernel) rfl rfl (c2) (fun M1 e1 q1 => ?_)
  have hJ1 : ∀ e ∈ RR.2, M1.2.2 e.1 e.2.1 = e.2.2 := fun e he => by rw [e1]; exact hJ e he
  show AW l (pI pg 33) P kc ks 12 [(0, .ref 0), (1, .int (x))] [] SHF _
  refine AW.vret (dq rfl) rfl ?_
  exact r3 M1 e1 q1

theorem seta_0 {l : aL} {P : aP} {kc ks : Nat} {M : aM} (hJ : ∀ e ∈ RR.2, M.2.2 e.1 e.2.1 = e.2.2) (hl0 : l.1.stackTraces = false) (Q1 : aM → Prop) (c2 : AC l (pI pg 12) (fcV M Q1) 0 0 [.ref 48, .int (Int32.ofInt (-1))] SHF M) (Q3 : aM → aM → Prop) (c4 : ∀ (M1 : aM), ∀ (e1 : M1.2.2 = M.2.2), ∀ (q1 : Q1 M1), AC l (pI pg 13) (fcV (aset M1 0 9 (.int (Int32.ofInt (-1)))) (Q3 M1)) 0 0 [.ref 49] SHF (aset M1 0 9 (.int (Int32.ofInt (-1))))) (Q5 : aM → aM → aM → Prop) (c6 : ∀ (M1 : aM), ∀ (e1 : M1.2.2 = M.2.2), ∀ (q1 : Q1 M1), ∀ (M3 : aM), ∀ (e3 : M3.2.2 = (aset M1 0 9 (.int (Int32.ofInt (-1)))).2.2), ∀ (q3 : (Q3 M1) M3), AC l (pI pg 13) (fcV M3 (Q5 M1 M3)) 0 0 [.ref 53] SHF M3) (Q7 : aM → aM → aM → aM → Prop) (c8 : ∀ (M1 : aM), ∀ (e1 : M1.2.2 = M.2.2), ∀ (q1 : Q1 M1), ∀ (M3 : aM), ∀ (e3 : M3.2.2 = (aset M1 0 9 (.int (Int32.ofInt (-1)))).2.2), ∀ (q3 : (Q3 M1) M3), ∀ (M5 : aM), ∀ (e5 : M5.2.2 = M3.2.2), ∀ (q5 : (Q5 M1 M3) M5), AC l (pI pg 14) (fcV M5 (Q7 M1 M3 M5)) 0 0 [.ref 30, .ref 4] SHF M5) (Q9 : aM → aM → aM → aM → aM → Prop) (c10 : ∀ (M1 : aM), ∀ (e1 : M1.2.2 = M.2.2), ∀ (q1 : Q1 M1), ∀ (M3 : aM), ∀ (e3 : M3.2.2 = (aset M1 0 9 (.int (Int32.ofInt (-1)))).2.2), ∀ (q3 : (Q3 M1) M3), ∀ (M5 : aM), ∀ (e5 : M5.2.2 = M3.2.2), ∀ (q5 : (Q5 M1 M3) M5), ∀ (M7 : aM), ∀ (e7 : M7.2.2 = M5.2.2), ∀ (q7 : (Q7 M1 M3 M5) M7), AC l (pI pg 16) (fcV M7 (Q9 M1 M3 M5 M7)) 0 0 [.ref 33, .ref 4, .ref 30, .ref 7] SHF M7) (Q11 : aM → aM → aM → aM → aM → aM → Prop) (c12 : ∀ (M1 : aM), ∀ (e1 : M1.2.2 = M.2.2), ∀ (q1 : Q1 M1), ∀ (M3 : aM), ∀ (e3 : M3.2.2 = (aset M1 0 9 (.int (Int32.ofInt (-1)))).2.2), ∀ (q3 : (Q3 M1) M3), ∀ (M5 : aM), ∀ (e5 : M5.2.2 = M3.2.2), ∀ (q5 : (Q5 M1 M3) M5), ∀ (M7 : aM), ∀ (e7 : M7.2.2 = M5.2.2), ∀ (q7 : (Q7 M1 M3 M5) M7), ∀ (M9 : aM), ∀ (e9 : M9.2.2 = M7.2.2), ∀ (q9 : (Q9 M1 M3 M5 M7) M9), AC l (pI pg 20) (fcV M9 (Q11 M1 M3 M5 M7 M9)) 0 0 [.ref 33, .ref 4] SHF M9) (Q13 : aM → aM → aM → aM → aM → aM → aM → Prop) (c14 : ∀ (M1 : aM), ∀ (e1 : M1.2.2 = M.2.2), ∀ (q1 : Q1 M1), ∀ (M3 : aM), ∀ (e3 : M3.2.2 = (aset M1 0 9 (.int (Int32.ofInt (-1)))).2.2), ∀ (q3 : (Q3 M1) M3), ∀ (M5 : aM), ∀ (e5 : M5.2.2 = M3.2.2), ∀ (q5 : (Q5 M1 M3) M5), ∀ (M7 : aM), ∀ (e7 : M7.2.2 = M5.2.2), ∀ (q7 : (Q7 M1 M3 M5) M7), ∀ (M9 : aM), ∀ (e9 : M9.2.2 = M7.2.2), ∀ (q9 : (Q9 M1 M3 M5 M7) M9), ∀ (M11 : aM), ∀ (e11 : M11.2.2 = M9.2.2), ∀ (q11 : (Q11 M1 M3 M5 M7 M9) M11), AC l (pI pg 22) (fcV M11 (Q13 M1 M3 M5 M7 M9 M11)) 0 0 [.ref 40] SHF M11) (Q15 : aM → aM → aM → aM → aM → aM → aM → aM → Prop) (c16 : ∀ (M1 : aM), ∀ (e1 : M1.2.2 = M.2.2), ∀ (q1 : Q1 M1), ∀ (M3 : aM), ∀ (e3 : M3.2.2 = (aset M1 0 9 (.int (Int32.ofInt (-1)))).2.2), ∀ (q3 : (Q3 M1) M3), ∀ (M5 : aM), ∀ (e5 : M5.2.2 = M3.2.2), ∀ (q5 : (Q5 M1 M3) M5), ∀ (M7 : aM), ∀ (e7 : M7.2.2 = M5.2.2), ∀ (q7 : (Q7 M1 M3 M5) M7), ∀ (M9 : aM), ∀ (e9 : M9.2.2 = M7.2.2), ∀ (q9 : (Q9 M1 M3 M5 M7) M9), ∀ (M11 : aM), ∀ (e11 : M11.2.2 = M9.2.2), ∀ (q11 : (Q11 M1 M3 M5 M7 M9) M11), ∀ (M13 : aM), ∀ (e13 : M13.2.2 = M11.2.2), ∀ (q13 : (Q13 M1 M3 M5 M7 M9 M11) M13), AC l (pI pg 23) (fcV M13 (Q15 M1 M3 M5 M7 M9 M11 M13)) 0 0 [.ref 45] SHF M13) (r17 : ∀ (M1 : aM), ∀ (e1 : M1.2.2 = M.2.2), ∀ (q1 : Q1 M1), ∀ (M3 : aM), ∀ (e3 : M3.2.2 = (aset M1 0 9 (.int (Int32.ofInt (-1)))).2.2), ∀ (q3 : (Q3 M1) M3), ∀ (M5 : aM), ∀ (e5 : M5.2.2 = M3.2.2), ∀ (q5 : (Q5 M1 M3) M5), ∀ (M7 : aM), ∀ (e7 : M7.2.2 = M5.2.2), ∀ (q7 : (Q7 M1 M3 M5) M7), ∀ (M9 : aM), ∀ (e9 : M9.2.2 = M7.2.2), ∀ (q9 : (Q9 M1 M3 M5 M7) M9), ∀ (M11 : aM), ∀ (e11 : M11.2.2 = M9.2.2), ∀ (q11 : (Q11 M1 M3 M5 M7 M9) M11), ∀ (M13 : aM), ∀ (e13 : M13.2.2 = M11.2.2), ∀ (q13 : (Q13 M1 M3 M5 M7 M9 M11) M13), ∀ (M15 : aM), ∀ (e15 : M15.2.2 = M13.2.2), ∀ (q15 : (Q15 M1 M3 M5 M7 M9 M11 M13) M15), P (.inl none) SHF M15) : AW l (pI pg 11) P kc ks 0 [(0, .ref 0)] [] SHF M := by
  refine AW.aload_n (dq rfl) rfl rfl ?_
  show AW l (pI pg 11) P kc ks 1 _ _ SHF _
  refine fw_get (dq rfl) (pg_ok.2.1 11 _ _ _ _ rfl) rfl (v := .ref 48) (isTA_ok rfl (rgR_ok hJ rfl)) ?_
  show AW l (pI pg 11) P kc ks 4 _ _ SHF _
  refine AW.iconst (dq rfl) ?_
  show AW l (pI pg 11) P kc ks 5 _ _ SHF _
  refine fw_callSV (as := [.ref 48, .int (Int32.ofInt (-1))]) (dq rfl) (pg_ok.2.2.1 11 _ _ _ _ rfl) (by decide +kernel) rfl rfl (c2) (fun M1 e1 q1 => ?_)
  have hJ1 : ∀ e ∈ RR.2, M1.2.2 e.1 e.2.1 = e.2.2 := fun e he => by rw [e1]; exact hJ e he
  show AW l (pI pg 11) P kc ks 8 [(0, .ref 0)] [] SHF _
  refine AW.aload_n (dq rfl) rfl rfl ?_
  show AW l (pI pg 11) P kc ks 9 _ _ SHF _
  refine AW.iconst (dq rfl) ?_
  show AW l (pI pg 11) P kc ks 10 _ _ SHF _
  refine fw_putI (dq rfl) (pg_ok.2.1 11 _ _ _ _ rfl) rfl rfl rfl ?_
  show AW l (pI pg 11) P kc ks 13 _ _ SHF _
  refine AW.aload_n (dq rfl) rfl rfl ?_
  show AW l (pI pg 11) P kc ks 14 _ _ SHF _
  refine fw_get (dq rfl) (pg_ok.2.1 11 _ _ _ _ rfl) rfl (v := .ref 49) (isTA_ok rfl (rgR_ok hJ1 rfl)) ?_
  show AW l (pI pg 11) P kc ks 17 _ _ SHF _
  refine fw_callVV (as := []) (dq rfl) (pg_ok.2.2.1 11 _ _ _ _ rfl) rfl (by decide +kernel) rfl rfl (c4 M1 e1 q1) (fun M3 e3 q3 => ?_)
  have hJ3 : ∀ e ∈ RR.2, M3.2.2 e.1 e.2.1 = e.2.2 := fun e he => by rw [e3]; exact hJ1 e he
  show AW l (pI pg 11) P kc ks 20 [(0, .ref 0)] [] SHF _
  refine AW.aload_n (dq rfl) rfl rfl ?_
  show AW l (pI pg 11) P kc ks 21 _ _ SHF _
  refine fw_get (dq rfl) (pg_ok.2.1 11 _ _ _ _ rfl) rfl (v := .ref 53) (isTA_ok rfl (rgR_ok hJ3 rfl)) ?_
  show AW l (pI pg 11) P kc ks 24 _ _ SHF _
  refine fw_callVV (as := []) (dq rfl) (pg_ok.2.2.1 11 _ _ _ _ rfl) rfl (by decide +kernel) rfl rfl (c6 M1 e1 q1 M3 e3 q3) (fun M5 e5 q5 => ?_)
  have hJ5 : ∀ e ∈ RR.2, M5.2.2 e.1 e.2.1 = e.2.2 := fun e he => by rw [e5]; exact hJ3 e he
  show AW l (pI pg 11) P kc ks 27 [(0, .ref 0)] [] SHF _
  refine AW.aload_n (dq rfl) rfl rfl ?_
  show AW l (pI pg 11) P kc ks 28 _ _ SHF _
  refine fw_get (dq rfl) (pg_ok.2.1 11 _ _ _ _ rfl) rfl (v := .ref 30) (isTA_ok rfl (rgR_ok hJ5 rfl)) ?_
  show AW l (pI pg 11) P kc ks 31 _ _ SHF _
  refine AW.aload_n (dq rfl) rfl rfl ?_
  show AW l (pI pg 11) P kc ks 32 _ _ SHF _
  refine fw_get (dq rfl) (pg_ok.2.1 11 _ _ _ _ rfl) rfl (v := .ref 4) (isTA_ok rfl (rgR_ok hJ5 rfl)) ?_
  show AW l (pI pg 11) P kc ks 35 _ _ SHF _
  refine fw_callVV (as := [.ref 4]) (dq rfl) (pg_ok.2.2.1 11 _ _ _ _ rfl) rfl (by decide +kernel) rfl rfl (c8 M1 e1 q1 M3 e3 q3 M5 e5 q5) (fun M7 e7 q7 => ?_)
  have hJ7 : ∀ e ∈ RR.2, M7.2.2 e.1 e.2.1 = e.2.2 := fun e he => by rw [e7]; exact hJ5 e he
  show AW l (pI pg 11) P kc ks 38 [(0, .ref 0)] [] SHF _
  refine AW.aload_n (dq rfl) rfl rfl ?_
  show AW l (pI pg 11) P kc ks 39 _ _ SHF _
  refine fw_get (dq rfl) (pg_ok.2.1 11 _ _ _ _ rfl) rfl (v := .ref 33) (isTA_ok rfl (rgR_ok hJ7 rfl)) ?_
  show AW l (pI pg 11) P kc ks 42 _ _ SHF _
  refine AW.aload_n (dq rfl) rfl rfl ?_
  show AW l (pI pg 11) P kc ks 43 _ _ SHF _
  refine fw_get (dq rfl) (pg_ok.2.1 11 _ _ _ _ rfl) rfl (v := .ref 4) (isTA_ok rfl (rgR_ok hJ7 rfl)) ?_
  show AW l (pI pg 11) P kc ks 46 _ _ SHF _
  refine AW.aload_n (dq rfl) rfl rfl ?_
  show AW l (pI pg 11) P kc ks 47 _ _ SHF _
  refine fw_get (dq rfl) (pg_ok.2.1 11 _ _ _ _ rfl) rfl (v := .ref 30) (isTA_ok rfl (rgR_ok hJ7 rfl)) ?_
  show AW l (pI pg 11) P kc ks 50 _ _ SHF _
  refine AW.aload_n (dq rfl) rfl rfl ?_
  show AW l (pI pg 11) P kc ks 51 _ _ SHF _
  refine fw_get (dq rfl) (pg_ok.2.1 11 _ _ _ _ rfl) rfl (v := .ref 4) (isTA_ok rfl (rgR_ok hJ7 rfl)) ?_
  show AW l (pI pg 11) P kc ks 54 _ _ SHF _
  refine fw_get (dq rfl) (pg_ok.2.1 11 _ _ _ _ rfl) rfl (v := .ref 7) (isTA_ok rfl (rgR_ok hJ7 rfl)) ?_
  show AW l (pI pg 11) P kc ks 57 _ _ SHF _
  refine fw_callVV (as := [.ref 4, .ref 30, .ref 7]) (dq rfl) (pg_ok.2.2.1 11 _ _ _ _ rfl) rfl (by decide +kernel) rfl rfl (c10 M1 e1 q1 M3 e3 q3 M5 e5 q5 M7 e7 q7) (fun M9 e9 q9 => ?_)
  have hJ9 : ∀ e ∈ RR.2, M9.2.2 e.1 e.2.1 = e.2.2 := fun e he => by rw [e9]; exact hJ7 e he
  show AW l (pI pg 11) P kc ks 60 [(0, .ref 0)] [] SHF _
  refine AW.aload_n (dq rfl) rfl rfl ?_
  show AW l (pI pg 11) P kc ks 61 _ _ SHF _
  refine fw_get (dq rfl) (pg_ok.2.1 11 _ _ _ _ rfl) rfl (v := .ref 33) (isTA_ok rfl (rgR_ok hJ9 rfl)) ?_
  show AW l (pI pg 11) P kc ks 64 _ _ SHF _
  refine AW.aload_n (dq rfl) rfl rfl ?_
  show AW l (pI pg 11) P kc ks 65 _ _ SHF _
  refine fw_get (dq rfl) (pg_ok.2.1 11 _ _ _ _ rfl) rfl (v := .ref 4) (isTA_ok rfl (rgR_ok hJ9 rfl)) ?_
  show AW l (pI pg 11) P kc ks 68 _ _ SHF _
  refine fw_callVV (as := [.ref 4]) (dq rfl) (pg_ok.2.2.1 11 _ _ _ _ rfl) rfl (by decide +kernel) rfl rfl (c12 M1 e1 q1 M3 e3 q3 M5 e5 q5 M7 e7 q7 M9 e9 q9) (fun M11 e11 q11 => ?_)
  have hJ11 : ∀ e ∈ RR.2, M11.2.2 e.1 e.2.1 = e.2.2 := fun e he => by rw [e11]; exact hJ9 e he
  show AW l (pI pg 11) P kc ks 71 [(0, .ref 0)] [] SHF _
  refine AW.aload_n (dq rfl) rfl rfl ?_
  show AW l (pI pg 11) P kc ks 72 _ _ SHF _
  refine fw_get (dq rfl) (pg_ok.2.1 11 _ _ _ _ rfl) rfl (v := .ref 40) (isTA_ok rfl (rgR_ok hJ11 rfl)) ?_
  show AW l (pI pg 11) P kc ks 75 _ _ SHF _
  refine fw_callVV (as := []) (dq rfl) (pg_ok.2.2.1 11 _ _ _ _ rfl) rfl (by decide +kernel) rfl rfl (c14 M1 e1 q1 M3 e3 q3 M5 e5 q5 M7 e7 q7 M9 e9 q9 M11 e11 q11) (fun M13 e13 q13 => ?_)
  have hJ13 : ∀ e ∈ RR.2, M13.2.2 e.1 e.2.1 = e.2.2 := fun e he => by rw [e13]; exact hJ11 e he
  show AW l (pI pg 11) P kc ks 78 [(0, .ref 0)] [] SHF _
  refine AW.aload_n (dq rfl) rfl rfl ?_
  show AW l (pI pg 11) P kc ks 79 _ _ SHF _
  refine fw_get (dq rfl) (pg_ok.2.1 11 _ _ _ _ rfl) rfl (v := .ref 45) (isTA_ok rfl (rgR_ok hJ13 rfl)) ?_
  show AW l (pI pg 11) P kc ks 82 _ _ SHF _
  refine fw_callVV (as := []) (dq rfl) (pg_ok.2.2.1 11 _ _ _ _ rfl) rfl (by decide +kernel) rfl rfl (c16 M1 e1 q1 M3 e3 q3 M5 e5 q5 M7 e7 q7 M9 e9 q9 M11 e11 q11 M13 e13 q13) (fun M15 e15 q15 => ?_)
  have hJ15 : ∀ e ∈ RR.2, M15.2.2 e.1 e.2.1 = e.2.2 := fun e he => by rw [e15]; exact hJ13 e he
  show AW l (pI pg 11) P kc ks 85 [(0, .ref 0)] [] SHF _
  refine AW.vret (dq rfl) rfl ?_
  exact r17 M1 e1 q1 M3 e3 q3 M5 e5 q5 M7 e7 q7 M9 e9 q9 M11 e11 q11 M13 e13 q13 M15 e15 q15

theorem liva_0 {l : aL} {P : aP} {kc ks : Nat} {M : aM} (hJ : ∀ e ∈ RR.2, M.2.2 e.1 e.2.1 = e.2.2) (hl0 : l.1.stackTraces = false) (Q2 : Int32 → aM → Prop) (c3 : ∀ (h1 : (M.1 49 1 : Int32) < ((Int16.ofInt 200).toInt32 : Int32)), AC l (pI pg 158) (fcI M Q2) 0 0 [.ref 49, .ref 4] SHF M) (Q4 : Int32 → aM → Int32 → aM → Prop) (c5 : ∀ (h1 : (M.1 49 1 : Int32) < ((Int16.ofInt 200).toInt32 : Int32)), ∀ (y2 : Int32), ∀ (M2 : aM), ∀ (e2 : M2.2.2 = M.2.2), ∀ (q2 : Q2 y2 M2), AC l (pI pg 160) (fcI M2 (Q4 y2 M2)) 0 0 [.ref 36, .ref 4, .ref 30, .ref 49, .int (y2)] SHF M2) (k6 : ∀ (h1 : (M.1 49 1 : Int32) < ((Int16.ofInt 200).toInt32 : Int32)), ∀ (y2 : Int32), ∀ (M2 : aM), ∀ (e2 : M2.2.2 = M.2.2), ∀ (q2 : Q2 y2 M2), ∀ (y4 : Int32), ∀ (M4 : aM), ∀ (e4 : M4.2.2 = M2.2.2), ∀ (q4 : (Q4 y2 M2) y4 M4), AW l (pI pg 157) P kc ks 32 [(6, .int (Int32.ofInt 0)), (5, .int (y4)), (4, .int (y2)), (3, .ref 36), (2, .ref 30), (1, .ref 4), (0, .ref 49)] [] SHF M4) (r7 : ∀ (h1 : ¬ ((M.1 49 1 : Int32) < ((Int16.ofInt 200).toInt32 : Int32))), P (.inl none) SHF M) : AW l (pI pg 157) P kc ks 0 [(0, .ref 49), (1, .ref 4), (2, .ref 30), (3, .ref 36)] [] SHF M := by
  refine AW.aload_n (dq rfl) rfl rfl ?_
  show AW l (pI pg 157) P kc ks 1 _ _ SHF _
  refine fw_get (dq rfl) (pg_ok.2.1 157 _ _ _ _ rfl) rfl (v := .int (M.1 49 1)) rfl ?_
  show AW l (pI pg 157) P kc ks 4 _ _ SHF _
  refine AW.sipush (dq rfl) ?_
  show AW l (pI pg 157) P kc ks 7 _ _ SHF _
  refine AW.icmp_lt (dq rfl) (tgt := 11) (by decide) (fun h1 => ?_) (fun h1 => ?_)
  · have _ := h1
    refine AW.aload_n (dq rfl) rfl rfl ?_
    show AW l (pI pg 157) P kc ks 12 _ _ SHF _
    refine AW.aload_n (dq rfl) rfl rfl ?_
    show AW l (pI pg 157) P kc ks 13 _ _ SHF _
    refine fw_callVI (as := [.ref 4]) (dq rfl) (pg_ok.2.2.1 157 _ _ _ _ rfl) rfl (by decide +kernel) rfl rfl (c3 h1) (fun y2 M2 e2 q2 => ?_)
    have hJ2 : ∀ e ∈ RR.2, M2.2.2 e.1 e.2.1 = e.2.2 := fun e he => by rw [e2]; exact hJ e he
    show AW l (pI pg 157) P kc ks 16 [(0, .ref 49), (1, .ref 4), (2, .ref 30), (3, .ref 36)] [.int (y2)] SHF _
    refine AW.istore (dq rfl) (by decide +kernel) ?_
    show AW l (pI pg 157) P kc ks 18 [(4, .int (y2)), (0, .ref 49), (1, .ref 4), (2, .ref 30), (3, .ref 36)] [] SHF _
    refine AW.aload_n (dq rfl) rfl rfl ?_
    show AW l (pI pg 157) P kc ks 19 _ _ SHF _
    refine AW.aload_n (dq rfl) rfl rfl ?_
    show AW l (pI pg 157) P kc ks 20 _ _ SHF _
    refine AW.aload_n (dq rfl) rfl rfl ?_
    show AW l (pI pg 157) P kc ks 21 _ _ SHF _
    refine AW.aload_n (dq rfl) rfl rfl ?_
    show AW l (pI pg 157) P kc ks 22 _ _ SHF _
    refine AW.iload (dq rfl) rfl ?_
    show AW l (pI pg 157) P kc ks 24 _ _ SHF _
    refine fw_callVI (as := [.ref 4, .ref 30, .ref 49, .int (y2)]) (dq rfl) (pg_ok.2.2.1 157 _ _ _ _ rfl) rfl (by decide +kernel) rfl rfl (c5 h1 y2 M2 e2 q2) (fun y4 M4 e4 q4 => ?_)
    have hJ4 : ∀ e ∈ RR.2, M4.2.2 e.1 e.2.1 = e.2.2 := fun e he => by rw [e4]; exact hJ2 e he
    show AW l (pI pg 157) P kc ks 27 [(4, .int (y2)), (0, .ref 49), (1, .ref 4), (2, .ref 30), (3, .ref 36)] [.int (y4)] SHF _
    refine AW.istore (dq rfl) (by decide +kernel) ?_
    show AW l (pI pg 157) P kc ks 29 [(5, .int (y4)), (4, .int (y2)), (0, .ref 49), (1, .ref 4), (2, .ref 30), (3, .ref 36)] [] SHF _
    refine AW.iconst (dq rfl) ?_
    show AW l (pI pg 157) P kc ks 30 _ _ SHF _
    refine AW.istore (dq rfl) (by decide +kernel) ?_
    show AW l (pI pg 157) P kc ks 32 [(6, .int (Int32.ofInt 0)), (5, .int (y4)), (4, .int (y2)), (0, .ref 49), (1, .ref 4), (2, .ref 30), (3, .ref 36)] [] SHF _
    refine AW.drop (lv' := [(6, .int (Int32.ofInt 0)), (5, .int (y4)), (4, .int (y2)), (3, .ref 36), (2, .ref 30), (1, .ref 4), (0, .ref 49)]) (List.forall_mem_cons.mpr ⟨List.mem_of_getElem? (i := 0) rfl, List.forall_mem_cons.mpr ⟨List.mem_of_getElem? (i := 1) rfl, List.forall_mem_cons.mpr ⟨List.mem_of_getElem? (i := 2) rfl, List.forall_mem_cons.mpr ⟨List.mem_of_getElem? (i := 6) rfl, List.forall_mem_cons.mpr ⟨List.mem_of_getElem? (i := 5) rfl, List.forall_mem_cons.mpr ⟨List.mem_of_getElem? (i := 4) rfl, List.forall_mem_cons.mpr ⟨List.mem_of_getElem? (i := 3) rfl, fun _ h => absurd h List.not_mem_nil⟩⟩⟩⟩⟩⟩⟩) ?_
    exact k6 h1 y2 M2 e2 q2 y4 M4 e4 q4
  · have _ := h1
    refine AW.vret (dq rfl) rfl ?_
    exact r7 h1

theorem liva_32 {l : aL} {P : aP} {kc ks : Nat} {i : Nat} {c w : Int32} {M : aM} (hJ : ∀ e ∈ RR.2, M.2.2 e.1 e.2.1 = e.2.2) (hl0 : l.1.stackTraces = false) (k2 : ∀ (h1 : (M.1 4 1 : Int32) ≤ (nI i : Int32)), AW l (pI pg 157) P kc ks 82 [(5, .int (c)), (4, .int (w)), (1, .ref 4), (0, .ref 49)] [] SHF M) (Q3 : Int32 → aM → Prop) (c4 : ∀ (h1 : ¬ ((M.1 4 1 : Int32) ≤ (nI i : Int32))), AC l (pI pg 112) (fcI M Q3) 0 0 [.int (c), .int (nI i)] SHF M) (Q5 : Int32 → aM → Int32 → aM → Prop) (c6 : ∀ (h1 : ¬ ((M.1 4 1 : Int32) ≤ (nI i : Int32))), ∀ (y3 : Int32), ∀ (M3 : aM), ∀ (e3 : M3.2.2 = M.2.2), ∀ (q3 : Q3 y3 M3), AC l (pI pg 28) (fcI M3 (Q5 y3 M3)) 0 0 [.ref 4, .int (y3)] SHF M3) (k8 : ∀ (h1 : ¬ ((M.1 4 1 : Int32) ≤ (nI i : Int32))), ∀ (y3 : Int32), ∀ (M3 : aM), ∀ (e3 : M3.2.2 = M.2.2), ∀ (q3 : Q3 y3 M3), ∀ (y5 : Int32), ∀ (M5 : aM), ∀ (e5 : M5.2.2 = M3.2.2), ∀ (q5 : (Q5 y3 M3) y5 M5), ∀ (h7 : (y5 : Int32) = 0), AW l (pI pg 157) P kc ks 32 [(6, .int ((nI i) + Int32.ofInt 1)), (5, .int (c)), (4, .int (w)), (3, .ref 36), (2, .ref 30), (1, .ref 4), (0, .ref 49)] [] SHF M5) (o9 : ∀ (h1 : ¬ ((M.1 4 1 : Int32) ≤ (nI i : Int32))), ∀ (y3 : Int32), ∀ (M3 : aM), ∀ (e3 : M3.2.2 = M.2.2), ∀ (q3 : Q3 y3 M3), ∀ (y5 : Int32), ∀ (M5 : aM), ∀ (e5 : M5.2.2 = M3.2.2), ∀ (q5 : (Q5 y3 M3) y5 M5), ∀ (h7 : ¬ ((y5 : Int32) = 0)), vp_in (((y3) * ((Int8.ofInt 8).toInt32)) + (nI i)) 48) (k10 : ∀ (h1 : ¬ ((M.1 4 1 : Int32) ≤ (nI i : Int32))), ∀ (y3 : Int32), ∀ (M3 : aM), ∀ (e3 : M3.2.2 = M.2.2), ∀ (q3 : Q3 y3 M3), ∀ (y5 : Int32), ∀ (M5 : aM), ∀ (e5 : M5.2.2 = M3.2.2), ∀ (q5 : (Q5 y3 M3) y5 M5), ∀ (h7 : ¬ ((y5 : Int32) = 0)), AW l (pI pg 157) P kc ks 32 [(6, .int ((nI i) + Int32.ofInt 1)), (5, .int (c)), (4, .int (w)), (3, .ref 36), (2, .ref 30), (1, .ref 4), (0, .ref 49)] [] SHF (aset M5 51 (((y3) * ((Int8.ofInt 8).toInt32)) + (nI i)).toNatClampNeg (.int (M5.1 49 1)))) : AW l (pI pg 157) P kc ks 32 [(6, .int (nI i)), (5, .int (c)), (4, .int (w)), (3, .ref 36), (2, .ref 30), (1, .ref 4), (0, .ref 49)] [] SHF M := by
  refine AW.iload (dq rfl) rfl ?_
  show AW l (pI pg 157) P kc ks 34 _ _ SHF _
  refine AW.aload_n (dq rfl) rfl rfl ?_
  show AW l (pI pg 157) P kc ks 35 _ _ SHF _
  refine fw_get (dq rfl) (pg_ok.2.1 157 _ _ _ _ rfl) rfl (v := .int (M.1 4 1)) rfl ?_
  show AW l (pI pg 157) P kc ks 38 _ _ SHF _
  refine AW.icmp_ge (dq rfl) (tgt := 82) (by decide) (fun h1 => ?_) (fun h1 => ?_)
  · have _ := h1
    refine AW.drop (lv' := [(5, .int (c)), (4, .int (w)), (1, .ref 4), (0, .ref 49)]) (List.forall_mem_cons.mpr ⟨List.mem_of_getElem? (i := 1) rfl, List.forall_mem_cons.mpr ⟨List.mem_of_getElem? (i := 2) rfl, List.forall_mem_cons.mpr ⟨List.mem_of_getElem? (i := 5) rfl, List.forall_mem_cons.mpr ⟨List.mem_of_getElem? (i := 6) rfl, fun _ h => absurd h List.not_mem_nil⟩⟩⟩⟩) ?_
    exact k2 h1
  · have _ := h1
    refine AW.iload (dq rfl) rfl ?_
    show AW l (pI pg 157) P kc ks 43 _ _ SHF _
    refine AW.iload (dq rfl) rfl ?_
    show AW l (pI pg 157) P kc ks 45 _ _ SHF _
    refine fw_callSI (as := [.int (c), .int (nI i)]) (dq rfl) (pg_ok.2.2.1 157 _ _ _ _ rfl) (by decide +kernel) rfl rfl (c4 h1) (fun y3 M3 e3 q3 => ?_)
    have hJ3 : ∀ e ∈ RR.2, M3.2.2 e.1 e.2.1 = e.2.2 := fun e he => by rw [e3]; exact hJ e he
    show AW l (pI pg 157) P kc ks 48 [(6, .int (nI i)), (5, .int (c)), (4, .int (w)), (3, .ref 36), (2, .ref 30), (1, .ref 4), (0, .ref 49)] [.int (y3)] SHF _
    refine AW.istore (dq rfl) (by decide +kernel) ?_
    show AW l (pI pg 157) P kc ks 50 [(7, .int (y3)), (6, .int (nI i)), (5, .int (c)), (4, .int (w)), (3, .ref 36), (2, .ref 30), (1, .ref 4), (0, .ref 49)] [] SHF _
    refine AW.aload_n (dq rfl) rfl rfl ?_
    show AW l (pI pg 157) P kc ks 51 _ _ SHF _
    refine AW.iload (dq rfl) rfl ?_
    show AW l (pI pg 157) P kc ks 53 _ _ SHF _
    refine fw_callVI (as := [.int (y3)]) (dq rfl) (pg_ok.2.2.1 157 _ _ _ _ rfl) rfl (by decide +kernel) rfl rfl (c6 h1 y3 M3 e3 q3) (fun y5 M5 e5 q5 => ?_)
    have hJ5 : ∀ e ∈ RR.2, M5.2.2 e.1 e.2.1 = e.2.2 := fun e he => by rw [e5]; exact hJ3 e he
    show AW l (pI pg 157) P kc ks 56 [(7, .int (y3)), (6, .int (nI i)), (5, .int (c)), (4, .int (w)), (3, .ref 36), (2, .ref 30), (1, .ref 4), (0, .ref 49)] [.int (y5)] SHF _
    refine AW.if_eq (dq rfl) (tgt := 76) (by decide) (fun h7 => ?_) (fun h7 => ?_)
    · have _ := h7
      refine AW.iinc (dq rfl) rfl (by decide +kernel) ?_
      show AW l (pI pg 157) P kc ks 79 [(6, .int ((nI i) + Int32.ofInt 1)), (7, .int (y3)), (5, .int (c)), (4, .int (w)), (3, .ref 36), (2, .ref 30), (1, .ref 4), (0, .ref 49)] [] SHF _
      refine AW.goto (dq rfl) (tgt := 32) (by decide) ?_
      refine AW.drop (lv' := [(6, .int ((nI i) + Int32.ofInt 1)), (5, .int (c)), (4, .int (w)), (3, .ref 36), (2, .ref 30), (1, .ref 4), (0, .ref 49)]) (List.forall_mem_cons.mpr ⟨List.mem_of_getElem? (i := 0) rfl, List.forall_mem_cons.mpr ⟨List.mem_of_getElem? (i := 2) rfl, List.forall_mem_cons.mpr ⟨List.mem_of_getElem? (i := 3) rfl, List.forall_mem_cons.mpr ⟨List.mem_of_getElem? (i := 4) rfl, List.forall_mem_cons.mpr ⟨List.mem_of_getElem? (i := 5) rfl, List.forall_mem_cons.mpr ⟨List.mem_of_getElem? (i := 6) rfl, List.forall_mem_cons.mpr ⟨List.mem_of_getElem? (i := 7) rfl, fun _ h => absurd h List.not_mem_nil⟩⟩⟩⟩⟩⟩⟩) ?_
      exact k8 h1 y3 M3 e3 q3 y5 M5 e5 q5 h7
    · have _ := h7
      refine AW.aload_n (dq rfl) rfl rfl ?_
      show AW l (pI pg 157) P kc ks 60 _ _ SHF _
      refine fw_get (dq rfl) (pg_ok.2.1 157 _ _ _ _ rfl) rfl (v := .ref 51) (isTA_ok rfl (rgR_ok hJ5 rfl)) ?_
      show AW l (pI pg 157) P kc ks 63 _ _ SHF _
      refine AW.iload (dq rfl) rfl ?_
      show AW l (pI pg 157) P kc ks 65 _ _ SHF _
      refine AW.bipush (dq rfl) ?_
      show AW l (pI pg 157) P kc ks 67 _ _ SHF _
      refine AW.imul (dq rfl) ?_
      show AW l (pI pg 157) P kc ks 68 _ _ SHF _
      refine AW.iload (dq rfl) rfl ?_
      show AW l (pI pg 157) P kc ks 70 _ _ SHF _
      refine AW.iadd (dq rfl) ?_
      show AW l (pI pg 157) P kc ks 71 _ _ SHF _
      refine AW.aload_n (dq rfl) rfl rfl ?_
      show AW l (pI pg 157) P kc ks 72 _ _ SHF _
      refine fw_get (dq rfl) (pg_ok.2.1 157 _ _ _ _ rfl) rfl (v := .int (M5.1 49 1)) rfl ?_
      show AW l (pI pg 157) P kc ks 75 _ _ SHF _
      refine AW.iast (dq rfl) rfl (o9 h1 y3 M3 e3 q3 y5 M5 e5 q5 h7) ?_
      show AW l (pI pg 157) P kc ks 76 _ _ SHF _
      refine AW.iinc (dq rfl) rfl (by decide +kernel) ?_
      show AW l (pI pg 157) P kc ks 79 [(6, .int ((nI i) + Int32.ofInt 1)), (7, .int (y3)), (5, .int (c)), (4, .int (w)), (3, .ref 36), (2, .ref 30), (1, .ref 4), (0, .ref 49)] [] SHF _
      refine AW.goto (dq rfl) (tgt := 32) (by decide) ?_
      refine AW.drop (lv' := [(6, .int ((nI i) + Int32.ofInt 1)), (5, .int (c)), (4, .int (w)), (3, .ref 36), (2, .ref 30), (1, .ref 4), (0, .ref 49)]) (List.forall_mem_cons.mpr ⟨List.mem_of_getElem? (i := 0) rfl, List.forall_mem_cons.mpr ⟨List.mem_of_getElem? (i := 2) rfl, List.forall_mem_cons.mpr ⟨List.mem_of_getElem? (i := 3) rfl, List.forall_mem_cons.mpr ⟨List.mem_of_getElem? (i := 4) rfl, List.forall_mem_cons.mpr ⟨List.mem_of_getElem? (i := 5) rfl, List.forall_mem_cons.mpr ⟨List.mem_of_getElem? (i := 6) rfl, List.forall_mem_cons.mpr ⟨List.mem_of_getElem? (i := 7) rfl, fun _ h => absurd h List.not_mem_nil⟩⟩⟩⟩⟩⟩⟩) ?_
      exact k10 h1 y3 M3 e3 q3 y5 M5 e5 q5 h7

theorem liva_82 {l : aL} {P : aP} {kc ks : Nat} {c w : Int32} {M : aM} (hJ : ∀ e ∈ RR.2, M.2.2 e.1 e.2.1 = e.2.2) (hl0 : l.1.stackTraces = false) (o2 : ∀ (h1 : (M.1 4 3 : Int32) = 0), vp_in (M.1 49 1) 200) (r3 : ∀ (h1 : (M.1 4 3 : Int32) = 0), P (.inl none) SHF (aset (aset M 50 (M.1 49 1).toNatClampNeg (.int (((w) <<< (((Int8.ofInt 24).toInt32) &&& 31)) ||| (c)))) 49 1 (.int (((aset M 50 (M.1 49 1).toNatClampNeg (.int (((w) <<< (((Int8.ofInt 24).toInt32) &&& 31)) ||| (c)))).1 49 1) + (Int32.ofInt 1))))) (Q4 : aM → Prop) (c5 : ∀ (h1 : ¬ ((M.1 4 3 : Int32) = 0)), AC l (pI pg 162) (fcV M Q4) 0 0 [.ref 49, .ref 4] SHF M) (o6 : ∀ (h1 : ¬ ((M.1 4 3 : Int32) = 0)), ∀ (M4 : aM), ∀ (e4 : M4.2.2 = M.2.2), ∀ (q4 : Q4 M4), vp_in (M4.1 49 1) 200) (r7 : ∀ (h1 : ¬ ((M.1 4 3 : Int32) = 0)), ∀ (M4 : aM), ∀ (e4 : M4.2.2 = M.2.2), ∀ (q4 : Q4 M4), P (.inl none) SHF (aset (aset M4 50 (M4.1 49 1).toNatClampNeg (.int (((w) <<< (((Int8.ofInt 24).toInt32) &&& 31)) ||| (c)))) 49 1 (.int (((aset M4 50 (M4.1 49 1).toNatClampNeg (.int (((w) <<< (((Int8.ofInt 24).toInt32) &&& 31)) ||| (c)))).1 49 1) + (Int32.ofInt 1))))) : AW l (pI pg 157) P kc ks 82 [(5, .int (c)), (4, .int (w)), (1, .ref 4), (0, .ref 49)] [] SHF M := by
  refine AW.aload_n (dq rfl) rfl rfl ?_
  show AW l (pI pg 157) P kc ks 83 _ _ SHF _
  refine fw_get (dq rfl) (pg_ok.2.1 157 _ _ _ _ rfl) rfl (v := .int (M.1 4 3)) rfl ?_
  show AW l (pI pg 157) P kc ks 86 _ _ SHF _
  refine AW.if_eq (dq rfl) (tgt := 94) (by decide) (fun h1 => ?_) (fun h1 => ?_)
  · have _ := h1
    refine AW.aload_n (dq rfl) rfl rfl ?_
    show AW l (pI pg 157) P kc ks 95 _ _ SHF _
    refine fw_get (dq rfl) (pg_ok.2.1 157 _ _ _ _ rfl) rfl (v := .ref 50) (isTA_ok rfl (rgR_ok hJ rfl)) ?_
    show AW l (pI pg 157) P kc ks 98 _ _ SHF _
    refine AW.aload_n (dq rfl) rfl rfl ?_
    show AW l (pI pg 157) P kc ks 99 _ _ SHF _
    refine fw_get (dq rfl) (pg_ok.2.1 157 _ _ _ _ rfl) rfl (v := .int (M.1 49 1)) rfl ?_
    show AW l (pI pg 157) P kc ks 102 _ _ SHF _
    refine AW.iload (dq rfl) rfl ?_
    show AW l (pI pg 157) P kc ks 104 _ _ SHF _
    refine AW.bipush (dq rfl) ?_
    show AW l (pI pg 157) P kc ks 106 _ _ SHF _
    refine AW.ishl (dq rfl) ?_
    show AW l (pI pg 157) P kc ks 107 _ _ SHF _
    refine AW.iload (dq rfl) rfl ?_
    show AW l (pI pg 157) P kc ks 109 _ _ SHF _
    refine AW.ior (dq rfl) ?_
    show AW l (pI pg 157) P kc ks 110 _ _ SHF _
    refine AW.iast (dq rfl) rfl (o2 h1) ?_
    show AW l (pI pg 157) P kc ks 111 _ _ SHF _
    refine AW.aload_n (dq rfl) rfl rfl ?_
    show AW l (pI pg 157) P kc ks 112 _ _ SHF _
    refine AW.dup (dq rfl) rfl ?_
    show AW l (pI pg 157) P kc ks 113 _ _ SHF _
    refine fw_get (dq rfl) (pg_ok.2.1 157 _ _ _ _ rfl) rfl (v := .int ((aset M 50 (M.1 49 1).toNatClampNeg (.int (((w) <<< (((Int8.ofInt 24).toInt32) &&& 31)) ||| (c)))).1 49 1)) rfl ?_
    show AW l (pI pg 157) P kc ks 116 _ _ SHF _
    refine AW.iconst (dq rfl) ?_
    show AW l (pI pg 157) P kc ks 117 _ _ SHF _
    refine AW.iadd (dq rfl) ?_
    show AW l (pI pg 157) P kc ks 118 _ _ SHF _
    refine fw_putI (dq rfl) (pg_ok.2.1 157 _ _ _ _ rfl) rfl rfl rfl ?_
    show AW l (pI pg 157) P kc ks 121 _ _ SHF _
    refine AW.vret (dq rfl) rfl ?_
    exact r3 h1
  · have _ := h1
    refine AW.aload_n (dq rfl) rfl rfl ?_
    show AW l (pI pg 157) P kc ks 90 _ _ SHF _
    refine AW.aload_n (dq rfl) rfl rfl ?_
    show AW l (pI pg 157) P kc ks 91 _ _ SHF _
    refine fw_callVV (as := [.ref 4]) (dq rfl) (pg_ok.2.2.1 157 _ _ _ _ rfl) rfl (by decide +kernel) rfl rfl (c5 h1) (fun M4 e4 q4 => ?_)
    have hJ4 : ∀ e ∈ RR.2, M4.2.2 e.1 e.2.1 = e.2.2 := fun e he => by rw [e4]; exact hJ e he
    show AW l (pI pg 157) P kc ks 94 [(5, .int (c)), (4, .int (w)), (1, .ref 4), (0, .ref 49)] [] SHF _
    refine AW.aload_n (dq rfl) rfl rfl ?_
    show AW l (pI pg 157) P kc ks 95 _ _ SHF _
    refine fw_get (dq rfl) (pg_ok.2.1 157 _ _ _ _ rfl) rfl (v := .ref 50) (isTA_ok rfl (rgR_ok hJ4 rfl)) ?_
    show AW l (pI pg 157) P kc ks 98 _ _ SHF _
    refine AW.aload_n (dq rfl) rfl rfl ?_
    show AW l (pI pg 157) P kc ks 99 _ _ SHF _
    refine fw_get (dq rfl) (pg_ok.2.1 157 _ _ _ _ rfl) rfl (v := .int (M4.1 49 1)) rfl ?_
    show AW l (pI pg 157) P kc ks 102 _ _ SHF _
    refine AW.iload (dq rfl) rfl ?_
    show AW l (pI pg 157) P kc ks 104 _ _ SHF _
    refine AW.bipush (dq rfl) ?_
    show AW l (pI pg 157) P kc ks 106 _ _ SHF _
    refine AW.ishl (dq rfl) ?_
    show AW l (pI pg 157) P kc ks 107 _ _ SHF _
    refine AW.iload (dq rfl) rfl ?_
    show AW l (pI pg 157) P kc ks 109 _ _ SHF _
    refine AW.ior (dq rfl) ?_
    show AW l (pI pg 157) P kc ks 110 _ _ SHF _
    refine AW.iast (dq rfl) rfl (o6 h1 M4 e4 q4) ?_
    show AW l (pI pg 157) P kc ks 111 _ _ SHF _
    refine AW.aload_n (dq rfl) rfl rfl ?_
    show AW l (pI pg 157) P kc ks 112 _ _ SHF _
    refine AW.dup (dq rfl) rfl ?_
    show AW l (pI pg 157) P kc ks 113 _ _ SHF _
    refine fw_get (dq rfl) (pg_ok.2.1 157 _ _ _ _ rfl) rfl (v := .int ((aset M4 50 (M4.1 49 1).toNatClampNeg (.int (((w) <<< (((Int8.ofInt 24).toInt32) &&& 31)) ||| (c)))).1 49 1)) rfl ?_
    show AW l (pI pg 157) P kc ks 116 _ _ SHF _
    refine AW.iconst (dq rfl) ?_
    show AW l (pI pg 157) P kc ks 117 _ _ SHF _
    refine AW.iadd (dq rfl) ?_
    show AW l (pI pg 157) P kc ks 118 _ _ SHF _
    refine fw_putI (dq rfl) (pg_ok.2.1 157 _ _ _ _ rfl) rfl rfl rfl ?_
    show AW l (pI pg 157) P kc ks 121 _ _ SHF _
    refine AW.vret (dq rfl) rfl ?_
    exact r7 h1 M4 e4 q4

theorem onna_0 {l : aL} {P : aP} {kc ks : Nat} {x : Int32} {M : aM} (hJ : ∀ e ∈ RR.2, M.2.2 e.1 e.2.1 = e.2.2) (hl0 : l.1.stackTraces = false) (x2 : ∀ (h1 : (x : Int32) < 0), P (.inr "java/lang/IllegalArgumentException") SHF M) (o5 : ∀ (h1 : ¬ ((x : Int32) < 0)), ∀ (h3 : (x : Int32) ≤ ((Int8.ofInt 60).toInt32 : Int32)), ∀ (h4 : (M.1 49 0 : Int32) = 0), vp_in (Int32.ofInt 2) 3) (r6 : ∀ (h1 : ¬ ((x : Int32) < 0)), ∀ (h3 : (x : Int32) ≤ ((Int8.ofInt 60).toInt32 : Int32)), ∀ (h4 : (M.1 49 0 : Int32) = 0), P (.inl (some (.int (Int32.ofInt (-1))))) SHF (aset M 57 (Int32.ofInt 2).toNatClampNeg (.int ((M.1 57 (Int32.ofInt 2).toNatClampNeg) + (Int32.ofInt 1))))) (k8 : ∀ (h1 : ¬ ((x : Int32) < 0)), ∀ (h3 : (x : Int32) ≤ ((Int8.ofInt 60).toInt32 : Int32)), ∀ (h4 : ¬ ((M.1 49 0 : Int32) = 0)), ∀ (h7 : ((M.1 49 1) + (x) : Int32) ≤ ((Int16.ofInt 200).toInt32 : Int32)), AW l (pI pg 156) P (kc + 1) (ks + 6) 60 [(2, .int (Int32.ofInt 0)), (1, .int (x)), (0, .ref 0)] [] SHF M) (o9 : ∀ (h1 : ¬ ((x : Int32) < 0)), ∀ (h3 : (x : Int32) ≤ ((Int8.ofInt 60).toInt32 : Int32)), ∀ (h4 : ¬ ((M.1 49 0 : Int32) = 0)), ∀ (h7 : ¬ (((M.1 49 1) + (x) : Int32) ≤ ((Int16.ofInt 200).toInt32 : Int32))), vp_in (Int32.ofInt 2) 3) (r10 : ∀ (h1 : ¬ ((x : Int32) < 0)), ∀ (h3 : (x : Int32) ≤ ((Int8.ofInt 60).toInt32 : Int32)), ∀ (h4 : ¬ ((M.1 49 0 : Int32) = 0)), ∀ (h7 : ¬ (((M.1 49 1) + (x) : Int32) ≤ ((Int16.ofInt 200).toInt32 : Int32))), P (.inl (some (.int (Int32.ofInt (-1))))) SHF (aset M 57 (Int32.ofInt 2).toNatClampNeg (.int ((M.1 57 (Int32.ofInt 2).toNatClampNeg) + (Int32.ofInt 1))))) (x11 : ∀ (h1 : ¬ ((x : Int32) < 0)), ∀ (h3 : ¬ ((x : Int32) ≤ ((Int8.ofInt 60).toInt32 : Int32))), P (.inr "java/lang/IllegalArgumentException") SHF M) : AW l (pI pg 156) P (kc + 1) (ks + 6) 0 [(0, .ref 0), (1, .int (x))] [] SHF M := by
  refine AW.iload_n (dq rfl) rfl ?_
  show AW l (pI pg 156) P (kc + 1) (ks + 6) 1 _ _ SHF _
  refine AW.if_lt (dq rfl) (tgt := 10) (by decide) (fun h1 => ?_) (fun h1 => ?_)
  · have _ := h1
    refine pg_ok.2.2.2.2.2.2.2.1 156 _ _ rfl _ _ _ _ _ _ _ ?_
    exact x2 h1
  · have _ := h1
    refine AW.iload_n (dq rfl) rfl ?_
    show AW l (pI pg 156) P (kc + 1) (ks + 6) 5 _ _ SHF _
    refine AW.bipush (dq rfl) ?_
    show AW l (pI pg 156) P (kc + 1) (ks + 6) 7 _ _ SHF _
    refine AW.icmp_le (dq rfl) (tgt := 21) (by decide) (fun h3 => ?_) (fun h3 => ?_)
    · have _ := h3
      refine AW.aload_n (dq rfl) rfl rfl ?_
      show AW l (pI pg 156) P (kc + 1) (ks + 6) 22 _ _ SHF _
      refine fw_get (dq rfl) (pg_ok.2.1 156 _ _ _ _ rfl) rfl (v := .ref 49) (isTA_ok rfl (rgR_ok hJ rfl)) ?_
      show AW l (pI pg 156) P (kc + 1) (ks + 6) 25 _ _ SHF _
      refine fw_get (dq rfl) (pg_ok.2.1 156 _ _ _ _ rfl) rfl (v := .int (M.1 49 0)) rfl ?_
      show AW l (pI pg 156) P (kc + 1) (ks + 6) 28 _ _ SHF _
      refine AW.if_eq (dq rfl) (tgt := 46) (by decide) (fun h4 => ?_) (fun h4 => ?_)
      · have _ := h4
        refine AW.aload_n (dq rfl) rfl rfl ?_
        show AW l (pI pg 156) P (kc + 1) (ks + 6) 47 _ _ SHF _
        refine fw_get (dq rfl) (pg_ok.2.1 156 _ _ _ _ rfl) rfl (v := .ref 57) (isTA_ok rfl (rgR_ok hJ rfl)) ?_
        show AW l (pI pg 156) P (kc + 1) (ks + 6) 50 _ _ SHF _
        refine AW.iconst (dq rfl) ?_
        show AW l (pI pg 156) P (kc + 1) (ks + 6) 51 _ _ SHF _
        refine AW.dup2_11 (dq rfl) rfl rfl ?_
        show AW l (pI pg 156) P (kc + 1) (ks + 6) 52 _ _ SHF _
        refine AW.iald (dq rfl) rfl (o5 h1 h3 h4) ?_
        show AW l (pI pg 156) P (kc + 1) (ks + 6) 53 _ _ SHF _
        refine AW.iconst (dq rfl) ?_
        show AW l (pI pg 156) P (kc + 1) (ks + 6) 54 _ _ SHF _
        refine AW.iadd (dq rfl) ?_
        show AW l (pI pg 156) P (kc + 1) (ks + 6) 55 _ _ SHF _
        refine AW.iast (dq rfl) rfl (o5 h1 h3 h4) ?_
        show AW l (pI pg 156) P (kc + 1) (ks + 6) 56 _ _ SHF _
        refine AW.iconst (dq rfl) ?_
        show AW l (pI pg 156) P (kc + 1) (ks + 6) 57 _ _ SHF _
        refine AW.iret (dq rfl) rfl ?_
        exact r6 h1 h3 h4
      · have _ := h4
        refine AW.aload_n (dq rfl) rfl rfl ?_
        show AW l (pI pg 156) P (kc + 1) (ks + 6) 32 _ _ SHF _
        refine fw_get (dq rfl) (pg_ok.2.1 156 _ _ _ _ rfl) rfl (v := .ref 49) (isTA_ok rfl (rgR_ok hJ rfl)) ?_
        show AW l (pI pg 156) P (kc + 1) (ks + 6) 35 _ _ SHF _
        refine fw_get (dq rfl) (pg_ok.2.1 156 _ _ _ _ rfl) rfl (v := .int (M.1 49 1)) rfl ?_
        show AW l (pI pg 156) P (kc + 1) (ks + 6) 38 _ _ SHF _
        refine AW.iload_n (dq rfl) rfl ?_
        show AW l (pI pg 156) P (kc + 1) (ks + 6) 39 _ _ SHF _
        refine AW.iadd (dq rfl) ?_
        show AW l (pI pg 156) P (kc + 1) (ks + 6) 40 _ _ SHF _
        refine AW.sipush (dq rfl) ?_
        show AW l (pI pg 156) P (kc + 1) (ks + 6) 43 _ _ SHF _
        refine AW.icmp_le (dq rfl) (tgt := 58) (by decide) (fun h7 => ?_) (fun h7 => ?_)
        · have _ := h7
          refine AW.iconst (dq rfl) ?_
          show AW l (pI pg 156) P (kc + 1) (ks + 6) 59 _ _ SHF _
          refine AW.istore_n (dq rfl) (by decide +kernel) ?_
          show AW l (pI pg 156) P (kc + 1) (ks + 6) 60 [(2, .int (Int32.ofInt 0)), (0, .ref 0), (1, .int (x))] [] SHF _
          refine AW.drop (lv' := [(2, .int (Int32.ofInt 0)), (1, .int (x)), (0, .ref 0)]) (List.forall_mem_cons.mpr ⟨List.mem_of_getElem? (i := 0) rfl, List.forall_mem_cons.mpr ⟨List.mem_of_getElem? (i := 2) rfl, List.forall_mem_cons.mpr ⟨List.mem_of_getElem? (i := 1) rfl, fun _ h => absurd h List.not_mem_nil⟩⟩⟩) ?_
          exact k8 h1 h3 h4 h7
        · have _ := h7
          refine AW.aload_n (dq rfl) rfl rfl ?_
          show AW l (pI pg 156) P (kc + 1) (ks + 6) 47 _ _ SHF _
          refine fw_get (dq rfl) (pg_ok.2.1 156 _ _ _ _ rfl) rfl (v := .ref 57) (isTA_ok rfl (rgR_ok hJ rfl)) ?_
          show AW l (pI pg 156) P (kc + 1) (ks + 6) 50 _ _ SHF _
          refine AW.iconst (dq rfl) ?_
          show AW l (pI pg 156) P (kc + 1) (ks + 6) 51 _ _ SHF _
          refine AW.dup2_11 (dq rfl) rfl rfl ?_
          show AW l (pI pg 156) P (kc + 1) (ks + 6) 52 _ _ SHF _
          refine AW.iald (dq rfl) rfl (o9 h1 h3 h4 h7) ?_
          show AW l (pI pg 156) P (kc + 1) (ks + 6) 53 _ _ SHF _
          refine AW.iconst (dq rfl) ?_
          show AW l (pI pg 156) P (kc + 1) (ks + 6) 54 _ _ SHF _
          refine AW.iadd (dq rfl) ?_
          show AW l (pI pg 156) P (kc + 1) (ks + 6) 55 _ _ SHF _
          refine AW.iast (dq rfl) rfl (o9 h1 h3 h4 h7) ?_
          show AW l (pI pg 156) P (kc + 1) (ks + 6) 56 _ _ SHF _
          refine AW.iconst (dq rfl) ?_
          show AW l (pI pg 156) P (kc + 1) (ks + 6) 57 _ _ SHF _
          refine AW.iret (dq rfl) rfl ?_
          exact r10 h1 h3 h4 h7
    · have _ := h3
      refine pg_ok.2.2.2.2.2.2.2.1 156 _ _ rfl _ _ _ _ _ _ _ ?_
      exact x11 h1 h3

theorem onna_60 {l : aL} {P : aP} {kc ks : Nat} {v x : Int32} {M : aM} (hJ : ∀ e ∈ RR.2, M.2.2 e.1 e.2.1 = e.2.2) (hl0 : l.1.stackTraces = false) (r2 : ∀ (h1 : (x : Int32) ≤ (v : Int32)), P (.inl (some (.int (M.1 49 1)))) SHF M) (Q3 : aM → Prop) (c4 : ∀ (h1 : ¬ ((x : Int32) ≤ (v : Int32))), AC l (pI pg 157) (fcV M Q3) 0 0 [.ref 49, .ref 4, .ref 30, .ref 36] SHF M) (k5 : ∀ (h1 : ¬ ((x : Int32) ≤ (v : Int32))), ∀ (M3 : aM), ∀ (e3 : M3.2.2 = M.2.2), ∀ (q3 : Q3 M3), AW l (pI pg 156) P kc ks 60 [(2, .int ((v) + Int32.ofInt 1)), (1, .int (x)), (0, .ref 0)] [] SHF M3) : AW l (pI pg 156) P kc ks 60 [(2, .int (v)), (1, .int (x)), (0, .ref 0)] [] SHF M := by
  refine AW.iload_n (dq rfl) rfl ?_
  show AW l (pI pg 156) P kc ks 61 _ _ SHF _
  refine AW.iload_n (dq rfl) rfl ?_
  show AW l (pI pg 156) P kc ks 62 _ _ SHF _
  refine AW.icmp_ge (dq rfl) (tgt := 90) (by decide) (fun h1 => ?_) (fun h1 => ?_)
  · have _ := h1
    refine AW.aload_n (dq rfl) rfl rfl ?_
    show AW l (pI pg 156) P kc ks 91 _ _ SHF _
    refine fw_get (dq rfl) (pg_ok.2.1 156 _ _ _ _ rfl) rfl (v := .ref 49) (isTA_ok rfl (rgR_ok hJ rfl)) ?_
    show AW l (pI pg 156) P kc ks 94 _ _ SHF _
    refine fw_get (dq rfl) (pg_ok.2.1 156 _ _ _ _ rfl) rfl (v := .int (M.1 49 1)) rfl ?_
    show AW l (pI pg 156) P kc ks 97 _ _ SHF _
    refine AW.iret (dq rfl) rfl ?_
    exact r2 h1
  · have _ := h1
    refine AW.aload_n (dq rfl) rfl rfl ?_
    show AW l (pI pg 156) P kc ks 66 _ _ SHF _
    refine fw_get (dq rfl) (pg_ok.2.1 156 _ _ _ _ rfl) rfl (v := .ref 49) (isTA_ok rfl (rgR_ok hJ rfl)) ?_
    show AW l (pI pg 156) P kc ks 69 _ _ SHF _
    refine AW.aload_n (dq rfl) rfl rfl ?_
    show AW l (pI pg 156) P kc ks 70 _ _ SHF _
    refine fw_get (dq rfl) (pg_ok.2.1 156 _ _ _ _ rfl) rfl (v := .ref 4) (isTA_ok rfl (rgR_ok hJ rfl)) ?_
    show AW l (pI pg 156) P kc ks 73 _ _ SHF _
    refine AW.aload_n (dq rfl) rfl rfl ?_
    show AW l (pI pg 156) P kc ks 74 _ _ SHF _
    refine fw_get (dq rfl) (pg_ok.2.1 156 _ _ _ _ rfl) rfl (v := .ref 30) (isTA_ok rfl (rgR_ok hJ rfl)) ?_
    show AW l (pI pg 156) P kc ks 77 _ _ SHF _
    refine AW.aload_n (dq rfl) rfl rfl ?_
    show AW l (pI pg 156) P kc ks 78 _ _ SHF _
    refine fw_get (dq rfl) (pg_ok.2.1 156 _ _ _ _ rfl) rfl (v := .ref 36) (isTA_ok rfl (rgR_ok hJ rfl)) ?_
    show AW l (pI pg 156) P kc ks 81 _ _ SHF _
    refine fw_callVV (as := [.ref 4, .ref 30, .ref 36]) (dq rfl) (pg_ok.2.2.1 156 _ _ _ _ rfl) rfl (by decide +kernel) rfl rfl (c4 h1) (fun M3 e3 q3 => ?_)
    have hJ3 : ∀ e ∈ RR.2, M3.2.2 e.1 e.2.1 = e.2.2 := fun e he => by rw [e3]; exact hJ e he
    show AW l (pI pg 156) P kc ks 84 [(2, .int (v)), (1, .int (x)), (0, .ref 0)] [] SHF _
    refine AW.iinc (dq rfl) rfl (by decide +kernel) ?_
    show AW l (pI pg 156) P kc ks 87 [(2, .int ((v) + Int32.ofInt 1)), (1, .int (x)), (0, .ref 0)] [] SHF _
    refine AW.goto (dq rfl) (tgt := 60) (by decide) ?_
    refine AW.drop (lv' := [(2, .int ((v) + Int32.ofInt 1)), (1, .int (x)), (0, .ref 0)]) (List.forall_mem_cons.mpr ⟨List.mem_of_getElem? (i := 0) rfl, List.forall_mem_cons.mpr ⟨List.mem_of_getElem? (i := 1) rfl, List.forall_mem_cons.mpr ⟨List.mem_of_getElem? (i := 2) rfl, fun _ h => absurd h List.not_mem_nil⟩⟩⟩) ?_
    exact k5 h1 M3 e3 q3

theorem stab_0 {l : aL} {P : aP} {kc ks : Nat} {x : Int32} {M : aM} (hJ : ∀ e ∈ RRS.2, M.2.2 e.1 e.2.1 = e.2.2) (hl0 : l.1.stackTraces = false) (Q1 : aM → Prop) (c2 : AC l (pI pg 12) (fcV (aset (aset (aset M 49 0 (.int (Int32.ofInt 1))) 49 1 (.int (Int32.ofInt 0))) 49 2 (.int (x))) Q1) 0 0 [.ref 51, .int (Int32.ofInt (-1))] SHF (aset (aset (aset M 49 0 (.int (Int32.ofInt 1))) 49 1 (.int (Int32.ofInt 0))) 49 2 (.int (x)))) (r3 : ∀ (M1 : aM), ∀ (e1 : M1.2.2 = (aset (aset (aset M 49 0 (.int (Int32.ofInt 1))) 49 1 (.int (Int32.ofInt 0))) 49 2 (.int (x))).2.2), ∀ (q1 : Q1 M1), P (.inl none) SHF (acpy M1 20 52 (Int32.ofInt 0).toNatClampNeg (Int32.ofInt 0).toNatClampNeg ((Int8.ofInt 6).toInt32).toNatClampNeg)) : AW l (pI pg 34) P kc ks 0 [(0, .ref 49), (1, .ref 17), (2, .int (x))] [] SHF M := by
  refine AW.aload_n (dq rfl) rfl rfl ?_
  show AW l (pI pg 34) P kc ks 1 _ _ SHF _
  refine AW.iconst (dq rfl) ?_
  show AW l (pI pg 34) P kc ks 2 _ _ SHF _
  refine fw_putZ (dq rfl) (pg_ok.2.1 34 _ _ _ _ rfl) rfl rfl rfl (by decide) ?_
  show AW l (pI pg 34) P kc ks 5 _ _ SHF _
  refine AW.aload_n (dq rfl) rfl rfl ?_
  show AW l (pI pg 34) P kc ks 6 _ _ SHF _
  refine AW.iconst (dq rfl) ?_
  show AW l (pI pg 34) P kc ks 7 _ _ SHF _
  refine fw_putI (dq rfl) (pg_ok.2.1 34 _ _ _ _ rfl) rfl rfl rfl ?_
  show AW l (pI pg 34) P kc ks 10 _ _ SHF _
  refine AW.aload_n (dq rfl) rfl rfl ?_
  show AW l (pI pg 34) P kc ks 11 _ _ SHF _
  refine AW.iload_n (dq rfl) rfl ?_
  show AW l (pI pg 34) P kc ks 12 _ _ SHF _
  refine fw_putI (dq rfl) (pg_ok.2.1 34 _ _ _ _ rfl) rfl rfl rfl ?_
  show AW l (pI pg 34) P kc ks 15 _ _ SHF _
  refine AW.aload_n (dq rfl) rfl rfl ?_
  show AW l (pI pg 34) P kc ks 16 _ _ SHF _
  refine fw_get (dq rfl) (pg_ok.2.1 34 _ _ _ _ rfl) rfl (v := .ref 51) (isTA_ok rfl (rgR_ok hJ rfl)) ?_
  show AW l (pI pg 34) P kc ks 19 _ _ SHF _
  refine AW.iconst (dq rfl) ?_
  show AW l (pI pg 34) P kc ks 20 _ _ SHF _
  refine fw_callSV (as := [.ref 51, .int (Int32.ofInt (-1))]) (dq rfl) (pg_ok.2.2.1 34 _ _ _ _ rfl) (by decide +kernel) rfl rfl (c2) (fun M1 e1 q1 => ?_)
  have hJ1 : ∀ e ∈ RRS.2, M1.2.2 e.1 e.2.1 = e.2.2 := fun e he => by rw [e1]; exact hJ e he
  show AW l (pI pg 34) P kc ks 23 [(0, .ref 49), (1, .ref 17), (2, .int (x))] [] SHF _
  refine AW.aload_n (dq rfl) rfl rfl ?_
  show AW l (pI pg 34) P kc ks 24 _ _ SHF _
  refine fw_get (dq rfl) (pg_ok.2.1 34 _ _ _ _ rfl) rfl (v := .ref 20) (isTA_ok rfl (rgR_ok hJ1 rfl)) ?_
  show AW l (pI pg 34) P kc ks 27 _ _ SHF _
  refine AW.iconst (dq rfl) ?_
  show AW l (pI pg 34) P kc ks 28 _ _ SHF _
  refine AW.aload_n (dq rfl) rfl rfl ?_
  show AW l (pI pg 34) P kc ks 29 _ _ SHF _
  refine fw_get (dq rfl) (pg_ok.2.1 34 _ _ _ _ rfl) rfl (v := .ref 52) (isTA_ok rfl (rgR_ok hJ1 rfl)) ?_
  show AW l (pI pg 34) P kc ks 32 _ _ SHF _
  refine AW.iconst (dq rfl) ?_
  show AW l (pI pg 34) P kc ks 33 _ _ SHF _
  refine AW.bipush (dq rfl) ?_
  show AW l (pI pg 34) P kc ks 35 _ _ SHF _
  refine AW.copyi (i := 20) (j := 52) (n0 := 6) (n1 := 6) (sp := Int32.ofInt 0) (dp := Int32.ofInt 0) (k := (Int8.ofInt 6).toInt32) (dq rfl) ((pg_ok.2.2.1 34 _ _ _ _ rfl).2.2.2.2.2.1 rfl) rfl rfl (by decide) (by decide) (by decide) (by decide) (by decide) (by decide +kernel) (by decide +kernel) ?_
  show AW l (pI pg 34) P kc ks 38 [(0, .ref 49), (1, .ref 17), (2, .int (x))] [] SHF _
  refine AW.vret (dq rfl) rfl ?_
  exact r3 M1 e1 q1

theorem begb_0 {l : aL} {P : aP} {kc ks : Nat} {x : Int32} {M : aM} (hJ : ∀ e ∈ RRS.2, M.2.2 e.1 e.2.1 = e.2.2) (hl0 : l.1.stackTraces = false) (Q1 : aM → Prop) (c2 : AC l (pI pg 34) (fcV M Q1) 0 0 [.ref 49, .ref 17, .int (x)] SHF M) (r3 : ∀ (M1 : aM), ∀ (e1 : M1.2.2 = M.2.2), ∀ (q1 : Q1 M1), P (.inl none) SHF M1) : AW l (pI pg 33) P kc ks 0 [(0, .ref 0), (1, .int (x))] [] SHF M := by
  refine AW.aload_n (dq rfl) rfl rfl ?_
  show AW l (pI pg 33) P kc ks 1 _ _ SHF _
  refine fw_get (dq rfl) (pg_ok.2.1 33 _ _ _ _ rfl) rfl (v := .ref 49) (isTA_ok rfl (rgR_ok hJ rfl)) ?_
  show AW l (pI pg 33) P kc ks 4 _ _ SHF _
  refine AW.aload_n (dq rfl) rfl rfl ?_
  show AW l (pI pg 33) P kc ks 5 _ _ SHF _
  refine fw_get (dq rfl) (pg_ok.2.1 33 _ _ _ _ rfl) rfl (v := .ref 17) (isTA_ok rfl (rgR_ok hJ rfl)) ?_
  show AW l (pI pg 33) P kc ks 8 _ _ SHF _
  refine AW.iload_n (dq rfl) rfl ?_
  show AW l (pI pg 33) P kc ks 9 _ _ SHF _
  refine fw_callVV (as := [.ref 17, .int (x)]) (dq rfl) (pg_ok.2.2.1 33 _ _ _ _ rfl) rfl (by decide +kernel) rfl rfl (c2) (fun M1 e1 q1 => ?_)
  have hJ1 : ∀ e ∈ RRS.2, M1.2.2 e.1 e.2.1 = e.2.2 := fun e he => by rw [e1]; exact hJ e he
  show AW l (pI pg 33) P kc ks 12 [(0, .ref 0), (1, .int (x))] [] SHF _
  refine AW.vret (dq rfl) rfl ?_
  exact r3 M1 e1 q1

theorem setb_0 {l : aL} {P : aP} {kc ks : Nat} {M : aM} (hJ : ∀ e ∈ RRS.2, M.2.2 e.1 e.2.1 = e.2.2) (hl0 : l.1.stackTraces = false) (Q1 : aM → Prop) (c2 : AC l (pI pg 12) (fcV M Q1) 0 0 [.ref 48, .int (Int32.ofInt (-1))] SHF M) (Q3 : aM → aM → Prop) (c4 : ∀ (M1 : aM), ∀ (e1 : M1.2.2 = M.2.2), ∀ (q1 : Q1 M1), AC l (pI pg 13) (fcV (aset M1 0 9 (.int (Int32.ofInt (-1)))) (Q3 M1)) 0 0 [.ref 49] SHF (aset M1 0 9 (.int (Int32.ofInt (-1))))) (Q5 : aM → aM → aM → Prop) (c6 : ∀ (M1 : aM), ∀ (e1 : M1.2.2 = M.2.2), ∀ (q1 : Q1 M1), ∀ (M3 : aM), ∀ (e3 : M3.2.2 = (aset M1 0 9 (.int (Int32.ofInt (-1)))).2.2), ∀ (q3 : (Q3 M1) M3), AC l (pI pg 13) (fcV M3 (Q5 M1 M3)) 0 0 [.ref 53] SHF M3) (Q7 : aM → aM → aM → aM → Prop) (c8 : ∀ (M1 : aM), ∀ (e1 : M1.2.2 = M.2.2), ∀ (q1 : Q1 M1), ∀ (M3 : aM), ∀ (e3 : M3.2.2 = (aset M1 0 9 (.int (Int32.ofInt (-1)))).2.2), ∀ (q3 : (Q3 M1) M3), ∀ (M5 : aM), ∀ (e5 : M5.2.2 = M3.2.2), ∀ (q5 : (Q5 M1 M3) M5), AC l (pI pg 14) (fcV M5 (Q7 M1 M3 M5)) 0 0 [.ref 30, .ref 17] SHF M5) (Q9 : aM → aM → aM → aM → aM → Prop) (c10 : ∀ (M1 : aM), ∀ (e1 : M1.2.2 = M.2.2), ∀ (q1 : Q1 M1), ∀ (M3 : aM), ∀ (e3 : M3.2.2 = (aset M1 0 9 (.int (Int32.ofInt (-1)))).2.2), ∀ (q3 : (Q3 M1) M3), ∀ (M5 : aM), ∀ (e5 : M5.2.2 = M3.2.2), ∀ (q5 : (Q5 M1 M3) M5), ∀ (M7 : aM), ∀ (e7 : M7.2.2 = M5.2.2), ∀ (q7 : (Q7 M1 M3 M5) M7), AC l (pI pg 16) (fcV M7 (Q9 M1 M3 M5 M7)) 0 0 [.ref 33, .ref 17, .ref 30, .ref 20] SHF M7) (Q11 : aM → aM → aM → aM → aM → aM → Prop) (c12 : ∀ (M1 : aM), ∀ (e1 : M1.2.2 = M.2.2), ∀ (q1 : Q1 M1), ∀ (M3 : aM), ∀ (e3 : M3.2.2 = (aset M1 0 9 (.int (Int32.ofInt (-1)))).2.2), ∀ (q3 : (Q3 M1) M3), ∀ (M5 : aM), ∀ (e5 : M5.2.2 = M3.2.2), ∀ (q5 : (Q5 M1 M3) M5), ∀ (M7 : aM), ∀ (e7 : M7.2.2 = M5.2.2), ∀ (q7 : (Q7 M1 M3 M5) M7), ∀ (M9 : aM), ∀ (e9 : M9.2.2 = M7.2.2), ∀ (q9 : (Q9 M1 M3 M5 M7) M9), AC l (pI pg 20) (fcV M9 (Q11 M1 M3 M5 M7 M9)) 0 0 [.ref 33, .ref 17] SHF M9) (Q13 : aM → aM → aM → aM → aM → aM → aM → Prop) (c14 : ∀ (M1 : aM), ∀ (e1 : M1.2.2 = M.2.2), ∀ (q1 : Q1 M1), ∀ (M3 : aM), ∀ (e3 : M3.2.2 = (aset M1 0 9 (.int (Int32.ofInt (-1)))).2.2), ∀ (q3 : (Q3 M1) M3), ∀ (M5 : aM), ∀ (e5 : M5.2.2 = M3.2.2), ∀ (q5 : (Q5 M1 M3) M5), ∀ (M7 : aM), ∀ (e7 : M7.2.2 = M5.2.2), ∀ (q7 : (Q7 M1 M3 M5) M7), ∀ (M9 : aM), ∀ (e9 : M9.2.2 = M7.2.2), ∀ (q9 : (Q9 M1 M3 M5 M7) M9), ∀ (M11 : aM), ∀ (e11 : M11.2.2 = M9.2.2), ∀ (q11 : (Q11 M1 M3 M5 M7 M9) M11), AC l (pI pg 22) (fcV M11 (Q13 M1 M3 M5 M7 M9 M11)) 0 0 [.ref 40] SHF M11) (Q15 : aM → aM → aM → aM → aM → aM → aM → aM → Prop) (c16 : ∀ (M1 : aM), ∀ (e1 : M1.2.2 = M.2.2), ∀ (q1 : Q1 M1), ∀ (M3 : aM), ∀ (e3 : M3.2.2 = (aset M1 0 9 (.int (Int32.ofInt (-1)))).2.2), ∀ (q3 : (Q3 M1) M3), ∀ (M5 : aM), ∀ (e5 : M5.2.2 = M3.2.2), ∀ (q5 : (Q5 M1 M3) M5), ∀ (M7 : aM), ∀ (e7 : M7.2.2 = M5.2.2), ∀ (q7 : (Q7 M1 M3 M5) M7), ∀ (M9 : aM), ∀ (e9 : M9.2.2 = M7.2.2), ∀ (q9 : (Q9 M1 M3 M5 M7) M9), ∀ (M11 : aM), ∀ (e11 : M11.2.2 = M9.2.2), ∀ (q11 : (Q11 M1 M3 M5 M7 M9) M11), ∀ (M13 : aM), ∀ (e13 : M13.2.2 = M11.2.2), ∀ (q13 : (Q13 M1 M3 M5 M7 M9 M11) M13), AC l (pI pg 23) (fcV M13 (Q15 M1 M3 M5 M7 M9 M11 M13)) 0 0 [.ref 45] SHF M13) (r17 : ∀ (M1 : aM), ∀ (e1 : M1.2.2 = M.2.2), ∀ (q1 : Q1 M1), ∀ (M3 : aM), ∀ (e3 : M3.2.2 = (aset M1 0 9 (.int (Int32.ofInt (-1)))).2.2), ∀ (q3 : (Q3 M1) M3), ∀ (M5 : aM), ∀ (e5 : M5.2.2 = M3.2.2), ∀ (q5 : (Q5 M1 M3) M5), ∀ (M7 : aM), ∀ (e7 : M7.2.2 = M5.2.2), ∀ (q7 : (Q7 M1 M3 M5) M7), ∀ (M9 : aM), ∀ (e9 : M9.2.2 = M7.2.2), ∀ (q9 : (Q9 M1 M3 M5 M7) M9), ∀ (M11 : aM), ∀ (e11 : M11.2.2 = M9.2.2), ∀ (q11 : (Q11 M1 M3 M5 M7 M9) M11), ∀ (M13 : aM), ∀ (e13 : M13.2.2 = M11.2.2), ∀ (q13 : (Q13 M1 M3 M5 M7 M9 M11) M13), ∀ (M15 : aM), ∀ (e15 : M15.2.2 = M13.2.2), ∀ (q15 : (Q15 M1 M3 M5 M7 M9 M11 M13) M15), P (.inl none) SHF M15) : AW l (pI pg 11) P kc ks 0 [(0, .ref 0)] [] SHF M := by
  refine AW.aload_n (dq rfl) rfl rfl ?_
  show AW l (pI pg 11) P kc ks 1 _ _ SHF _
  refine fw_get (dq rfl) (pg_ok.2.1 11 _ _ _ _ rfl) rfl (v := .ref 48) (isTA_ok rfl (rgR_ok hJ rfl)) ?_
  show AW l (pI pg 11) P kc ks 4 _ _ SHF _
  refine AW.iconst (dq rfl) ?_
  show AW l (pI pg 11) P kc ks 5 _ _ SHF _
  refine fw_callSV (as := [.ref 48, .int (Int32.ofInt (-1))]) (dq rfl) (pg_ok.2.2.1 11 _ _ _ _ rfl) (by decide +kernel) rfl rfl (c2) (fun M1 e1 q1 => ?_)
  have hJ1 : ∀ e ∈ RRS.2, M1.2.2 e.1 e.2.1 = e.2.2 := fun e he => by rw [e1]; exact hJ e he
  show AW l (pI pg 11) P kc ks 8 [(0, .ref 0)] [] SHF _
  refine AW.aload_n (dq rfl) rfl rfl ?_
  show AW l (pI pg 11) P kc ks 9 _ _ SHF _
  refine AW.iconst (dq rfl) ?_
  show AW l (pI pg 11) P kc ks 10 _ _ SHF _
  refine fw_putI (dq rfl) (pg_ok.2.1 11 _ _ _ _ rfl) rfl rfl rfl ?_
  show AW l (pI pg 11) P kc ks 13 _ _ SHF _
  refine AW.aload_n (dq rfl) rfl rfl ?_
  show AW l (pI pg 11) P kc ks 14 _ _ SHF _
  refine fw_get (dq rfl) (pg_ok.2.1 11 _ _ _ _ rfl) rfl (v := .ref 49) (isTA_ok rfl (rgR_ok hJ1 rfl)) ?_
  show AW l (pI pg 11) P kc ks 17 _ _ SHF _
  refine fw_callVV (as := []) (dq rfl) (pg_ok.2.2.1 11 _ _ _ _ rfl) rfl (by decide +kernel) rfl rfl (c4 M1 e1 q1) (fun M3 e3 q3 => ?_)
  have hJ3 : ∀ e ∈ RRS.2, M3.2.2 e.1 e.2.1 = e.2.2 := fun e he => by rw [e3]; exact hJ1 e he
  show AW l (pI pg 11) P kc ks 20 [(0, .ref 0)] [] SHF _
  refine AW.aload_n (dq rfl) rfl rfl ?_
  show AW l (pI pg 11) P kc ks 21 _ _ SHF _
  refine fw_get (dq rfl) (pg_ok.2.1 11 _ _ _ _ rfl) rfl (v := .ref 53) (isTA_ok rfl (rgR_ok hJ3 rfl)) ?_
  show AW l (pI pg 11) P kc ks 24 _ _ SHF _
  refine fw_callVV (as := []) (dq rfl) (pg_ok.2.2.1 11 _ _ _ _ rfl) rfl (by decide +kernel) rfl rfl (c6 M1 e1 q1 M3 e3 q3) (fun M5 e5 q5 => ?_)
  have hJ5 : ∀ e ∈ RRS.2, M5.2.2 e.1 e.2.1 = e.2.2 := fun e he => by rw [e5]; exact hJ3 e he
  show AW l (pI pg 11) P kc ks 27 [(0, .ref 0)] [] SHF _
  refine AW.aload_n (dq rfl) rfl rfl ?_
  show AW l (pI pg 11) P kc ks 28 _ _ SHF _
  refine fw_get (dq rfl) (pg_ok.2.1 11 _ _ _ _ rfl) rfl (v := .ref 30) (isTA_ok rfl (rgR_ok hJ5 rfl)) ?_
  show AW l (pI pg 11) P kc ks 31 _ _ SHF _
  refine AW.aload_n (dq rfl) rfl rfl ?_
  show AW l (pI pg 11) P kc ks 32 _ _ SHF _
  refine fw_get (dq rfl) (pg_ok.2.1 11 _ _ _ _ rfl) rfl (v := .ref 17) (isTA_ok rfl (rgR_ok hJ5 rfl)) ?_
  show AW l (pI pg 11) P kc ks 35 _ _ SHF _
  refine fw_callVV (as := [.ref 17]) (dq rfl) (pg_ok.2.2.1 11 _ _ _ _ rfl) rfl (by decide +kernel) rfl rfl (c8 M1 e1 q1 M3 e3 q3 M5 e5 q5) (fun M7 e7 q7 => ?_)
  have hJ7 : ∀ e ∈ RRS.2, M7.2.2 e.1 e.2.1 = e.2.2 := fun e he => by rw [e7]; exact hJ5 e he
  show AW l (pI pg 11) P kc ks 38 [(0, .ref 0)] [] SHF _
  refine AW.aload_n (dq rfl) rfl rfl ?_
  show AW l (pI pg 11) P kc ks 39 _ _ SHF _
  refine fw_get (dq rfl) (pg_ok.2.1 11 _ _ _ _ rfl) rfl (v := .ref 33) (isTA_ok rfl (rgR_ok hJ7 rfl)) ?_
  show AW l (pI pg 11) P kc ks 42 _ _ SHF _
  refine AW.aload_n (dq rfl) rfl rfl ?_
  show AW l (pI pg 11) P kc ks 43 _ _ SHF _
  refine fw_get (dq rfl) (pg_ok.2.1 11 _ _ _ _ rfl) rfl (v := .ref 17) (isTA_ok rfl (rgR_ok hJ7 rfl)) ?_
  show AW l (pI pg 11) P kc ks 46 _ _ SHF _
  refine AW.aload_n (dq rfl) rfl rfl ?_
  show AW l (pI pg 11) P kc ks 47 _ _ SHF _
  refine fw_get (dq rfl) (pg_ok.2.1 11 _ _ _ _ rfl) rfl (v := .ref 30) (isTA_ok rfl (rgR_ok hJ7 rfl)) ?_
  show AW l (pI pg 11) P kc ks 50 _ _ SHF _
  refine AW.aload_n (dq rfl) rfl rfl ?_
  show AW l (pI pg 11) P kc ks 51 _ _ SHF _
  refine fw_get (dq rfl) (pg_ok.2.1 11 _ _ _ _ rfl) rfl (v := .ref 17) (isTA_ok rfl (rgR_ok hJ7 rfl)) ?_
  show AW l (pI pg 11) P kc ks 54 _ _ SHF _
  refine fw_get (dq rfl) (pg_ok.2.1 11 _ _ _ _ rfl) rfl (v := .ref 20) (isTA_ok rfl (rgR_ok hJ7 rfl)) ?_
  show AW l (pI pg 11) P kc ks 57 _ _ SHF _
  refine fw_callVV (as := [.ref 17, .ref 30, .ref 20]) (dq rfl) (pg_ok.2.2.1 11 _ _ _ _ rfl) rfl (by decide +kernel) rfl rfl (c10 M1 e1 q1 M3 e3 q3 M5 e5 q5 M7 e7 q7) (fun M9 e9 q9 => ?_)
  have hJ9 : ∀ e ∈ RRS.2, M9.2.2 e.1 e.2.1 = e.2.2 := fun e he => by rw [e9]; exact hJ7 e he
  show AW l (pI pg 11) P kc ks 60 [(0, .ref 0)] [] SHF _
  refine AW.aload_n (dq rfl) rfl rfl ?_
  show AW l (pI pg 11) P kc ks 61 _ _ SHF _
  refine fw_get (dq rfl) (pg_ok.2.1 11 _ _ _ _ rfl) rfl (v := .ref 33) (isTA_ok rfl (rgR_ok hJ9 rfl)) ?_
  show AW l (pI pg 11) P kc ks 64 _ _ SHF _
  refine AW.aload_n (dq rfl) rfl rfl ?_
  show AW l (pI pg 11) P kc ks 65 _ _ SHF _
  refine fw_get (dq rfl) (pg_ok.2.1 11 _ _ _ _ rfl) rfl (v := .ref 17) (isTA_ok rfl (rgR_ok hJ9 rfl)) ?_
  show AW l (pI pg 11) P kc ks 68 _ _ SHF _
  refine fw_callVV (as := [.ref 17]) (dq rfl) (pg_ok.2.2.1 11 _ _ _ _ rfl) rfl (by decide +kernel) rfl rfl (c12 M1 e1 q1 M3 e3 q3 M5 e5 q5 M7 e7 q7 M9 e9 q9) (fun M11 e11 q11 => ?_)
  have hJ11 : ∀ e ∈ RRS.2, M11.2.2 e.1 e.2.1 = e.2.2 := fun e he => by rw [e11]; exact hJ9 e he
  show AW l (pI pg 11) P kc ks 71 [(0, .ref 0)] [] SHF _
  refine AW.aload_n (dq rfl) rfl rfl ?_
  show AW l (pI pg 11) P kc ks 72 _ _ SHF _
  refine fw_get (dq rfl) (pg_ok.2.1 11 _ _ _ _ rfl) rfl (v := .ref 40) (isTA_ok rfl (rgR_ok hJ11 rfl)) ?_
  show AW l (pI pg 11) P kc ks 75 _ _ SHF _
  refine fw_callVV (as := []) (dq rfl) (pg_ok.2.2.1 11 _ _ _ _ rfl) rfl (by decide +kernel) rfl rfl (c14 M1 e1 q1 M3 e3 q3 M5 e5 q5 M7 e7 q7 M9 e9 q9 M11 e11 q11) (fun M13 e13 q13 => ?_)
  have hJ13 : ∀ e ∈ RRS.2, M13.2.2 e.1 e.2.1 = e.2.2 := fun e he => by rw [e13]; exact hJ11 e he
  show AW l (pI pg 11) P kc ks 78 [(0, .ref 0)] [] SHF _
  refine AW.aload_n (dq rfl) rfl rfl ?_
  show AW l (pI pg 11) P kc ks 79 _ _ SHF _
  refine fw_get (dq rfl) (pg_ok.2.1 11 _ _ _ _ rfl) rfl (v := .ref 45) (isTA_ok rfl (rgR_ok hJ13 rfl)) ?_
  show AW l (pI pg 11) P kc ks 82 _ _ SHF _
  refine fw_callVV (as := []) (dq rfl) (pg_ok.2.2.1 11 _ _ _ _ rfl) rfl (by decide +kernel) rfl rfl (c16 M1 e1 q1 M3 e3 q3 M5 e5 q5 M7 e7 q7 M9 e9 q9 M11 e11 q11 M13 e13 q13) (fun M15 e15 q15 => ?_)
  have hJ15 : ∀ e ∈ RRS.2, M15.2.2 e.1 e.2.1 = e.2.2 := fun e he => by rw [e15]; exact hJ13 e he
  show AW l (pI pg 11) P kc ks 85 [(0, .ref 0)] [] SHF _
  refine AW.vret (dq rfl) rfl ?_
  exact r17 M1 e1 q1 M3 e3 q3 M5 e5 q5 M7 e7 q7 M9 e9 q9 M11 e11 q11 M13 e13 q13 M15 e15 q15

theorem livb_0 {l : aL} {P : aP} {kc ks : Nat} {M : aM} (hJ : ∀ e ∈ RRS.2, M.2.2 e.1 e.2.1 = e.2.2) (hl0 : l.1.stackTraces = false) (Q2 : Int32 → aM → Prop) (c3 : ∀ (h1 : (M.1 49 1 : Int32) < ((Int16.ofInt 200).toInt32 : Int32)), AC l (pI pg 158) (fcI M Q2) 0 0 [.ref 49, .ref 17] SHF M) (Q4 : Int32 → aM → Int32 → aM → Prop) (c5 : ∀ (h1 : (M.1 49 1 : Int32) < ((Int16.ofInt 200).toInt32 : Int32)), ∀ (y2 : Int32), ∀ (M2 : aM), ∀ (e2 : M2.2.2 = M.2.2), ∀ (q2 : Q2 y2 M2), AC l (pI pg 160) (fcI M2 (Q4 y2 M2)) 0 0 [.ref 36, .ref 17, .ref 30, .ref 49, .int (y2)] SHF M2) (k6 : ∀ (h1 : (M.1 49 1 : Int32) < ((Int16.ofInt 200).toInt32 : Int32)), ∀ (y2 : Int32), ∀ (M2 : aM), ∀ (e2 : M2.2.2 = M.2.2), ∀ (q2 : Q2 y2 M2), ∀ (y4 : Int32), ∀ (M4 : aM), ∀ (e4 : M4.2.2 = M2.2.2), ∀ (q4 : (Q4 y2 M2) y4 M4), AW l (pI pg 157) P kc ks 32 [(6, .int (Int32.ofInt 0)), (5, .int (y4)), (4, .int (y2)), (3, .ref 36), (2, .ref 30), (1, .ref 17), (0, .ref 49)] [] SHF M4) (r7 : ∀ (h1 : ¬ ((M.1 49 1 : Int32) < ((Int16.ofInt 200).toInt32 : Int32))), P (.inl none) SHF M) : AW l (pI pg 157) P kc ks 0 [(0, .ref 49), (1, .ref 17), (2, .ref 30), (3, .ref 36)] [] SHF M := by
  refine AW.aload_n (dq rfl) rfl rfl ?_
  show AW l (pI pg 157) P kc ks 1 _ _ SHF _
  refine fw_get (dq rfl) (pg_ok.2.1 157 _ _ _ _ rfl) rfl (v := .int (M.1 49 1)) rfl ?_
  show AW l (pI pg 157) P kc ks 4 _ _ SHF _
  refine AW.sipush (dq rfl) ?_
  show AW l (pI pg 157) P kc ks 7 _ _ SHF _
  refine AW.icmp_lt (dq rfl) (tgt := 11) (by decide) (fun h1 => ?_) (fun h1 => ?_)
  · have _ := h1
    refine AW.aload_n (dq rfl) rfl rfl ?_
    show AW l (pI pg 157) P kc ks 12 _ _ SHF _
    refine AW.aload_n (dq rfl) rfl rfl ?_
    show AW l (pI pg 157) P kc ks 13 _ _ SHF _
    refine fw_callVI (as := [.ref 17]) (dq rfl) (pg_ok.2.2.1 157 _ _ _ _ rfl) rfl (by decide +kernel) rfl rfl (c3 h1) (fun y2 M2 e2 q2 => ?_)
    have hJ2 : ∀ e ∈ RRS.2, M2.2.2 e.1 e.2.1 = e.2.2 := fun e he => by rw [e2]; exact hJ e he
    show AW l (pI pg 157) P kc ks 16 [(0, .ref 49), (1, .ref 17), (2, .ref 30), (3, .ref 36)] [.int (y2)] SHF _
    refine AW.istore (dq rfl) (by decide +kernel) ?_
    show AW l (pI pg 157) P kc ks 18 [(4, .int (y2)), (0, .ref 49), (1, .ref 17), (2, .ref 30), (3, .ref 36)] [] SHF _
    refine AW.aload_n (dq rfl) rfl rfl ?_
    show AW l (pI pg 157) P kc ks 19 _ _ SHF _
    refine AW.aload_n (dq rfl) rfl rfl ?_
    show AW l (pI pg 157) P kc ks 20 _ _ SHF _
    refine AW.aload_n (dq rfl) rfl rfl ?_
    show AW l (pI pg 157) P kc ks 21 _ _ SHF _
    refine AW.aload_n (dq rfl) rfl rfl ?_
    show AW l (pI pg 157) P kc ks 22 _ _ SHF _
    refine AW.iload (dq rfl) rfl ?_
    show AW l (pI pg 157) P kc ks 24 _ _ SHF _
    refine fw_callVI (as := [.ref 17, .ref 30, .ref 49, .int (y2)]) (dq rfl) (pg_ok.2.2.1 157 _ _ _ _ rfl) rfl (by decide +kernel) rfl rfl (c5 h1 y2 M2 e2 q2) (fun y4 M4 e4 q4 => ?_)
    have hJ4 : ∀ e ∈ RRS.2, M4.2.2 e.1 e.2.1 = e.2.2 := fun e he => by rw [e4]; exact hJ2 e he
    show AW l (pI pg 157) P kc ks 27 [(4, .int (y2)), (0, .ref 49), (1, .ref 17), (2, .ref 30), (3, .ref 36)] [.int (y4)] SHF _
    refine AW.istore (dq rfl) (by decide +kernel) ?_
    show AW l (pI pg 157) P kc ks 29 [(5, .int (y4)), (4, .int (y2)), (0, .ref 49), (1, .ref 17), (2, .ref 30), (3, .ref 36)] [] SHF _
    refine AW.iconst (dq rfl) ?_
    show AW l (pI pg 157) P kc ks 30 _ _ SHF _
    refine AW.istore (dq rfl) (by decide +kernel) ?_
    show AW l (pI pg 157) P kc ks 32 [(6, .int (Int32.ofInt 0)), (5, .int (y4)), (4, .int (y2)), (0, .ref 49), (1, .ref 17), (2, .ref 30), (3, .ref 36)] [] SHF _
    refine AW.drop (lv' := [(6, .int (Int32.ofInt 0)), (5, .int (y4)), (4, .int (y2)), (3, .ref 36), (2, .ref 30), (1, .ref 17), (0, .ref 49)]) (List.forall_mem_cons.mpr ⟨List.mem_of_getElem? (i := 0) rfl, List.forall_mem_cons.mpr ⟨List.mem_of_getElem? (i := 1) rfl, List.forall_mem_cons.mpr ⟨List.mem_of_getElem? (i := 2) rfl, List.forall_mem_cons.mpr ⟨List.mem_of_getElem? (i := 6) rfl, List.forall_mem_cons.mpr ⟨List.mem_of_getElem? (i := 5) rfl, List.forall_mem_cons.mpr ⟨List.mem_of_getElem? (i := 4) rfl, List.forall_mem_cons.mpr ⟨List.mem_of_getElem? (i := 3) rfl, fun _ h => absurd h List.not_mem_nil⟩⟩⟩⟩⟩⟩⟩) ?_
    exact k6 h1 y2 M2 e2 q2 y4 M4 e4 q4
  · have _ := h1
    refine AW.vret (dq rfl) rfl ?_
    exact r7 h1

theorem livb_32 {l : aL} {P : aP} {kc ks : Nat} {i : Nat} {c w : Int32} {M : aM} (hJ : ∀ e ∈ RRS.2, M.2.2 e.1 e.2.1 = e.2.2) (hl0 : l.1.stackTraces = false) (k2 : ∀ (h1 : (M.1 17 1 : Int32) ≤ (nI i : Int32)), AW l (pI pg 157) P kc ks 82 [(5, .int (c)), (4, .int (w)), (1, .ref 17), (0, .ref 49)] [] SHF M) (Q3 : Int32 → aM → Prop) (c4 : ∀ (h1 : ¬ ((M.1 17 1 : Int32) ≤ (nI i : Int32))), AC l (pI pg 112) (fcI M Q3) 0 0 [.int (c), .int (nI i)] SHF M) (Q5 : Int32 → aM → Int32 → aM → Prop) (c6 : ∀ (h1 : ¬ ((M.1 17 1 : Int32) ≤ (nI i : Int32))), ∀ (y3 : Int32), ∀ (M3 : aM), ∀ (e3 : M3.2.2 = M.2.2), ∀ (q3 : Q3 y3 M3), AC l (pI pg 28) (fcI M3 (Q5 y3 M3)) 0 0 [.ref 17, .int (y3)] SHF M3) (k8 : ∀ (h1 : ¬ ((M.1 17 1 : Int32) ≤ (nI i : Int32))), ∀ (y3 : Int32), ∀ (M3 : aM), ∀ (e3 : M3.2.2 = M.2.2), ∀ (q3 : Q3 y3 M3), ∀ (y5 : Int32), ∀ (M5 : aM), ∀ (e5 : M5.2.2 = M3.2.2), ∀ (q5 : (Q5 y3 M3) y5 M5), ∀ (h7 : (y5 : Int32) = 0), AW l (pI pg 157) P kc ks 32 [(6, .int ((nI i) + Int32.ofInt 1)), (5, .int (c)), (4, .int (w)), (3, .ref 36), (2, .ref 30), (1, .ref 17), (0, .ref 49)] [] SHF M5) (o9 : ∀ (h1 : ¬ ((M.1 17 1 : Int32) ≤ (nI i : Int32))), ∀ (y3 : Int32), ∀ (M3 : aM), ∀ (e3 : M3.2.2 = M.2.2), ∀ (q3 : Q3 y3 M3), ∀ (y5 : Int32), ∀ (M5 : aM), ∀ (e5 : M5.2.2 = M3.2.2), ∀ (q5 : (Q5 y3 M3) y5 M5), ∀ (h7 : ¬ ((y5 : Int32) = 0)), vp_in (((y3) * ((Int8.ofInt 8).toInt32)) + (nI i)) 48) (k10 : ∀ (h1 : ¬ ((M.1 17 1 : Int32) ≤ (nI i : Int32))), ∀ (y3 : Int32), ∀ (M3 : aM), ∀ (e3 : M3.2.2 = M.2.2), ∀ (q3 : Q3 y3 M3), ∀ (y5 : Int32), ∀ (M5 : aM), ∀ (e5 : M5.2.2 = M3.2.2), ∀ (q5 : (Q5 y3 M3) y5 M5), ∀ (h7 : ¬ ((y5 : Int32) = 0)), AW l (pI pg 157) P kc ks 32 [(6, .int ((nI i) + Int32.ofInt 1)), (5, .int (c)), (4, .int (w)), (3, .ref 36), (2, .ref 30), (1, .ref 17), (0, .ref 49)] [] SHF (aset M5 51 (((y3) * ((Int8.ofInt 8).toInt32)) + (nI i)).toNatClampNeg (.int (M5.1 49 1)))) : AW l (pI pg 157) P kc ks 32 [(6, .int (nI i)), (5, .int (c)), (4, .int (w)), (3, .ref 36), (2, .ref 30), (1, .ref 17), (0, .ref 49)] [] SHF M := by
  refine AW.iload (dq rfl) rfl ?_
  show AW l (pI pg 157) P kc ks 34 _ _ SHF _
  refine AW.aload_n (dq rfl) rfl rfl ?_
  show AW l (pI pg 157) P kc ks 35 _ _ SHF _
  refine fw_get (dq rfl) (pg_ok.2.1 157 _ _ _ _ rfl) rfl (v := .int (M.1 17 1)) rfl ?_
  show AW l (pI pg 157) P kc ks 38 _ _ SHF _
  refine AW.icmp_ge (dq rfl) (tgt := 82) (by decide) (fun h1 => ?_) (fun h1 => ?_)
  · have _ := h1
    refine AW.drop (lv' := [(5, .int (c)), (4, .int (w)), (1, .ref 17), (0, .ref 49)]) (List.forall_mem_cons.mpr ⟨List.mem_of_getElem? (i := 1) rfl, List.forall_mem_cons.mpr ⟨List.mem_of_getElem? (i := 2) rfl, List.forall_mem_cons.mpr ⟨List.mem_of_getElem? (i := 5) rfl, List.forall_mem_cons.mpr ⟨List.mem_of_getElem? (i := 6) rfl, fun _ h => absurd h List.not_mem_nil⟩⟩⟩⟩) ?_
    exact k2 h1
  · have _ := h1
    refine AW.iload (dq rfl) rfl ?_
    show AW l (pI pg 157) P kc ks 43 _ _ SHF _
    refine AW.iload (dq rfl) rfl ?_
    show AW l (pI pg 157) P kc ks 45 _ _ SHF _
    refine fw_callSI (as := [.int (c), .int (nI i)]) (dq rfl) (pg_ok.2.2.1 157 _ _ _ _ rfl) (by decide +kernel) rfl rfl (c4 h1) (fun y3 M3 e3 q3 => ?_)
    have hJ3 : ∀ e ∈ RRS.2, M3.2.2 e.1 e.2.1 = e.2.2 := fun e he => by rw [e3]; exact hJ e he
    show AW l (pI pg 157) P kc ks 48 [(6, .int (nI i)), (5, .int (c)), (4, .int (w)), (3, .ref 36), (2, .ref 30), (1, .ref 17), (0, .ref 49)] [.int (y3)] SHF _
    refine AW.istore (dq rfl) (by decide +kernel) ?_
    show AW l (pI pg 157) P kc ks 50 [(7, .int (y3)), (6, .int (nI i)), (5, .int (c)), (4, .int (w)), (3, .ref 36), (2, .ref 30), (1, .ref 17), (0, .ref 49)] [] SHF _
    refine AW.aload_n (dq rfl) rfl rfl ?_
    show AW l (pI pg 157) P kc ks 51 _ _ SHF _
    refine AW.iload (dq rfl) rfl ?_
    show AW l (pI pg 157) P kc ks 53 _ _ SHF _
    refine fw_callVI (as := [.int (y3)]) (dq rfl) (pg_ok.2.2.1 157 _ _ _ _ rfl) rfl (by decide +kernel) rfl rfl (c6 h1 y3 M3 e3 q3) (fun y5 M5 e5 q5 => ?_)
    have hJ5 : ∀ e ∈ RRS.2, M5.2.2 e.1 e.2.1 = e.2.2 := fun e he => by rw [e5]; exact hJ3 e he
    show AW l (pI pg 157) P kc ks 56 [(7, .int (y3)), (6, .int (nI i)), (5, .int (c)), (4, .int (w)), (3, .ref 36), (2, .ref 30), (1, .ref 17), (0, .ref 49)] [.int (y5)] SHF _
    refine AW.if_eq (dq rfl) (tgt := 76) (by decide) (fun h7 => ?_) (fun h7 => ?_)
    · have _ := h7
      refine AW.iinc (dq rfl) rfl (by decide +kernel) ?_
      show AW l (pI pg 157) P kc ks 79 [(6, .int ((nI i) + Int32.ofInt 1)), (7, .int (y3)), (5, .int (c)), (4, .int (w)), (3, .ref 36), (2, .ref 30), (1, .ref 17), (0, .ref 49)] [] SHF _
      refine AW.goto (dq rfl) (tgt := 32) (by decide) ?_
      refine AW.drop (lv' := [(6, .int ((nI i) + Int32.ofInt 1)), (5, .int (c)), (4, .int (w)), (3, .ref 36), (2, .ref 30), (1, .ref 17), (0, .ref 49)]) (List.forall_mem_cons.mpr ⟨List.mem_of_getElem? (i := 0) rfl, List.forall_mem_cons.mpr ⟨List.mem_of_getElem? (i := 2) rfl, List.forall_mem_cons.mpr ⟨List.mem_of_getElem? (i := 3) rfl, List.forall_mem_cons.mpr ⟨List.mem_of_getElem? (i := 4) rfl, List.forall_mem_cons.mpr ⟨List.mem_of_getElem? (i := 5) rfl, List.forall_mem_cons.mpr ⟨List.mem_of_getElem? (i := 6) rfl, List.forall_mem_cons.mpr ⟨List.mem_of_getElem? (i := 7) rfl, fun _ h => absurd h List.not_mem_nil⟩⟩⟩⟩⟩⟩⟩) ?_
      exact k8 h1 y3 M3 e3 q3 y5 M5 e5 q5 h7
    · have _ := h7
      refine AW.aload_n (dq rfl) rfl rfl ?_
      show AW l (pI pg 157) P kc ks 60 _ _ SHF _
      refine fw_get (dq rfl) (pg_ok.2.1 157 _ _ _ _ rfl) rfl (v := .ref 51) (isTA_ok rfl (rgR_ok hJ5 rfl)) ?_
      show AW l (pI pg 157) P kc ks 63 _ _ SHF _
      refine AW.iload (dq rfl) rfl ?_
      show AW l (pI pg 157) P kc ks 65 _ _ SHF _
      refine AW.bipush (dq rfl) ?_
      show AW l (pI pg 157) P kc ks 67 _ _ SHF _
      refine AW.imul (dq rfl) ?_
      show AW l (pI pg 157) P kc ks 68 _ _ SHF _
      refine AW.iload (dq rfl) rfl ?_
      show AW l (pI pg 157) P kc ks 70 _ _ SHF _
      refine AW.iadd (dq rfl) ?_
      show AW l (pI pg 157) P kc ks 71 _ _ SHF _
      refine AW.aload_n (dq rfl) rfl rfl ?_
      show AW l (pI pg 157) P kc ks 72 _ _ SHF _
      refine fw_get (dq rfl) (pg_ok.2.1 157 _ _ _ _ rfl) rfl (v := .int (M5.1 49 1)) rfl ?_
      show AW l (pI pg 157) P kc ks 75 _ _ SHF _
      refine AW.iast (dq rfl) rfl (o9 h1 y3 M3 e3 q3 y5 M5 e5 q5 h7) ?_
      show AW l (pI pg 157) P kc ks 76 _ _ SHF _
      refine AW.iinc (dq rfl) rfl (by decide +kernel) ?_
      show AW l (pI pg 157) P kc ks 79 [(6, .int ((nI i) + Int32.ofInt 1)), (7, .int (y3)), (5, .int (c)), (4, .int (w)), (3, .ref 36), (2, .ref 30), (1, .ref 17), (0, .ref 49)] [] SHF _
      refine AW.goto (dq rfl) (tgt := 32) (by decide) ?_
      refine AW.drop (lv' := [(6, .int ((nI i) + Int32.ofInt 1)), (5, .int (c)), (4, .int (w)), (3, .ref 36), (2, .ref 30), (1, .ref 17), (0, .ref 49)]) (List.forall_mem_cons.mpr ⟨List.mem_of_getElem? (i := 0) rfl, List.forall_mem_cons.mpr ⟨List.mem_of_getElem? (i := 2) rfl, List.forall_mem_cons.mpr ⟨List.mem_of_getElem? (i := 3) rfl, List.forall_mem_cons.mpr ⟨List.mem_of_getElem? (i := 4) rfl, List.forall_mem_cons.mpr ⟨List.mem_of_getElem? (i := 5) rfl, List.forall_mem_cons.mpr ⟨List.mem_of_getElem? (i := 6) rfl, List.forall_mem_cons.mpr ⟨List.mem_of_getElem? (i := 7) rfl, fun _ h => absurd h List.not_mem_nil⟩⟩⟩⟩⟩⟩⟩) ?_
      exact k10 h1 y3 M3 e3 q3 y5 M5 e5 q5 h7

theorem livb_82 {l : aL} {P : aP} {kc ks : Nat} {c w : Int32} {M : aM} (hJ : ∀ e ∈ RRS.2, M.2.2 e.1 e.2.1 = e.2.2) (hl0 : l.1.stackTraces = false) (o2 : ∀ (h1 : (M.1 17 3 : Int32) = 0), vp_in (M.1 49 1) 200) (r3 : ∀ (h1 : (M.1 17 3 : Int32) = 0), P (.inl none) SHF (aset (aset M 50 (M.1 49 1).toNatClampNeg (.int (((w) <<< (((Int8.ofInt 24).toInt32) &&& 31)) ||| (c)))) 49 1 (.int (((aset M 50 (M.1 49 1).toNatClampNeg (.int (((w) <<< (((Int8.ofInt 24).toInt32) &&& 31)) ||| (c)))).1 49 1) + (Int32.ofInt 1))))) (Q4 : aM → Prop) (c5 : ∀ (h1 : ¬ ((M.1 17 3 : Int32) = 0)), AC l (pI pg 162) (fcV M Q4) 0 0 [.ref 49, .ref 17] SHF M) (o6 : ∀ (h1 : ¬ ((M.1 17 3 : Int32) = 0)), ∀ (M4 : aM), ∀ (e4 : M4.2.2 = M.2.2), ∀ (q4 : Q4 M4), vp_in (M4.1 49 1) 200) (r7 : ∀ (h1 : ¬ ((M.1 17 3 : Int32) = 0)), ∀ (M4 : aM), ∀ (e4 : M4.2.2 = M.2.2), ∀ (q4 : Q4 M4), P (.inl none) SHF (aset (aset M4 50 (M4.1 49 1).toNatClampNeg (.int (((w) <<< (((Int8.ofInt 24).toInt32) &&& 31)) ||| (c)))) 49 1 (.int (((aset M4 50 (M4.1 49 1).toNatClampNeg (.int (((w) <<< (((Int8.ofInt 24).toInt32) &&& 31)) ||| (c)))).1 49 1) + (Int32.ofInt 1))))) : AW l (pI pg 157) P kc ks 82 [(5, .int (c)), (4, .int (w)), (1, .ref 17), (0, .ref 49)] [] SHF M := by
  refine AW.aload_n (dq rfl) rfl rfl ?_
  show AW l (pI pg 157) P kc ks 83 _ _ SHF _
  refine fw_get (dq rfl) (pg_ok.2.1 157 _ _ _ _ rfl) rfl (v := .int (M.1 17 3)) rfl ?_
  show AW l (pI pg 157) P kc ks 86 _ _ SHF _
  refine AW.if_eq (dq rfl) (tgt := 94) (by decide) (fun h1 => ?_) (fun h1 => ?_)
  · have _ := h1
    refine AW.aload_n (dq rfl) rfl rfl ?_
    show AW l (pI pg 157) P kc ks 95 _ _ SHF _
    refine fw_get (dq rfl) (pg_ok.2.1 157 _ _ _ _ rfl) rfl (v := .ref 50) (isTA_ok rfl (rgR_ok hJ rfl)) ?_
    show AW l (pI pg 157) P kc ks 98 _ _ SHF _
    refine AW.aload_n (dq rfl) rfl rfl ?_
    show AW l (pI pg 157) P kc ks 99 _ _ SHF _
    refine fw_get (dq rfl) (pg_ok.2.1 157 _ _ _ _ rfl) rfl (v := .int (M.1 49 1)) rfl ?_
    show AW l (pI pg 157) P kc ks 102 _ _ SHF _
    refine AW.iload (dq rfl) rfl ?_
    show AW l (pI pg 157) P kc ks 104 _ _ SHF _
    refine AW.bipush (dq rfl) ?_
    show AW l (pI pg 157) P kc ks 106 _ _ SHF _
    refine AW.ishl (dq rfl) ?_
    show AW l (pI pg 157) P kc ks 107 _ _ SHF _
    refine AW.iload (dq rfl) rfl ?_
    show AW l (pI pg 157) P kc ks 109 _ _ SHF _
    refine AW.ior (dq rfl) ?_
    show AW l (pI pg 157) P kc ks 110 _ _ SHF _
    refine AW.iast (dq rfl) rfl (o2 h1) ?_
    show AW l (pI pg 157) P kc ks 111 _ _ SHF _
    refine AW.aload_n (dq rfl) rfl rfl ?_
    show AW l (pI pg 157) P kc ks 112 _ _ SHF _
    refine AW.dup (dq rfl) rfl ?_
    show AW l (pI pg 157) P kc ks 113 _ _ SHF _
    refine fw_get (dq rfl) (pg_ok.2.1 157 _ _ _ _ rfl) rfl (v := .int ((aset M 50 (M.1 49 1).toNatClampNeg (.int (((w) <<< (((Int8.ofInt 24).toInt32) &&& 31)) ||| (c)))).1 49 1)) rfl ?_
    show AW l (pI pg 157) P kc ks 116 _ _ SHF _
    refine AW.iconst (dq rfl) ?_
    show AW l (pI pg 157) P kc ks 117 _ _ SHF _
    refine AW.iadd (dq rfl) ?_
    show AW l (pI pg 157) P kc ks 118 _ _ SHF _
    refine fw_putI (dq rfl) (pg_ok.2.1 157 _ _ _ _ rfl) rfl rfl rfl ?_
    show AW l (pI pg 157) P kc ks 121 _ _ SHF _
    refine AW.vret (dq rfl) rfl ?_
    exact r3 h1
  · have _ := h1
    refine AW.aload_n (dq rfl) rfl rfl ?_
    show AW l (pI pg 157) P kc ks 90 _ _ SHF _
    refine AW.aload_n (dq rfl) rfl rfl ?_
    show AW l (pI pg 157) P kc ks 91 _ _ SHF _
    refine fw_callVV (as := [.ref 17]) (dq rfl) (pg_ok.2.2.1 157 _ _ _ _ rfl) rfl (by decide +kernel) rfl rfl (c5 h1) (fun M4 e4 q4 => ?_)
    have hJ4 : ∀ e ∈ RRS.2, M4.2.2 e.1 e.2.1 = e.2.2 := fun e he => by rw [e4]; exact hJ e he
    show AW l (pI pg 157) P kc ks 94 [(5, .int (c)), (4, .int (w)), (1, .ref 17), (0, .ref 49)] [] SHF _
    refine AW.aload_n (dq rfl) rfl rfl ?_
    show AW l (pI pg 157) P kc ks 95 _ _ SHF _
    refine fw_get (dq rfl) (pg_ok.2.1 157 _ _ _ _ rfl) rfl (v := .ref 50) (isTA_ok rfl (rgR_ok hJ4 rfl)) ?_
    show AW l (pI pg 157) P kc ks 98 _ _ SHF _
    refine AW.aload_n (dq rfl) rfl rfl ?_
    show AW l (pI pg 157) P kc ks 99 _ _ SHF _
    refine fw_get (dq rfl) (pg_ok.2.1 157 _ _ _ _ rfl) rfl (v := .int (M4.1 49 1)) rfl ?_
    show AW l (pI pg 157) P kc ks 102 _ _ SHF _
    refine AW.iload (dq rfl) rfl ?_
    show AW l (pI pg 157) P kc ks 104 _ _ SHF _
    refine AW.bipush (dq rfl) ?_
    show AW l (pI pg 157) P kc ks 106 _ _ SHF _
    refine AW.ishl (dq rfl) ?_
    show AW l (pI pg 157) P kc ks 107 _ _ SHF _
    refine AW.iload (dq rfl) rfl ?_
    show AW l (pI pg 157) P kc ks 109 _ _ SHF _
    refine AW.ior (dq rfl) ?_
    show AW l (pI pg 157) P kc ks 110 _ _ SHF _
    refine AW.iast (dq rfl) rfl (o6 h1 M4 e4 q4) ?_
    show AW l (pI pg 157) P kc ks 111 _ _ SHF _
    refine AW.aload_n (dq rfl) rfl rfl ?_
    show AW l (pI pg 157) P kc ks 112 _ _ SHF _
    refine AW.dup (dq rfl) rfl ?_
    show AW l (pI pg 157) P kc ks 113 _ _ SHF _
    refine fw_get (dq rfl) (pg_ok.2.1 157 _ _ _ _ rfl) rfl (v := .int ((aset M4 50 (M4.1 49 1).toNatClampNeg (.int (((w) <<< (((Int8.ofInt 24).toInt32) &&& 31)) ||| (c)))).1 49 1)) rfl ?_
    show AW l (pI pg 157) P kc ks 116 _ _ SHF _
    refine AW.iconst (dq rfl) ?_
    show AW l (pI pg 157) P kc ks 117 _ _ SHF _
    refine AW.iadd (dq rfl) ?_
    show AW l (pI pg 157) P kc ks 118 _ _ SHF _
    refine fw_putI (dq rfl) (pg_ok.2.1 157 _ _ _ _ rfl) rfl rfl rfl ?_
    show AW l (pI pg 157) P kc ks 121 _ _ SHF _
    refine AW.vret (dq rfl) rfl ?_
    exact r7 h1 M4 e4 q4

theorem onnb_0 {l : aL} {P : aP} {kc ks : Nat} {x : Int32} {M : aM} (hJ : ∀ e ∈ RRS.2, M.2.2 e.1 e.2.1 = e.2.2) (hl0 : l.1.stackTraces = false) (x2 : ∀ (h1 : (x : Int32) < 0), P (.inr "java/lang/IllegalArgumentException") SHF M) (o5 : ∀ (h1 : ¬ ((x : Int32) < 0)), ∀ (h3 : (x : Int32) ≤ ((Int8.ofInt 60).toInt32 : Int32)), ∀ (h4 : (M.1 49 0 : Int32) = 0), vp_in (Int32.ofInt 2) 3) (r6 : ∀ (h1 : ¬ ((x : Int32) < 0)), ∀ (h3 : (x : Int32) ≤ ((Int8.ofInt 60).toInt32 : Int32)), ∀ (h4 : (M.1 49 0 : Int32) = 0), P (.inl (some (.int (Int32.ofInt (-1))))) SHF (aset M 57 (Int32.ofInt 2).toNatClampNeg (.int ((M.1 57 (Int32.ofInt 2).toNatClampNeg) + (Int32.ofInt 1))))) (k8 : ∀ (h1 : ¬ ((x : Int32) < 0)), ∀ (h3 : (x : Int32) ≤ ((Int8.ofInt 60).toInt32 : Int32)), ∀ (h4 : ¬ ((M.1 49 0 : Int32) = 0)), ∀ (h7 : ((M.1 49 1) + (x) : Int32) ≤ ((Int16.ofInt 200).toInt32 : Int32)), AW l (pI pg 156) P (kc + 1) (ks + 6) 60 [(2, .int (Int32.ofInt 0)), (1, .int (x)), (0, .ref 0)] [] SHF M) (o9 : ∀ (h1 : ¬ ((x : Int32) < 0)), ∀ (h3 : (x : Int32) ≤ ((Int8.ofInt 60).toInt32 : Int32)), ∀ (h4 : ¬ ((M.1 49 0 : Int32) = 0)), ∀ (h7 : ¬ (((M.1 49 1) + (x) : Int32) ≤ ((Int16.ofInt 200).toInt32 : Int32))), vp_in (Int32.ofInt 2) 3) (r10 : ∀ (h1 : ¬ ((x : Int32) < 0)), ∀ (h3 : (x : Int32) ≤ ((Int8.ofInt 60).toInt32 : Int32)), ∀ (h4 : ¬ ((M.1 49 0 : Int32) = 0)), ∀ (h7 : ¬ (((M.1 49 1) + (x) : Int32) ≤ ((Int16.ofInt 200).toInt32 : Int32))), P (.inl (some (.int (Int32.ofInt (-1))))) SHF (aset M 57 (Int32.ofInt 2).toNatClampNeg (.int ((M.1 57 (Int32.ofInt 2).toNatClampNeg) + (Int32.ofInt 1))))) (x11 : ∀ (h1 : ¬ ((x : Int32) < 0)), ∀ (h3 : ¬ ((x : Int32) ≤ ((Int8.ofInt 60).toInt32 : Int32))), P (.inr "java/lang/IllegalArgumentException") SHF M) : AW l (pI pg 156) P (kc + 1) (ks + 6) 0 [(0, .ref 0), (1, .int (x))] [] SHF M := by
  refine AW.iload_n (dq rfl) rfl ?_
  show AW l (pI pg 156) P (kc + 1) (ks + 6) 1 _ _ SHF _
  refine AW.if_lt (dq rfl) (tgt := 10) (by decide) (fun h1 => ?_) (fun h1 => ?_)
  · have _ := h1
    refine pg_ok.2.2.2.2.2.2.2.1 156 _ _ rfl _ _ _ _ _ _ _ ?_
    exact x2 h1
  · have _ := h1
    refine AW.iload_n (dq rfl) rfl ?_
    show AW l (pI pg 156) P (kc + 1) (ks + 6) 5 _ _ SHF _
    refine AW.bipush (dq rfl) ?_
    show AW l (pI pg 156) P (kc + 1) (ks + 6) 7 _ _ SHF _
    refine AW.icmp_le (dq rfl) (tgt := 21) (by decide) (fun h3 => ?_) (fun h3 => ?_)
    · have _ := h3
      refine AW.aload_n (dq rfl) rfl rfl ?_
      show AW l (pI pg 156) P (kc + 1) (ks + 6) 22 _ _ SHF _
      refine fw_get (dq rfl) (pg_ok.2.1 156 _ _ _ _ rfl) rfl (v := .ref 49) (isTA_ok rfl (rgR_ok hJ rfl)) ?_
      show AW l (pI pg 156) P (kc + 1) (ks + 6) 25 _ _ SHF _
      refine fw_get (dq rfl) (pg_ok.2.1 156 _ _ _ _ rfl) rfl (v := .int (M.1 49 0)) rfl ?_
      show AW l (pI pg 156) P (kc + 1) (ks + 6) 28 _ _ SHF _
      refine AW.if_eq (dq rfl) (tgt := 46) (by decide) (fun h4 => ?_) (fun h4 => ?_)
      · have _ := h4
        refine AW.aload_n (dq rfl) rfl rfl ?_
        show AW l (pI pg 156) P (kc + 1) (ks + 6) 47 _ _ SHF _
        refine fw_get (dq rfl) (pg_ok.2.1 156 _ _ _ _ rfl) rfl (v := .ref 57) (isTA_ok rfl (rgR_ok hJ rfl)) ?_
        show AW l (pI pg 156) P (kc + 1) (ks + 6) 50 _ _ SHF _
        refine AW.iconst (dq rfl) ?_
        show AW l (pI pg 156) P (kc + 1) (ks + 6) 51 _ _ SHF _
        refine AW.dup2_11 (dq rfl) rfl rfl ?_
        show AW l (pI pg 156) P (kc + 1) (ks + 6) 52 _ _ SHF _
        refine AW.iald (dq rfl) rfl (o5 h1 h3 h4) ?_
        show AW l (pI pg 156) P (kc + 1) (ks + 6) 53 _ _ SHF _
        refine AW.iconst (dq rfl) ?_
        show AW l (pI pg 156) P (kc + 1) (ks + 6) 54 _ _ SHF _
        refine AW.iadd (dq rfl) ?_
        show AW l (pI pg 156) P (kc + 1) (ks + 6) 55 _ _ SHF _
        refine AW.iast (dq rfl) rfl (o5 h1 h3 h4) ?_
        show AW l (pI pg 156) P (kc + 1) (ks + 6) 56 _ _ SHF _
        refine AW.iconst (dq rfl) ?_
        show AW l (pI pg 156) P (kc + 1) (ks + 6) 57 _ _ SHF _
        refine AW.iret (dq rfl) rfl ?_
        exact r6 h1 h3 h4
      · have _ := h4
        refine AW.aload_n (dq rfl) rfl rfl ?_
        show AW l (pI pg 156) P (kc + 1) (ks + 6) 32 _ _ SHF _
        refine fw_get (dq rfl) (pg_ok.2.1 156 _ _ _ _ rfl) rfl (v := .ref 49) (isTA_ok rfl (rgR_ok hJ rfl)) ?_
        show AW l (pI pg 156) P (kc + 1) (ks + 6) 35 _ _ SHF _
        refine fw_get (dq rfl) (pg_ok.2.1 156 _ _ _ _ rfl) rfl (v := .int (M.1 49 1)) rfl ?_
        show AW l (pI pg 156) P (kc + 1) (ks + 6) 38 _ _ SHF _
        refine AW.iload_n (dq rfl) rfl ?_
        show AW l (pI pg 156) P (kc + 1) (ks + 6) 39 _ _ SHF _
        refine AW.iadd (dq rfl) ?_
        show AW l (pI pg 156) P (kc + 1) (ks + 6) 40 _ _ SHF _
        refine AW.sipush (dq rfl) ?_
        show AW l (pI pg 156) P (kc + 1) (ks + 6) 43 _ _ SHF _
        refine AW.icmp_le (dq rfl) (tgt := 58) (by decide) (fun h7 => ?_) (fun h7 => ?_)
        · have _ := h7
          refine AW.iconst (dq rfl) ?_
          show AW l (pI pg 156) P (kc + 1) (ks + 6) 59 _ _ SHF _
          refine AW.istore_n (dq rfl) (by decide +kernel) ?_
          show AW l (pI pg 156) P (kc + 1) (ks + 6) 60 [(2, .int (Int32.ofInt 0)), (0, .ref 0), (1, .int (x))] [] SHF _
          refine AW.drop (lv' := [(2, .int (Int32.ofInt 0)), (1, .int (x)), (0, .ref 0)]) (List.forall_mem_cons.mpr ⟨List.mem_of_getElem? (i := 0) rfl, List.forall_mem_cons.mpr ⟨List.mem_of_getElem? (i := 2) rfl, List.forall_mem_cons.mpr ⟨List.mem_of_getElem? (i := 1) rfl, fun _ h => absurd h List.not_mem_nil⟩⟩⟩) ?_
          exact k8 h1 h3 h4 h7
        · have _ := h7
          refine AW.aload_n (dq rfl) rfl rfl ?_
          show AW l (pI pg 156) P (kc + 1) (ks + 6) 47 _ _ SHF _
          refine fw_get (dq rfl) (pg_ok.2.1 156 _ _ _ _ rfl) rfl (v := .ref 57) (isTA_ok rfl (rgR_ok hJ rfl)) ?_
          show AW l (pI pg 156) P (kc + 1) (ks + 6) 50 _ _ SHF _
          refine AW.iconst (dq rfl) ?_
          show AW l (pI pg 156) P (kc + 1) (ks + 6) 51 _ _ SHF _
          refine AW.dup2_11 (dq rfl) rfl rfl ?_
          show AW l (pI pg 156) P (kc + 1) (ks + 6) 52 _ _ SHF _
          refine AW.iald (dq rfl) rfl (o9 h1 h3 h4 h7) ?_
          show AW l (pI pg 156) P (kc + 1) (ks + 6) 53 _ _ SHF _
          refine AW.iconst (dq rfl) ?_
          show AW l (pI pg 156) P (kc + 1) (ks + 6) 54 _ _ SHF _
          refine AW.iadd (dq rfl) ?_
          show AW l (pI pg 156) P (kc + 1) (ks + 6) 55 _ _ SHF _
          refine AW.iast (dq rfl) rfl (o9 h1 h3 h4 h7) ?_
          show AW l (pI pg 156) P (kc + 1) (ks + 6) 56 _ _ SHF _
          refine AW.iconst (dq rfl) ?_
          show AW l (pI pg 156) P (kc + 1) (ks + 6) 57 _ _ SHF _
          refine AW.iret (dq rfl) rfl ?_
          exact r10 h1 h3 h4 h7
    · have _ := h3
      refine pg_ok.2.2.2.2.2.2.2.1 156 _ _ rfl _ _ _ _ _ _ _ ?_
      exact x11 h1 h3

theorem onnb_60 {l : aL} {P : aP} {kc ks : Nat} {v x : Int32} {M : aM} (hJ : ∀ e ∈ RRS.2, M.2.2 e.1 e.2.1 = e.2.2) (hl0 : l.1.stackTraces = false) (r2 : ∀ (h1 : (x : Int32) ≤ (v : Int32)), P (.inl (some (.int (M.1 49 1)))) SHF M) (Q3 : aM → Prop) (c4 : ∀ (h1 : ¬ ((x : Int32) ≤ (v : Int32))), AC l (pI pg 157) (fcV M Q3) 0 0 [.ref 49, .ref 17, .ref 30, .ref 36] SHF M) (k5 : ∀ (h1 : ¬ ((x : Int32) ≤ (v : Int32))), ∀ (M3 : aM), ∀ (e3 : M3.2.2 = M.2.2), ∀ (q3 : Q3 M3), AW l (pI pg 156) P kc ks 60 [(2, .int ((v) + Int32.ofInt 1)), (1, .int (x)), (0, .ref 0)] [] SHF M3) : AW l (pI pg 156) P kc ks 60 [(2, .int (v)), (1, .int (x)), (0, .ref 0)] [] SHF M := by
  refine AW.iload_n (dq rfl) rfl ?_
  show AW l (pI pg 156) P kc ks 61 _ _ SHF _
  refine AW.iload_n (dq rfl) rfl ?_
  show AW l (pI pg 156) P kc ks 62 _ _ SHF _
  refine AW.icmp_ge (dq rfl) (tgt := 90) (by decide) (fun h1 => ?_) (fun h1 => ?_)
  · have _ := h1
    refine AW.aload_n (dq rfl) rfl rfl ?_
    show AW l (pI pg 156) P kc ks 91 _ _ SHF _
    refine fw_get (dq rfl) (pg_ok.2.1 156 _ _ _ _ rfl) rfl (v := .ref 49) (isTA_ok rfl (rgR_ok hJ rfl)) ?_
    show AW l (pI pg 156) P kc ks 94 _ _ SHF _
    refine fw_get (dq rfl) (pg_ok.2.1 156 _ _ _ _ rfl) rfl (v := .int (M.1 49 1)) rfl ?_
    show AW l (pI pg 156) P kc ks 97 _ _ SHF _
    refine AW.iret (dq rfl) rfl ?_
    exact r2 h1
  · have _ := h1
    refine AW.aload_n (dq rfl) rfl rfl ?_
    show AW l (pI pg 156) P kc ks 66 _ _ SHF _
    refine fw_get (dq rfl) (pg_ok.2.1 156 _ _ _ _ rfl) rfl (v := .ref 49) (isTA_ok rfl (rgR_ok hJ rfl)) ?_
    show AW l (pI pg 156) P kc ks 69 _ _ SHF _
    refine AW.aload_n (dq rfl) rfl rfl ?_
    show AW l (pI pg 156) P kc ks 70 _ _ SHF _
    refine fw_get (dq rfl) (pg_ok.2.1 156 _ _ _ _ rfl) rfl (v := .ref 17) (isTA_ok rfl (rgR_ok hJ rfl)) ?_
    show AW l (pI pg 156) P kc ks 73 _ _ SHF _
    refine AW.aload_n (dq rfl) rfl rfl ?_
    show AW l (pI pg 156) P kc ks 74 _ _ SHF _
    refine fw_get (dq rfl) (pg_ok.2.1 156 _ _ _ _ rfl) rfl (v := .ref 30) (isTA_ok rfl (rgR_ok hJ rfl)) ?_
    show AW l (pI pg 156) P kc ks 77 _ _ SHF _
    refine AW.aload_n (dq rfl) rfl rfl ?_
    show AW l (pI pg 156) P kc ks 78 _ _ SHF _
    refine fw_get (dq rfl) (pg_ok.2.1 156 _ _ _ _ rfl) rfl (v := .ref 36) (isTA_ok rfl (rgR_ok hJ rfl)) ?_
    show AW l (pI pg 156) P kc ks 81 _ _ SHF _
    refine fw_callVV (as := [.ref 17, .ref 30, .ref 36]) (dq rfl) (pg_ok.2.2.1 156 _ _ _ _ rfl) rfl (by decide +kernel) rfl rfl (c4 h1) (fun M3 e3 q3 => ?_)
    have hJ3 : ∀ e ∈ RRS.2, M3.2.2 e.1 e.2.1 = e.2.2 := fun e he => by rw [e3]; exact hJ e he
    show AW l (pI pg 156) P kc ks 84 [(2, .int (v)), (1, .int (x)), (0, .ref 0)] [] SHF _
    refine AW.iinc (dq rfl) rfl (by decide +kernel) ?_
    show AW l (pI pg 156) P kc ks 87 [(2, .int ((v) + Int32.ofInt 1)), (1, .int (x)), (0, .ref 0)] [] SHF _
    refine AW.goto (dq rfl) (tgt := 60) (by decide) ?_
    refine AW.drop (lv' := [(2, .int ((v) + Int32.ofInt 1)), (1, .int (x)), (0, .ref 0)]) (List.forall_mem_cons.mpr ⟨List.mem_of_getElem? (i := 0) rfl, List.forall_mem_cons.mpr ⟨List.mem_of_getElem? (i := 1) rfl, List.forall_mem_cons.mpr ⟨List.mem_of_getElem? (i := 2) rfl, fun _ h => absurd h List.not_mem_nil⟩⟩⟩) ?_
    exact k5 h1 M3 e3 q3

def RW : List (Nat × Nat × Nat) := [(49, 3, 51), (49, 4, 52), (49, 5, 53), (53, 3, 55), (53, 4, 56), (53, 5, 57), (0, 10, 50), (0, 11, 54)]
theorem bec53_0 {l : aL} {P : aP} {kc ks : Nat} {M : aM} (hJ : ∀ e ∈ RW, M.2.2 e.1 e.2.1 = e.2.2)  (z1 : M.1 49 0 = 0 ∨ M.1 49 0 = 1) (r2 : P (.inl none) SHF (acpy (acpy (acpy (aset (aset (aset M 53 0 (.int (M.1 49 0))) 53 1 (.int ((aset M 53 0 (.int (M.1 49 0))).1 49 1))) 53 2 (.int ((aset (aset M 53 0 (.int (M.1 49 0))) 53 1 (.int ((aset M 53 0 (.int (M.1 49 0))).1 49 1))).1 49 2))) 50 54 (Int32.ofInt 0).toNatClampNeg (Int32.ofInt 0).toNatClampNeg ((Int16.ofInt 200).toInt32).toNatClampNeg) 51 55 (Int32.ofInt 0).toNatClampNeg (Int32.ofInt 0).toNatClampNeg (Int32.ofNat 48).toNatClampNeg) 52 56 (Int32.ofInt 0).toNatClampNeg (Int32.ofInt 0).toNatClampNeg ((Int8.ofInt 6).toInt32).toNatClampNeg)) : AW l (pI pg 36) P kc ks 0 [(0, .ref 53), (1, .ref 49)] [] SHF M := by
  refine AW.aload_n (dq rfl) rfl rfl ?_
  show AW l (pI pg 36) P kc ks 1 _ _ SHF _
  refine AW.aload_n (dq rfl) rfl rfl ?_
  show AW l (pI pg 36) P kc ks 2 _ _ SHF _
  refine fw_get (dq rfl) (pg_ok.2.1 36 _ _ _ _ rfl) rfl (v := .int (M.1 49 0)) rfl ?_
  show AW l (pI pg 36) P kc ks 5 _ _ SHF _
  refine fw_putZ (dq rfl) (pg_ok.2.1 36 _ _ _ _ rfl) rfl rfl rfl (z1) ?_
  show AW l (pI pg 36) P kc ks 8 _ _ SHF _
  refine AW.aload_n (dq rfl) rfl rfl ?_
  show AW l (pI pg 36) P kc ks 9 _ _ SHF _
  refine AW.aload_n (dq rfl) rfl rfl ?_
  show AW l (pI pg 36) P kc ks 10 _ _ SHF _
  refine fw_get (dq rfl) (pg_ok.2.1 36 _ _ _ _ rfl) rfl (v := .int ((aset M 53 0 (.int (M.1 49 0))).1 49 1)) rfl ?_
  show AW l (pI pg 36) P kc ks 13 _ _ SHF _
  refine fw_putI (dq rfl) (pg_ok.2.1 36 _ _ _ _ rfl) rfl rfl rfl ?_
  show AW l (pI pg 36) P kc ks 16 _ _ SHF _
  refine AW.aload_n (dq rfl) rfl rfl ?_
  show AW l (pI pg 36) P kc ks 17 _ _ SHF _
  refine AW.aload_n (dq rfl) rfl rfl ?_
  show AW l (pI pg 36) P kc ks 18 _ _ SHF _
  refine fw_get (dq rfl) (pg_ok.2.1 36 _ _ _ _ rfl) rfl (v := .int ((aset (aset M 53 0 (.int (M.1 49 0))) 53 1 (.int ((aset M 53 0 (.int (M.1 49 0))).1 49 1))).1 49 2)) rfl ?_
  show AW l (pI pg 36) P kc ks 21 _ _ SHF _
  refine fw_putI (dq rfl) (pg_ok.2.1 36 _ _ _ _ rfl) rfl rfl rfl ?_
  show AW l (pI pg 36) P kc ks 24 _ _ SHF _
  refine AW.aload_n (dq rfl) rfl rfl ?_
  show AW l (pI pg 36) P kc ks 25 _ _ SHF _
  refine fw_get (dq rfl) (pg_ok.2.1 36 _ _ _ _ rfl) rfl (v := .ref 50) (isTA_ok rfl (rgR_ok hJ rfl)) ?_
  show AW l (pI pg 36) P kc ks 28 _ _ SHF _
  refine AW.iconst (dq rfl) ?_
  show AW l (pI pg 36) P kc ks 29 _ _ SHF _
  refine AW.aload_n (dq rfl) rfl rfl ?_
  show AW l (pI pg 36) P kc ks 30 _ _ SHF _
  refine fw_get (dq rfl) (pg_ok.2.1 36 _ _ _ _ rfl) rfl (v := .ref 54) (isTA_ok rfl (rgR_ok hJ rfl)) ?_
  show AW l (pI pg 36) P kc ks 33 _ _ SHF _
  refine AW.iconst (dq rfl) ?_
  show AW l (pI pg 36) P kc ks 34 _ _ SHF _
  refine AW.sipush (dq rfl) ?_
  show AW l (pI pg 36) P kc ks 37 _ _ SHF _
  refine AW.copyi (i := 50) (j := 54) (n0 := 200) (n1 := 200) (sp := Int32.ofInt 0) (dp := Int32.ofInt 0) (k := (Int16.ofInt 200).toInt32) (dq rfl) ((pg_ok.2.2.1 36 _ _ _ _ rfl).2.2.2.2.2.1 rfl) rfl rfl (by decide) (by decide) (by decide) (by decide) (by decide) (by decide +kernel) (by decide +kernel) ?_
  show AW l (pI pg 36) P kc ks 40 [(0, .ref 53), (1, .ref 49)] [] SHF _
  refine AW.aload_n (dq rfl) rfl rfl ?_
  show AW l (pI pg 36) P kc ks 41 _ _ SHF _
  refine fw_get (dq rfl) (pg_ok.2.1 36 _ _ _ _ rfl) rfl (v := .ref 51) (isTA_ok rfl (rgR_ok hJ rfl)) ?_
  show AW l (pI pg 36) P kc ks 44 _ _ SHF _
  refine AW.iconst (dq rfl) ?_
  show AW l (pI pg 36) P kc ks 45 _ _ SHF _
  refine AW.aload_n (dq rfl) rfl rfl ?_
  show AW l (pI pg 36) P kc ks 46 _ _ SHF _
  refine fw_get (dq rfl) (pg_ok.2.1 36 _ _ _ _ rfl) rfl (v := .ref 55) (isTA_ok rfl (rgR_ok hJ rfl)) ?_
  show AW l (pI pg 36) P kc ks 49 _ _ SHF _
  refine AW.iconst (dq rfl) ?_
  show AW l (pI pg 36) P kc ks 50 _ _ SHF _
  refine AW.aload_n (dq rfl) rfl rfl ?_
  show AW l (pI pg 36) P kc ks 51 _ _ SHF _
  refine fw_get (dq rfl) (pg_ok.2.1 36 _ _ _ _ rfl) rfl (v := .ref 55) (isTA_ok rfl (rgR_ok hJ rfl)) ?_
  show AW l (pI pg 36) P kc ks 54 _ _ SHF _
  refine AW.alen (dq rfl) rfl ?_
  show AW l (pI pg 36) P kc ks 55 _ _ SHF _
  refine AW.copyi (i := 51) (j := 55) (n0 := 48) (n1 := 48) (sp := Int32.ofInt 0) (dp := Int32.ofInt 0) (k := Int32.ofNat 48) (dq rfl) ((pg_ok.2.2.1 36 _ _ _ _ rfl).2.2.2.2.2.1 rfl) rfl rfl (by decide) (by decide) (by decide) (by decide) (by decide) (by decide +kernel) (by decide +kernel) ?_
  show AW l (pI pg 36) P kc ks 58 [(0, .ref 53), (1, .ref 49)] [] SHF _
  refine AW.aload_n (dq rfl) rfl rfl ?_
  show AW l (pI pg 36) P kc ks 59 _ _ SHF _
  refine fw_get (dq rfl) (pg_ok.2.1 36 _ _ _ _ rfl) rfl (v := .ref 52) (isTA_ok rfl (rgR_ok hJ rfl)) ?_
  show AW l (pI pg 36) P kc ks 62 _ _ SHF _
  refine AW.iconst (dq rfl) ?_
  show AW l (pI pg 36) P kc ks 63 _ _ SHF _
  refine AW.aload_n (dq rfl) rfl rfl ?_
  show AW l (pI pg 36) P kc ks 64 _ _ SHF _
  refine fw_get (dq rfl) (pg_ok.2.1 36 _ _ _ _ rfl) rfl (v := .ref 56) (isTA_ok rfl (rgR_ok hJ rfl)) ?_
  show AW l (pI pg 36) P kc ks 67 _ _ SHF _
  refine AW.iconst (dq rfl) ?_
  show AW l (pI pg 36) P kc ks 68 _ _ SHF _
  refine AW.bipush (dq rfl) ?_
  show AW l (pI pg 36) P kc ks 70 _ _ SHF _
  refine AW.copyi (i := 52) (j := 56) (n0 := 6) (n1 := 6) (sp := Int32.ofInt 0) (dp := Int32.ofInt 0) (k := (Int8.ofInt 6).toInt32) (dq rfl) ((pg_ok.2.2.1 36 _ _ _ _ rfl).2.2.2.2.2.1 rfl) rfl rfl (by decide) (by decide) (by decide) (by decide) (by decide) (by decide +kernel) (by decide +kernel) ?_
  show AW l (pI pg 36) P kc ks 73 [(0, .ref 53), (1, .ref 49)] [] SHF _
  refine AW.vret (dq rfl) rfl ?_
  exact r2

theorem bec49_0 {l : aL} {P : aP} {kc ks : Nat} {M : aM} (hJ : ∀ e ∈ RW, M.2.2 e.1 e.2.1 = e.2.2)  (z1 : M.1 53 0 = 0 ∨ M.1 53 0 = 1) (r2 : P (.inl none) SHF (acpy (acpy (acpy (aset (aset (aset M 49 0 (.int (M.1 53 0))) 49 1 (.int ((aset M 49 0 (.int (M.1 53 0))).1 53 1))) 49 2 (.int ((aset (aset M 49 0 (.int (M.1 53 0))) 49 1 (.int ((aset M 49 0 (.int (M.1 53 0))).1 53 1))).1 53 2))) 54 50 (Int32.ofInt 0).toNatClampNeg (Int32.ofInt 0).toNatClampNeg ((Int16.ofInt 200).toInt32).toNatClampNeg) 55 51 (Int32.ofInt 0).toNatClampNeg (Int32.ofInt 0).toNatClampNeg (Int32.ofNat 48).toNatClampNeg) 56 52 (Int32.ofInt 0).toNatClampNeg (Int32.ofInt 0).toNatClampNeg ((Int8.ofInt 6).toInt32).toNatClampNeg)) : AW l (pI pg 36) P kc ks 0 [(0, .ref 49), (1, .ref 53)] [] SHF M := by
  refine AW.aload_n (dq rfl) rfl rfl ?_
  show AW l (pI pg 36) P kc ks 1 _ _ SHF _
  refine AW.aload_n (dq rfl) rfl rfl ?_
  show AW l (pI pg 36) P kc ks 2 _ _ SHF _
  refine fw_get (dq rfl) (pg_ok.2.1 36 _ _ _ _ rfl) rfl (v := .int (M.1 53 0)) rfl ?_
  show AW l (pI pg 36) P kc ks 5 _ _ SHF _
  refine fw_putZ (dq rfl) (pg_ok.2.1 36 _ _ _ _ rfl) rfl rfl rfl (z1) ?_
  show AW l (pI pg 36) P kc ks 8 _ _ SHF _
  refine AW.aload_n (dq rfl) rfl rfl ?_
  show AW l (pI pg 36) P kc ks 9 _ _ SHF _
  refine AW.aload_n (dq rfl) rfl rfl ?_
  show AW l (pI pg 36) P kc ks 10 _ _ SHF _
  refine fw_get (dq rfl) (pg_ok.2.1 36 _ _ _ _ rfl) rfl (v := .int ((aset M 49 0 (.int (M.1 53 0))).1 53 1)) rfl ?_
  show AW l (pI pg 36) P kc ks 13 _ _ SHF _
  refine fw_putI (dq rfl) (pg_ok.2.1 36 _ _ _ _ rfl) rfl rfl rfl ?_
  show AW l (pI pg 36) P kc ks 16 _ _ SHF _
  refine AW.aload_n (dq rfl) rfl rfl ?_
  show AW l (pI pg 36) P kc ks 17 _ _ SHF _
  refine AW.aload_n (dq rfl) rfl rfl ?_
  show AW l (pI pg 36) P kc ks 18 _ _ SHF _
  refine fw_get (dq rfl) (pg_ok.2.1 36 _ _ _ _ rfl) rfl (v := .int ((aset (aset M 49 0 (.int (M.1 53 0))) 49 1 (.int ((aset M 49 0 (.int (M.1 53 0))).1 53 1))).1 53 2)) rfl ?_
  show AW l (pI pg 36) P kc ks 21 _ _ SHF _
  refine fw_putI (dq rfl) (pg_ok.2.1 36 _ _ _ _ rfl) rfl rfl rfl ?_
  show AW l (pI pg 36) P kc ks 24 _ _ SHF _
  refine AW.aload_n (dq rfl) rfl rfl ?_
  show AW l (pI pg 36) P kc ks 25 _ _ SHF _
  refine fw_get (dq rfl) (pg_ok.2.1 36 _ _ _ _ rfl) rfl (v := .ref 54) (isTA_ok rfl (rgR_ok hJ rfl)) ?_
  show AW l (pI pg 36) P kc ks 28 _ _ SHF _
  refine AW.iconst (dq rfl) ?_
  show AW l (pI pg 36) P kc ks 29 _ _ SHF _
  refine AW.aload_n (dq rfl) rfl rfl ?_
  show AW l (pI pg 36) P kc ks 30 _ _ SHF _
  refine fw_get (dq rfl) (pg_ok.2.1 36 _ _ _ _ rfl) rfl (v := .ref 50) (isTA_ok rfl (rgR_ok hJ rfl)) ?_
  show AW l (pI pg 36) P kc ks 33 _ _ SHF _
  refine AW.iconst (dq rfl) ?_
  show AW l (pI pg 36) P kc ks 34 _ _ SHF _
  refine AW.sipush (dq rfl) ?_
  show AW l (pI pg 36) P kc ks 37 _ _ SHF _
  refine AW.copyi (i := 54) (j := 50) (n0 := 200) (n1 := 200) (sp := Int32.ofInt 0) (dp := Int32.ofInt 0) (k := (Int16.ofInt 200).toInt32) (dq rfl) ((pg_ok.2.2.1 36 _ _ _ _ rfl).2.2.2.2.2.1 rfl) rfl rfl (by decide) (by decide) (by decide) (by decide) (by decide) (by decide +kernel) (by decide +kernel) ?_
  show AW l (pI pg 36) P kc ks 40 [(0, .ref 49), (1, .ref 53)] [] SHF _
  refine AW.aload_n (dq rfl) rfl rfl ?_
  show AW l (pI pg 36) P kc ks 41 _ _ SHF _
  refine fw_get (dq rfl) (pg_ok.2.1 36 _ _ _ _ rfl) rfl (v := .ref 55) (isTA_ok rfl (rgR_ok hJ rfl)) ?_
  show AW l (pI pg 36) P kc ks 44 _ _ SHF _
  refine AW.iconst (dq rfl) ?_
  show AW l (pI pg 36) P kc ks 45 _ _ SHF _
  refine AW.aload_n (dq rfl) rfl rfl ?_
  show AW l (pI pg 36) P kc ks 46 _ _ SHF _
  refine fw_get (dq rfl) (pg_ok.2.1 36 _ _ _ _ rfl) rfl (v := .ref 51) (isTA_ok rfl (rgR_ok hJ rfl)) ?_
  show AW l (pI pg 36) P kc ks 49 _ _ SHF _
  refine AW.iconst (dq rfl) ?_
  show AW l (pI pg 36) P kc ks 50 _ _ SHF _
  refine AW.aload_n (dq rfl) rfl rfl ?_
  show AW l (pI pg 36) P kc ks 51 _ _ SHF _
  refine fw_get (dq rfl) (pg_ok.2.1 36 _ _ _ _ rfl) rfl (v := .ref 51) (isTA_ok rfl (rgR_ok hJ rfl)) ?_
  show AW l (pI pg 36) P kc ks 54 _ _ SHF _
  refine AW.alen (dq rfl) rfl ?_
  show AW l (pI pg 36) P kc ks 55 _ _ SHF _
  refine AW.copyi (i := 55) (j := 51) (n0 := 48) (n1 := 48) (sp := Int32.ofInt 0) (dp := Int32.ofInt 0) (k := Int32.ofNat 48) (dq rfl) ((pg_ok.2.2.1 36 _ _ _ _ rfl).2.2.2.2.2.1 rfl) rfl rfl (by decide) (by decide) (by decide) (by decide) (by decide) (by decide +kernel) (by decide +kernel) ?_
  show AW l (pI pg 36) P kc ks 58 [(0, .ref 49), (1, .ref 53)] [] SHF _
  refine AW.aload_n (dq rfl) rfl rfl ?_
  show AW l (pI pg 36) P kc ks 59 _ _ SHF _
  refine fw_get (dq rfl) (pg_ok.2.1 36 _ _ _ _ rfl) rfl (v := .ref 56) (isTA_ok rfl (rgR_ok hJ rfl)) ?_
  show AW l (pI pg 36) P kc ks 62 _ _ SHF _
  refine AW.iconst (dq rfl) ?_
  show AW l (pI pg 36) P kc ks 63 _ _ SHF _
  refine AW.aload_n (dq rfl) rfl rfl ?_
  show AW l (pI pg 36) P kc ks 64 _ _ SHF _
  refine fw_get (dq rfl) (pg_ok.2.1 36 _ _ _ _ rfl) rfl (v := .ref 52) (isTA_ok rfl (rgR_ok hJ rfl)) ?_
  show AW l (pI pg 36) P kc ks 67 _ _ SHF _
  refine AW.iconst (dq rfl) ?_
  show AW l (pI pg 36) P kc ks 68 _ _ SHF _
  refine AW.bipush (dq rfl) ?_
  show AW l (pI pg 36) P kc ks 70 _ _ SHF _
  refine AW.copyi (i := 56) (j := 52) (n0 := 6) (n1 := 6) (sp := Int32.ofInt 0) (dp := Int32.ofInt 0) (k := (Int8.ofInt 6).toInt32) (dq rfl) ((pg_ok.2.2.1 36 _ _ _ _ rfl).2.2.2.2.2.1 rfl) rfl rfl (by decide) (by decide) (by decide) (by decide) (by decide) (by decide +kernel) (by decide +kernel) ?_
  show AW l (pI pg 36) P kc ks 73 [(0, .ref 49), (1, .ref 53)] [] SHF _
  refine AW.vret (dq rfl) rfl ?_
  exact r2

theorem img_0 {l : aL} {P : aP} {kc ks : Nat} {M : aM} (hJ : ∀ e ∈ RW, M.2.2 e.1 e.2.1 = e.2.2)  (Q2 : aM → Prop) (c3 : ∀ (h1 : ¬ (M.1 49 0 : Int32) = 0), AC l (pI pg 36) (fcV M Q2) 0 0 [.ref 53, .ref 49] SHF M) (r4 : ∀ (h1 : ¬ (M.1 49 0 : Int32) = 0), ∀ (M2 : aM), ∀ (e2 : M2.2.2 = M.2.2), ∀ (q2 : Q2 M2), P (.inl (some (.int (Int32.ofInt 1)))) SHF M2) (r5 : ∀ (h1 : (M.1 49 0 : Int32) = 0), P (.inl (some (.int (Int32.ofInt 0)))) SHF M) : AW l (pI pg 35) P kc ks 0 [(0, .ref 0)] [] SHF M := by
  refine AW.aload_n (dq rfl) rfl rfl ?_
  show AW l (pI pg 35) P kc ks 1 _ _ SHF _
  refine fw_get (dq rfl) (pg_ok.2.1 35 _ _ _ _ rfl) rfl (v := .ref 49) (isTA_ok rfl (rgR_ok hJ rfl)) ?_
  show AW l (pI pg 35) P kc ks 4 _ _ SHF _
  refine fw_get (dq rfl) (pg_ok.2.1 35 _ _ _ _ rfl) rfl (v := .int (M.1 49 0)) rfl ?_
  show AW l (pI pg 35) P kc ks 7 _ _ SHF _
  refine AW.if_ne (dq rfl) (tgt := 12) (by decide) (fun h1 => ?_) (fun h1 => ?_)
  · have _ := h1
    refine AW.aload_n (dq rfl) rfl rfl ?_
    show AW l (pI pg 35) P kc ks 13 _ _ SHF _
    refine fw_get (dq rfl) (pg_ok.2.1 35 _ _ _ _ rfl) rfl (v := .ref 53) (isTA_ok rfl (rgR_ok hJ rfl)) ?_
    show AW l (pI pg 35) P kc ks 16 _ _ SHF _
    refine AW.aload_n (dq rfl) rfl rfl ?_
    show AW l (pI pg 35) P kc ks 17 _ _ SHF _
    refine fw_get (dq rfl) (pg_ok.2.1 35 _ _ _ _ rfl) rfl (v := .ref 49) (isTA_ok rfl (rgR_ok hJ rfl)) ?_
    show AW l (pI pg 35) P kc ks 20 _ _ SHF _
    refine fw_callVV (as := [.ref 49]) (dq rfl) (pg_ok.2.2.1 35 _ _ _ _ rfl) rfl (by decide +kernel) rfl rfl (c3 h1) (fun M2 e2 q2 => ?_)
    have hJ2 : ∀ e ∈ RW, M2.2.2 e.1 e.2.1 = e.2.2 := fun e he => by rw [e2]; exact hJ e he
    show AW l (pI pg 35) P kc ks 23 [(0, .ref 0)] [] SHF _
    refine AW.iconst (dq rfl) ?_
    show AW l (pI pg 35) P kc ks 24 _ _ SHF _
    refine AW.zret (dq rfl) rfl (by decide) ?_
    exact r4 h1 M2 e2 q2
  · have _ := h1
    refine AW.iconst (dq rfl) ?_
    show AW l (pI pg 35) P kc ks 11 _ _ SHF _
    refine AW.zret (dq rfl) rfl (by decide) ?_
    exact r5 h1

theorem rst_0 {l : aL} {P : aP} {kc ks : Nat} {M : aM} (hJ : ∀ e ∈ RW, M.2.2 e.1 e.2.1 = e.2.2)  (Q2 : aM → Prop) (c3 : ∀ (h1 : ¬ (M.1 53 0 : Int32) = 0), AC l (pI pg 36) (fcV M Q2) 0 0 [.ref 49, .ref 53] SHF M) (r4 : ∀ (h1 : ¬ (M.1 53 0 : Int32) = 0), ∀ (M2 : aM), ∀ (e2 : M2.2.2 = M.2.2), ∀ (q2 : Q2 M2), P (.inl (some (.int (Int32.ofInt 1)))) SHF M2) (r5 : ∀ (h1 : (M.1 53 0 : Int32) = 0), P (.inl (some (.int (Int32.ofInt 0)))) SHF M) : AW l (pI pg 37) P kc ks 0 [(0, .ref 0)] [] SHF M := by
  refine AW.aload_n (dq rfl) rfl rfl ?_
  show AW l (pI pg 37) P kc ks 1 _ _ SHF _
  refine fw_get (dq rfl) (pg_ok.2.1 37 _ _ _ _ rfl) rfl (v := .ref 53) (isTA_ok rfl (rgR_ok hJ rfl)) ?_
  show AW l (pI pg 37) P kc ks 4 _ _ SHF _
  refine fw_get (dq rfl) (pg_ok.2.1 37 _ _ _ _ rfl) rfl (v := .int (M.1 53 0)) rfl ?_
  show AW l (pI pg 37) P kc ks 7 _ _ SHF _
  refine AW.if_ne (dq rfl) (tgt := 12) (by decide) (fun h1 => ?_) (fun h1 => ?_)
  · have _ := h1
    refine AW.aload_n (dq rfl) rfl rfl ?_
    show AW l (pI pg 37) P kc ks 13 _ _ SHF _
    refine fw_get (dq rfl) (pg_ok.2.1 37 _ _ _ _ rfl) rfl (v := .ref 49) (isTA_ok rfl (rgR_ok hJ rfl)) ?_
    show AW l (pI pg 37) P kc ks 16 _ _ SHF _
    refine AW.aload_n (dq rfl) rfl rfl ?_
    show AW l (pI pg 37) P kc ks 17 _ _ SHF _
    refine fw_get (dq rfl) (pg_ok.2.1 37 _ _ _ _ rfl) rfl (v := .ref 53) (isTA_ok rfl (rgR_ok hJ rfl)) ?_
    show AW l (pI pg 37) P kc ks 20 _ _ SHF _
    refine fw_callVV (as := [.ref 53]) (dq rfl) (pg_ok.2.2.1 37 _ _ _ _ rfl) rfl (by decide +kernel) rfl rfl (c3 h1) (fun M2 e2 q2 => ?_)
    have hJ2 : ∀ e ∈ RW, M2.2.2 e.1 e.2.1 = e.2.2 := fun e he => by rw [e2]; exact hJ e he
    show AW l (pI pg 37) P kc ks 23 [(0, .ref 0)] [] SHF _
    refine AW.iconst (dq rfl) ?_
    show AW l (pI pg 37) P kc ks 24 _ _ SHF _
    refine AW.zret (dq rfl) rfl (by decide) ?_
    exact r4 h1 M2 e2 q2
  · have _ := h1
    refine AW.iconst (dq rfl) ?_
    show AW l (pI pg 37) P kc ks 11 _ _ SHF _
    refine AW.zret (dq rfl) rfl (by decide) ?_
    exact r5 h1

theorem plo_0 {l : aL} {P : aP} {kc ks : Nat} {x : Int32} {M : aM}   (r1 : P (.inl (some (.int ((Int32.ofInt 3) * (((Int8.ofInt 7).toInt32) - (x)))))) SHF M) : AW l (pI pg 104) P kc ks 0 [(0, .int (x))] [] SHF M := by
  refine AW.iconst (dq rfl) ?_
  show AW l (pI pg 104) P kc ks 1 _ _ SHF _
  refine AW.bipush (dq rfl) ?_
  show AW l (pI pg 104) P kc ks 3 _ _ SHF _
  refine AW.iload_n (dq rfl) rfl ?_
  show AW l (pI pg 104) P kc ks 4 _ _ SHF _
  refine AW.isub (dq rfl) ?_
  show AW l (pI pg 104) P kc ks 5 _ _ SHF _
  refine AW.imul (dq rfl) ?_
  show AW l (pI pg 104) P kc ks 6 _ _ SHF _
  refine AW.iret (dq rfl) rfl ?_
  exact r1

theorem din_0 {l : aL} {P : aP} {kc ks : Nat} {x y : Int32} {M : aM}   (Q1 : Int32 → aM → Prop) (c2 : AC l (pI pg 104) (fcI M Q1) 0 0 [.int (y)] SHF M) (r4 : ∀ (y1 : Int32), ∀ (M1 : aM), ∀ (e1 : M1.2.2 = M.2.2), ∀ (q1 : Q1 y1 M1), ∀ (h3 : ¬ (((x) >>> ((y1) &&& 31)) &&& ((Int8.ofInt 7).toInt32) : Int32) = 0), P (.inl (some (.int (((Int8.ofInt 7).toInt32) - (((x) >>> ((y1) &&& 31)) &&& ((Int8.ofInt 7).toInt32)))))) SHF M1) (r5 : ∀ (y1 : Int32), ∀ (M1 : aM), ∀ (e1 : M1.2.2 = M.2.2), ∀ (q1 : Q1 y1 M1), ∀ (h3 : (((x) >>> ((y1) &&& 31)) &&& ((Int8.ofInt 7).toInt32) : Int32) = 0), P (.inl (some (.int (Int32.ofInt (-1))))) SHF M1) : AW l (pI pg 112) P kc ks 0 [(0, .int (x)), (1, .int (y))] [] SHF M := by
  refine AW.iload_n (dq rfl) rfl ?_
  show AW l (pI pg 112) P kc ks 1 _ _ SHF _
  refine AW.iload_n (dq rfl) rfl ?_
  show AW l (pI pg 112) P kc ks 2 _ _ SHF _
  refine fw_callSI (as := [.int (y)]) (dq rfl) (pg_ok.2.2.1 112 _ _ _ _ rfl) (by decide +kernel) rfl rfl (c2) (fun y1 M1 e1 q1 => ?_)
  show AW l (pI pg 112) P kc ks 5 [(0, .int (x)), (1, .int (y))] [.int (y1), .int (x)] SHF _
  refine AW.ishr (dq rfl) ?_
  show AW l (pI pg 112) P kc ks 6 _ _ SHF _
  refine AW.bipush (dq rfl) ?_
  show AW l (pI pg 112) P kc ks 8 _ _ SHF _
  refine AW.iand (dq rfl) ?_
  show AW l (pI pg 112) P kc ks 9 _ _ SHF _
  refine AW.istore_n (dq rfl) (by decide +kernel) ?_
  show AW l (pI pg 112) P kc ks 10 [(2, .int (((x) >>> ((y1) &&& 31)) &&& ((Int8.ofInt 7).toInt32))), (0, .int (x)), (1, .int (y))] [] SHF _
  refine AW.iload_n (dq rfl) rfl ?_
  show AW l (pI pg 112) P kc ks 11 _ _ SHF _
  refine AW.if_ne (dq rfl) (tgt := 18) (by decide) (fun h3 => ?_) (fun h3 => ?_)
  · have _ := h3
    refine AW.bipush (dq rfl) ?_
    show AW l (pI pg 112) P kc ks 20 _ _ SHF _
    refine AW.iload_n (dq rfl) rfl ?_
    show AW l (pI pg 112) P kc ks 21 _ _ SHF _
    refine AW.isub (dq rfl) ?_
    show AW l (pI pg 112) P kc ks 22 _ _ SHF _
    refine AW.iret (dq rfl) rfl ?_
    exact r4 y1 M1 e1 q1 h3
  · have _ := h3
    refine AW.iconst (dq rfl) ?_
    show AW l (pI pg 112) P kc ks 15 _ _ SHF _
    refine AW.goto (dq rfl) (tgt := 22) (by decide) ?_
    refine AW.iret (dq rfl) rfl ?_
    exact r5 y1 M1 e1 q1 h3

theorem coq85_0 {l : aL} {P : aP} {kc ks : Nat} {M : aM}   (k1 : AW l (pI pg 192) P kc ks 2 [(3, .int (Int32.ofInt 0)), (1, .ref 85), (2, .ref 89)] [] SHF M) : AW l (pI pg 192) P kc ks 0 [(0, .ref 58), (1, .ref 85), (2, .ref 89)] [] SHF M := by
  refine AW.iconst (dq rfl) ?_
  show AW l (pI pg 192) P kc ks 1 _ _ SHF _
  refine AW.istore_n (dq rfl) (by decide +kernel) ?_
  show AW l (pI pg 192) P kc ks 2 [(3, .int (Int32.ofInt 0)), (0, .ref 58), (1, .ref 85), (2, .ref 89)] [] SHF _
  refine AW.drop (lv' := [(3, .int (Int32.ofInt 0)), (1, .ref 85), (2, .ref 89)]) (List.forall_mem_cons.mpr ⟨List.mem_of_getElem? (i := 0) rfl, List.forall_mem_cons.mpr ⟨List.mem_of_getElem? (i := 2) rfl, List.forall_mem_cons.mpr ⟨List.mem_of_getElem? (i := 3) rfl, fun _ h => absurd h List.not_mem_nil⟩⟩⟩) ?_
  exact k1

theorem coq85_2 {l : aL} {P : aP} {kc ks : Nat} {i : Nat} {M : aM}   (r2 : ∀ (h1 : (Int32.ofNat 6 : Int32) ≤ (nI i : Int32)), P (.inl none) SHF M) (o3 : ∀ (h1 : ¬ ((Int32.ofNat 6 : Int32) ≤ (nI i : Int32))), vp_in (nI i) 6) (k4 : ∀ (h1 : ¬ ((Int32.ofNat 6 : Int32) ≤ (nI i : Int32))), AW l (pI pg 192) P kc ks 2 [(3, .int ((nI i) + Int32.ofInt 1)), (1, .ref 85), (2, .ref 89)] [] SHF (aset M 89 (nI i).toNatClampNeg (.int (M.1 85 (nI i).toNatClampNeg)))) : AW l (pI pg 192) P kc ks 2 [(3, .int (nI i)), (1, .ref 85), (2, .ref 89)] [] SHF M := by
  refine AW.iload_n (dq rfl) rfl ?_
  show AW l (pI pg 192) P kc ks 3 _ _ SHF _
  refine AW.aload_n (dq rfl) rfl rfl ?_
  show AW l (pI pg 192) P kc ks 4 _ _ SHF _
  refine AW.alen (dq rfl) rfl ?_
  show AW l (pI pg 192) P kc ks 5 _ _ SHF _
  refine AW.icmp_ge (dq rfl) (tgt := 20) (by decide) (fun h1 => ?_) (fun h1 => ?_)
  · have _ := h1
    refine AW.vret (dq rfl) rfl ?_
    exact r2 h1
  · have _ := h1
    refine AW.aload_n (dq rfl) rfl rfl ?_
    show AW l (pI pg 192) P kc ks 9 _ _ SHF _
    refine AW.iload_n (dq rfl) rfl ?_
    show AW l (pI pg 192) P kc ks 10 _ _ SHF _
    refine AW.aload_n (dq rfl) rfl rfl ?_
    show AW l (pI pg 192) P kc ks 11 _ _ SHF _
    refine AW.iload_n (dq rfl) rfl ?_
    show AW l (pI pg 192) P kc ks 12 _ _ SHF _
    refine AW.iald (dq rfl) rfl (o3 h1) ?_
    show AW l (pI pg 192) P kc ks 13 _ _ SHF _
    refine AW.iast (dq rfl) rfl (o3 h1) ?_
    show AW l (pI pg 192) P kc ks 14 _ _ SHF _
    refine AW.iinc (dq rfl) rfl (by decide +kernel) ?_
    show AW l (pI pg 192) P kc ks 17 [(3, .int ((nI i) + Int32.ofInt 1)), (1, .ref 85), (2, .ref 89)] [] SHF _
    refine AW.goto (dq rfl) (tgt := 2) (by decide) ?_
    refine AW.drop (lv' := [(3, .int ((nI i) + Int32.ofInt 1)), (1, .ref 85), (2, .ref 89)]) (List.forall_mem_cons.mpr ⟨List.mem_of_getElem? (i := 0) rfl, List.forall_mem_cons.mpr ⟨List.mem_of_getElem? (i := 1) rfl, List.forall_mem_cons.mpr ⟨List.mem_of_getElem? (i := 2) rfl, fun _ h => absurd h List.not_mem_nil⟩⟩⟩) ?_
    exact k4 h1

theorem coq86_0 {l : aL} {P : aP} {kc ks : Nat} {M : aM}   (k1 : AW l (pI pg 192) P kc ks 2 [(3, .int (Int32.ofInt 0)), (1, .ref 86), (2, .ref 90)] [] SHF M) : AW l (pI pg 192) P kc ks 0 [(0, .ref 58), (1, .ref 86), (2, .ref 90)] [] SHF M := by
  refine AW.iconst (dq rfl) ?_
  show AW l (pI pg 192) P kc ks 1 _ _ SHF _
  refine AW.istore_n (dq rfl) (by decide +kernel) ?_
  show AW l (pI pg 192) P kc ks 2 [(3, .int (Int32.ofInt 0)), (0, .ref 58), (1, .ref 86), (2, .ref 90)] [] SHF _
  refine AW.drop (lv' := [(3, .int (Int32.ofInt 0)), (1, .ref 86), (2, .ref 90)]) (List.forall_mem_cons.mpr ⟨List.mem_of_getElem? (i := 0) rfl, List.forall_mem_cons.mpr ⟨List.mem_of_getElem? (i := 2) rfl, List.forall_mem_cons.mpr ⟨List.mem_of_getElem? (i := 3) rfl, fun _ h => absurd h List.not_mem_nil⟩⟩⟩) ?_
  exact k1

theorem coq86_2 {l : aL} {P : aP} {kc ks : Nat} {i : Nat} {M : aM}   (r2 : ∀ (h1 : (Int32.ofNat 48 : Int32) ≤ (nI i : Int32)), P (.inl none) SHF M) (o3 : ∀ (h1 : ¬ ((Int32.ofNat 48 : Int32) ≤ (nI i : Int32))), vp_in (nI i) 48) (k4 : ∀ (h1 : ¬ ((Int32.ofNat 48 : Int32) ≤ (nI i : Int32))), AW l (pI pg 192) P kc ks 2 [(3, .int ((nI i) + Int32.ofInt 1)), (1, .ref 86), (2, .ref 90)] [] SHF (aset M 90 (nI i).toNatClampNeg (.int (M.1 86 (nI i).toNatClampNeg)))) : AW l (pI pg 192) P kc ks 2 [(3, .int (nI i)), (1, .ref 86), (2, .ref 90)] [] SHF M := by
  refine AW.iload_n (dq rfl) rfl ?_
  show AW l (pI pg 192) P kc ks 3 _ _ SHF _
  refine AW.aload_n (dq rfl) rfl rfl ?_
  show AW l (pI pg 192) P kc ks 4 _ _ SHF _
  refine AW.alen (dq rfl) rfl ?_
  show AW l (pI pg 192) P kc ks 5 _ _ SHF _
  refine AW.icmp_ge (dq rfl) (tgt := 20) (by decide) (fun h1 => ?_) (fun h1 => ?_)
  · have _ := h1
    refine AW.vret (dq rfl) rfl ?_
    exact r2 h1
  · have _ := h1
    refine AW.aload_n (dq rfl) rfl rfl ?_
    show AW l (pI pg 192) P kc ks 9 _ _ SHF _
    refine AW.iload_n (dq rfl) rfl ?_
    show AW l (pI pg 192) P kc ks 10 _ _ SHF _
    refine AW.aload_n (dq rfl) rfl rfl ?_
    show AW l (pI pg 192) P kc ks 11 _ _ SHF _
    refine AW.iload_n (dq rfl) rfl ?_
    show AW l (pI pg 192) P kc ks 12 _ _ SHF _
    refine AW.iald (dq rfl) rfl (o3 h1) ?_
    show AW l (pI pg 192) P kc ks 13 _ _ SHF _
    refine AW.iast (dq rfl) rfl (o3 h1) ?_
    show AW l (pI pg 192) P kc ks 14 _ _ SHF _
    refine AW.iinc (dq rfl) rfl (by decide +kernel) ?_
    show AW l (pI pg 192) P kc ks 17 [(3, .int ((nI i) + Int32.ofInt 1)), (1, .ref 86), (2, .ref 90)] [] SHF _
    refine AW.goto (dq rfl) (tgt := 2) (by decide) ?_
    refine AW.drop (lv' := [(3, .int ((nI i) + Int32.ofInt 1)), (1, .ref 86), (2, .ref 90)]) (List.forall_mem_cons.mpr ⟨List.mem_of_getElem? (i := 0) rfl, List.forall_mem_cons.mpr ⟨List.mem_of_getElem? (i := 1) rfl, List.forall_mem_cons.mpr ⟨List.mem_of_getElem? (i := 2) rfl, fun _ h => absurd h List.not_mem_nil⟩⟩⟩) ?_
    exact k4 h1

theorem coq87_0 {l : aL} {P : aP} {kc ks : Nat} {M : aM}   (k1 : AW l (pI pg 192) P kc ks 2 [(3, .int (Int32.ofInt 0)), (1, .ref 87), (2, .ref 91)] [] SHF M) : AW l (pI pg 192) P kc ks 0 [(0, .ref 58), (1, .ref 87), (2, .ref 91)] [] SHF M := by
  refine AW.iconst (dq rfl) ?_
  show AW l (pI pg 192) P kc ks 1 _ _ SHF _
  refine AW.istore_n (dq rfl) (by decide +kernel) ?_
  show AW l (pI pg 192) P kc ks 2 [(3, .int (Int32.ofInt 0)), (0, .ref 58), (1, .ref 87), (2, .ref 91)] [] SHF _
  refine AW.drop (lv' := [(3, .int (Int32.ofInt 0)), (1, .ref 87), (2, .ref 91)]) (List.forall_mem_cons.mpr ⟨List.mem_of_getElem? (i := 0) rfl, List.forall_mem_cons.mpr ⟨List.mem_of_getElem? (i := 2) rfl, List.forall_mem_cons.mpr ⟨List.mem_of_getElem? (i := 3) rfl, fun _ h => absurd h List.not_mem_nil⟩⟩⟩) ?_
  exact k1

theorem coq87_2 {l : aL} {P : aP} {kc ks : Nat} {i : Nat} {M : aM}   (r2 : ∀ (h1 : (Int32.ofNat 200 : Int32) ≤ (nI i : Int32)), P (.inl none) SHF M) (o3 : ∀ (h1 : ¬ ((Int32.ofNat 200 : Int32) ≤ (nI i : Int32))), vp_in (nI i) 200) (k4 : ∀ (h1 : ¬ ((Int32.ofNat 200 : Int32) ≤ (nI i : Int32))), AW l (pI pg 192) P kc ks 2 [(3, .int ((nI i) + Int32.ofInt 1)), (1, .ref 87), (2, .ref 91)] [] SHF (aset M 91 (nI i).toNatClampNeg (.int (M.1 87 (nI i).toNatClampNeg)))) : AW l (pI pg 192) P kc ks 2 [(3, .int (nI i)), (1, .ref 87), (2, .ref 91)] [] SHF M := by
  refine AW.iload_n (dq rfl) rfl ?_
  show AW l (pI pg 192) P kc ks 3 _ _ SHF _
  refine AW.aload_n (dq rfl) rfl rfl ?_
  show AW l (pI pg 192) P kc ks 4 _ _ SHF _
  refine AW.alen (dq rfl) rfl ?_
  show AW l (pI pg 192) P kc ks 5 _ _ SHF _
  refine AW.icmp_ge (dq rfl) (tgt := 20) (by decide) (fun h1 => ?_) (fun h1 => ?_)
  · have _ := h1
    refine AW.vret (dq rfl) rfl ?_
    exact r2 h1
  · have _ := h1
    refine AW.aload_n (dq rfl) rfl rfl ?_
    show AW l (pI pg 192) P kc ks 9 _ _ SHF _
    refine AW.iload_n (dq rfl) rfl ?_
    show AW l (pI pg 192) P kc ks 10 _ _ SHF _
    refine AW.aload_n (dq rfl) rfl rfl ?_
    show AW l (pI pg 192) P kc ks 11 _ _ SHF _
    refine AW.iload_n (dq rfl) rfl ?_
    show AW l (pI pg 192) P kc ks 12 _ _ SHF _
    refine AW.iald (dq rfl) rfl (o3 h1) ?_
    show AW l (pI pg 192) P kc ks 13 _ _ SHF _
    refine AW.iast (dq rfl) rfl (o3 h1) ?_
    show AW l (pI pg 192) P kc ks 14 _ _ SHF _
    refine AW.iinc (dq rfl) rfl (by decide +kernel) ?_
    show AW l (pI pg 192) P kc ks 17 [(3, .int ((nI i) + Int32.ofInt 1)), (1, .ref 87), (2, .ref 91)] [] SHF _
    refine AW.goto (dq rfl) (tgt := 2) (by decide) ?_
    refine AW.drop (lv' := [(3, .int ((nI i) + Int32.ofInt 1)), (1, .ref 87), (2, .ref 91)]) (List.forall_mem_cons.mpr ⟨List.mem_of_getElem? (i := 0) rfl, List.forall_mem_cons.mpr ⟨List.mem_of_getElem? (i := 1) rfl, List.forall_mem_cons.mpr ⟨List.mem_of_getElem? (i := 2) rfl, fun _ h => absurd h List.not_mem_nil⟩⟩⟩) ?_
    exact k4 h1

theorem coq88_0 {l : aL} {P : aP} {kc ks : Nat} {M : aM}   (k1 : AW l (pI pg 192) P kc ks 2 [(3, .int (Int32.ofInt 0)), (1, .ref 88), (2, .ref 92)] [] SHF M) : AW l (pI pg 192) P kc ks 0 [(0, .ref 58), (1, .ref 88), (2, .ref 92)] [] SHF M := by
  refine AW.iconst (dq rfl) ?_
  show AW l (pI pg 192) P kc ks 1 _ _ SHF _
  refine AW.istore_n (dq rfl) (by decide +kernel) ?_
  show AW l (pI pg 192) P kc ks 2 [(3, .int (Int32.ofInt 0)), (0, .ref 58), (1, .ref 88), (2, .ref 92)] [] SHF _
  refine AW.drop (lv' := [(3, .int (Int32.ofInt 0)), (1, .ref 88), (2, .ref 92)]) (List.forall_mem_cons.mpr ⟨List.mem_of_getElem? (i := 0) rfl, List.forall_mem_cons.mpr ⟨List.mem_of_getElem? (i := 2) rfl, List.forall_mem_cons.mpr ⟨List.mem_of_getElem? (i := 3) rfl, fun _ h => absurd h List.not_mem_nil⟩⟩⟩) ?_
  exact k1

theorem coq88_2 {l : aL} {P : aP} {kc ks : Nat} {i : Nat} {M : aM}   (r2 : ∀ (h1 : (Int32.ofNat 1600 : Int32) ≤ (nI i : Int32)), P (.inl none) SHF M) (o3 : ∀ (h1 : ¬ ((Int32.ofNat 1600 : Int32) ≤ (nI i : Int32))), vp_in (nI i) 1600) (k4 : ∀ (h1 : ¬ ((Int32.ofNat 1600 : Int32) ≤ (nI i : Int32))), AW l (pI pg 192) P kc ks 2 [(3, .int ((nI i) + Int32.ofInt 1)), (1, .ref 88), (2, .ref 92)] [] SHF (aset M 92 (nI i).toNatClampNeg (.int (M.1 88 (nI i).toNatClampNeg)))) : AW l (pI pg 192) P kc ks 2 [(3, .int (nI i)), (1, .ref 88), (2, .ref 92)] [] SHF M := by
  refine AW.iload_n (dq rfl) rfl ?_
  show AW l (pI pg 192) P kc ks 3 _ _ SHF _
  refine AW.aload_n (dq rfl) rfl rfl ?_
  show AW l (pI pg 192) P kc ks 4 _ _ SHF _
  refine AW.alen (dq rfl) rfl ?_
  show AW l (pI pg 192) P kc ks 5 _ _ SHF _
  refine AW.icmp_ge (dq rfl) (tgt := 20) (by decide) (fun h1 => ?_) (fun h1 => ?_)
  · have _ := h1
    refine AW.vret (dq rfl) rfl ?_
    exact r2 h1
  · have _ := h1
    refine AW.aload_n (dq rfl) rfl rfl ?_
    show AW l (pI pg 192) P kc ks 9 _ _ SHF _
    refine AW.iload_n (dq rfl) rfl ?_
    show AW l (pI pg 192) P kc ks 10 _ _ SHF _
    refine AW.aload_n (dq rfl) rfl rfl ?_
    show AW l (pI pg 192) P kc ks 11 _ _ SHF _
    refine AW.iload_n (dq rfl) rfl ?_
    show AW l (pI pg 192) P kc ks 12 _ _ SHF _
    refine AW.iald (dq rfl) rfl (o3 h1) ?_
    show AW l (pI pg 192) P kc ks 13 _ _ SHF _
    refine AW.iast (dq rfl) rfl (o3 h1) ?_
    show AW l (pI pg 192) P kc ks 14 _ _ SHF _
    refine AW.iinc (dq rfl) rfl (by decide +kernel) ?_
    show AW l (pI pg 192) P kc ks 17 [(3, .int ((nI i) + Int32.ofInt 1)), (1, .ref 88), (2, .ref 92)] [] SHF _
    refine AW.goto (dq rfl) (tgt := 2) (by decide) ?_
    refine AW.drop (lv' := [(3, .int ((nI i) + Int32.ofInt 1)), (1, .ref 88), (2, .ref 92)]) (List.forall_mem_cons.mpr ⟨List.mem_of_getElem? (i := 0) rfl, List.forall_mem_cons.mpr ⟨List.mem_of_getElem? (i := 1) rfl, List.forall_mem_cons.mpr ⟨List.mem_of_getElem? (i := 2) rfl, fun _ h => absurd h List.not_mem_nil⟩⟩⟩) ?_
    exact k4 h1

theorem coq89_0 {l : aL} {P : aP} {kc ks : Nat} {M : aM}   (k1 : AW l (pI pg 192) P kc ks 2 [(3, .int (Int32.ofInt 0)), (1, .ref 89), (2, .ref 85)] [] SHF M) : AW l (pI pg 192) P kc ks 0 [(0, .ref 58), (1, .ref 89), (2, .ref 85)] [] SHF M := by
  refine AW.iconst (dq rfl) ?_
  show AW l (pI pg 192) P kc ks 1 _ _ SHF _
  refine AW.istore_n (dq rfl) (by decide +kernel) ?_
  show AW l (pI pg 192) P kc ks 2 [(3, .int (Int32.ofInt 0)), (0, .ref 58), (1, .ref 89), (2, .ref 85)] [] SHF _
  refine AW.drop (lv' := [(3, .int (Int32.ofInt 0)), (1, .ref 89), (2, .ref 85)]) (List.forall_mem_cons.mpr ⟨List.mem_of_getElem? (i := 0) rfl, List.forall_mem_cons.mpr ⟨List.mem_of_getElem? (i := 2) rfl, List.forall_mem_cons.mpr ⟨List.mem_of_getElem? (i := 3) rfl, fun _ h => absurd h List.not_mem_nil⟩⟩⟩) ?_
  exact k1

theorem coq89_2 {l : aL} {P : aP} {kc ks : Nat} {i : Nat} {M : aM}   (r2 : ∀ (h1 : (Int32.ofNat 6 : Int32) ≤ (nI i : Int32)), P (.inl none) SHF M) (o3 : ∀ (h1 : ¬ ((Int32.ofNat 6 : Int32) ≤ (nI i : Int32))), vp_in (nI i) 6) (k4 : ∀ (h1 : ¬ ((Int32.ofNat 6 : Int32) ≤ (nI i : Int32))), AW l (pI pg 192) P kc ks 2 [(3, .int ((nI i) + Int32.ofInt 1)), (1, .ref 89), (2, .ref 85)] [] SHF (aset M 85 (nI i).toNatClampNeg (.int (M.1 89 (nI i).toNatClampNeg)))) : AW l (pI pg 192) P kc ks 2 [(3, .int (nI i)), (1, .ref 89), (2, .ref 85)] [] SHF M := by
  refine AW.iload_n (dq rfl) rfl ?_
  show AW l (pI pg 192) P kc ks 3 _ _ SHF _
  refine AW.aload_n (dq rfl) rfl rfl ?_
  show AW l (pI pg 192) P kc ks 4 _ _ SHF _
  refine AW.alen (dq rfl) rfl ?_
  show AW l (pI pg 192) P kc ks 5 _ _ SHF _
  refine AW.icmp_ge (dq rfl) (tgt := 20) (by decide) (fun h1 => ?_) (fun h1 => ?_)
  · have _ := h1
    refine AW.vret (dq rfl) rfl ?_
    exact r2 h1
  · have _ := h1
    refine AW.aload_n (dq rfl) rfl rfl ?_
    show AW l (pI pg 192) P kc ks 9 _ _ SHF _
    refine AW.iload_n (dq rfl) rfl ?_
    show AW l (pI pg 192) P kc ks 10 _ _ SHF _
    refine AW.aload_n (dq rfl) rfl rfl ?_
    show AW l (pI pg 192) P kc ks 11 _ _ SHF _
    refine AW.iload_n (dq rfl) rfl ?_
    show AW l (pI pg 192) P kc ks 12 _ _ SHF _
    refine AW.iald (dq rfl) rfl (o3 h1) ?_
    show AW l (pI pg 192) P kc ks 13 _ _ SHF _
    refine AW.iast (dq rfl) rfl (o3 h1) ?_
    show AW l (pI pg 192) P kc ks 14 _ _ SHF _
    refine AW.iinc (dq rfl) rfl (by decide +kernel) ?_
    show AW l (pI pg 192) P kc ks 17 [(3, .int ((nI i) + Int32.ofInt 1)), (1, .ref 89), (2, .ref 85)] [] SHF _
    refine AW.goto (dq rfl) (tgt := 2) (by decide) ?_
    refine AW.drop (lv' := [(3, .int ((nI i) + Int32.ofInt 1)), (1, .ref 89), (2, .ref 85)]) (List.forall_mem_cons.mpr ⟨List.mem_of_getElem? (i := 0) rfl, List.forall_mem_cons.mpr ⟨List.mem_of_getElem? (i := 1) rfl, List.forall_mem_cons.mpr ⟨List.mem_of_getElem? (i := 2) rfl, fun _ h => absurd h List.not_mem_nil⟩⟩⟩) ?_
    exact k4 h1

theorem coq90_0 {l : aL} {P : aP} {kc ks : Nat} {M : aM}   (k1 : AW l (pI pg 192) P kc ks 2 [(3, .int (Int32.ofInt 0)), (1, .ref 90), (2, .ref 86)] [] SHF M) : AW l (pI pg 192) P kc ks 0 [(0, .ref 58), (1, .ref 90), (2, .ref 86)] [] SHF M := by
  refine AW.iconst (dq rfl) ?_
  show AW l (pI pg 192) P kc ks 1 _ _ SHF _
  refine AW.istore_n (dq rfl) (by decide +kernel) ?_
  show AW l (pI pg 192) P kc ks 2 [(3, .int (Int32.ofInt 0)), (0, .ref 58), (1, .ref 90), (2, .ref 86)] [] SHF _
  refine AW.drop (lv' := [(3, .int (Int32.ofInt 0)), (1, .ref 90), (2, .ref 86)]) (List.forall_mem_cons.mpr ⟨List.mem_of_getElem? (i := 0) rfl, List.forall_mem_cons.mpr ⟨List.mem_of_getElem? (i := 2) rfl, List.forall_mem_cons.mpr ⟨List.mem_of_getElem? (i := 3) rfl, fun _ h => absurd h List.not_mem_nil⟩⟩⟩) ?_
  exact k1

theorem coq90_2 {l : aL} {P : aP} {kc ks : Nat} {i : Nat} {M : aM}   (r2 : ∀ (h1 : (Int32.ofNat 48 : Int32) ≤ (nI i : Int32)), P (.inl none) SHF M) (o3 : ∀ (h1 : ¬ ((Int32.ofNat 48 : Int32) ≤ (nI i : Int32))), vp_in (nI i) 48) (k4 : ∀ (h1 : ¬ ((Int32.ofNat 48 : Int32) ≤ (nI i : Int32))), AW l (pI pg 192) P kc ks 2 [(3, .int ((nI i) + Int32.ofInt 1)), (1, .ref 90), (2, .ref 86)] [] SHF (aset M 86 (nI i).toNatClampNeg (.int (M.1 90 (nI i).toNatClampNeg)))) : AW l (pI pg 192) P kc ks 2 [(3, .int (nI i)), (1, .ref 90), (2, .ref 86)] [] SHF M := by
  refine AW.iload_n (dq rfl) rfl ?_
  show AW l (pI pg 192) P kc ks 3 _ _ SHF _
  refine AW.aload_n (dq rfl) rfl rfl ?_
  show AW l (pI pg 192) P kc ks 4 _ _ SHF _
  refine AW.alen (dq rfl) rfl ?_
  show AW l (pI pg 192) P kc ks 5 _ _ SHF _
  refine AW.icmp_ge (dq rfl) (tgt := 20) (by decide) (fun h1 => ?_) (fun h1 => ?_)
  · have _ := h1
    refine AW.vret (dq rfl) rfl ?_
    exact r2 h1
  · have _ := h1
    refine AW.aload_n (dq rfl) rfl rfl ?_
    show AW l (pI pg 192) P kc ks 9 _ _ SHF _
    refine AW.iload_n (dq rfl) rfl ?_
    show AW l (pI pg 192) P kc ks 10 _ _ SHF _
    refine AW.aload_n (dq rfl) rfl rfl ?_
    show AW l (pI pg 192) P kc ks 11 _ _ SHF _
    refine AW.iload_n (dq rfl) rfl ?_
    show AW l (pI pg 192) P kc ks 12 _ _ SHF _
    refine AW.iald (dq rfl) rfl (o3 h1) ?_
    show AW l (pI pg 192) P kc ks 13 _ _ SHF _
    refine AW.iast (dq rfl) rfl (o3 h1) ?_
    show AW l (pI pg 192) P kc ks 14 _ _ SHF _
    refine AW.iinc (dq rfl) rfl (by decide +kernel) ?_
    show AW l (pI pg 192) P kc ks 17 [(3, .int ((nI i) + Int32.ofInt 1)), (1, .ref 90), (2, .ref 86)] [] SHF _
    refine AW.goto (dq rfl) (tgt := 2) (by decide) ?_
    refine AW.drop (lv' := [(3, .int ((nI i) + Int32.ofInt 1)), (1, .ref 90), (2, .ref 86)]) (List.forall_mem_cons.mpr ⟨List.mem_of_getElem? (i := 0) rfl, List.forall_mem_cons.mpr ⟨List.mem_of_getElem? (i := 1) rfl, List.forall_mem_cons.mpr ⟨List.mem_of_getElem? (i := 2) rfl, fun _ h => absurd h List.not_mem_nil⟩⟩⟩) ?_
    exact k4 h1

theorem coq91_0 {l : aL} {P : aP} {kc ks : Nat} {M : aM}   (k1 : AW l (pI pg 192) P kc ks 2 [(3, .int (Int32.ofInt 0)), (1, .ref 91), (2, .ref 87)] [] SHF M) : AW l (pI pg 192) P kc ks 0 [(0, .ref 58), (1, .ref 91), (2, .ref 87)] [] SHF M := by
  refine AW.iconst (dq rfl) ?_
  show AW l (pI pg 192) P kc ks 1 _ _ SHF _
  refine AW.istore_n (dq rfl) (by decide +kernel) ?_
  show AW l (pI pg 192) P kc ks 2 [(3, .int (Int32.ofInt 0)), (0, .ref 58), (1, .ref 91), (2, .ref 87)] [] SHF _
  refine AW.drop (lv' := [(3, .int (Int32.ofInt 0)), (1, .ref 91), (2, .ref 87)]) (List.forall_mem_cons.mpr ⟨List.mem_of_getElem? (i := 0) rfl, List.forall_mem_cons.mpr ⟨List.mem_of_getElem? (i := 2) rfl, List.forall_mem_cons.mpr ⟨List.mem_of_getElem? (i := 3) rfl, fun _ h => absurd h List.not_mem_nil⟩⟩⟩) ?_
  exact k1

theorem coq91_2 {l : aL} {P : aP} {kc ks : Nat} {i : Nat} {M : aM}   (r2 : ∀ (h1 : (Int32.ofNat 200 : Int32) ≤ (nI i : Int32)), P (.inl none) SHF M) (o3 : ∀ (h1 : ¬ ((Int32.ofNat 200 : Int32) ≤ (nI i : Int32))), vp_in (nI i) 200) (k4 : ∀ (h1 : ¬ ((Int32.ofNat 200 : Int32) ≤ (nI i : Int32))), AW l (pI pg 192) P kc ks 2 [(3, .int ((nI i) + Int32.ofInt 1)), (1, .ref 91), (2, .ref 87)] [] SHF (aset M 87 (nI i).toNatClampNeg (.int (M.1 91 (nI i).toNatClampNeg)))) : AW l (pI pg 192) P kc ks 2 [(3, .int (nI i)), (1, .ref 91), (2, .ref 87)] [] SHF M := by
  refine AW.iload_n (dq rfl) rfl ?_
  show AW l (pI pg 192) P kc ks 3 _ _ SHF _
  refine AW.aload_n (dq rfl) rfl rfl ?_
  show AW l (pI pg 192) P kc ks 4 _ _ SHF _
  refine AW.alen (dq rfl) rfl ?_
  show AW l (pI pg 192) P kc ks 5 _ _ SHF _
  refine AW.icmp_ge (dq rfl) (tgt := 20) (by decide) (fun h1 => ?_) (fun h1 => ?_)
  · have _ := h1
    refine AW.vret (dq rfl) rfl ?_
    exact r2 h1
  · have _ := h1
    refine AW.aload_n (dq rfl) rfl rfl ?_
    show AW l (pI pg 192) P kc ks 9 _ _ SHF _
    refine AW.iload_n (dq rfl) rfl ?_
    show AW l (pI pg 192) P kc ks 10 _ _ SHF _
    refine AW.aload_n (dq rfl) rfl rfl ?_
    show AW l (pI pg 192) P kc ks 11 _ _ SHF _
    refine AW.iload_n (dq rfl) rfl ?_
    show AW l (pI pg 192) P kc ks 12 _ _ SHF _
    refine AW.iald (dq rfl) rfl (o3 h1) ?_
    show AW l (pI pg 192) P kc ks 13 _ _ SHF _
    refine AW.iast (dq rfl) rfl (o3 h1) ?_
    show AW l (pI pg 192) P kc ks 14 _ _ SHF _
    refine AW.iinc (dq rfl) rfl (by decide +kernel) ?_
    show AW l (pI pg 192) P kc ks 17 [(3, .int ((nI i) + Int32.ofInt 1)), (1, .ref 91), (2, .ref 87)] [] SHF _
    refine AW.goto (dq rfl) (tgt := 2) (by decide) ?_
    refine AW.drop (lv' := [(3, .int ((nI i) + Int32.ofInt 1)), (1, .ref 91), (2, .ref 87)]) (List.forall_mem_cons.mpr ⟨List.mem_of_getElem? (i := 0) rfl, List.forall_mem_cons.mpr ⟨List.mem_of_getElem? (i := 1) rfl, List.forall_mem_cons.mpr ⟨List.mem_of_getElem? (i := 2) rfl, fun _ h => absurd h List.not_mem_nil⟩⟩⟩) ?_
    exact k4 h1

theorem coq92_0 {l : aL} {P : aP} {kc ks : Nat} {M : aM}   (k1 : AW l (pI pg 192) P kc ks 2 [(3, .int (Int32.ofInt 0)), (1, .ref 92), (2, .ref 88)] [] SHF M) : AW l (pI pg 192) P kc ks 0 [(0, .ref 58), (1, .ref 92), (2, .ref 88)] [] SHF M := by
  refine AW.iconst (dq rfl) ?_
  show AW l (pI pg 192) P kc ks 1 _ _ SHF _
  refine AW.istore_n (dq rfl) (by decide +kernel) ?_
  show AW l (pI pg 192) P kc ks 2 [(3, .int (Int32.ofInt 0)), (0, .ref 58), (1, .ref 92), (2, .ref 88)] [] SHF _
  refine AW.drop (lv' := [(3, .int (Int32.ofInt 0)), (1, .ref 92), (2, .ref 88)]) (List.forall_mem_cons.mpr ⟨List.mem_of_getElem? (i := 0) rfl, List.forall_mem_cons.mpr ⟨List.mem_of_getElem? (i := 2) rfl, List.forall_mem_cons.mpr ⟨List.mem_of_getElem? (i := 3) rfl, fun _ h => absurd h List.not_mem_nil⟩⟩⟩) ?_
  exact k1

theorem coq92_2 {l : aL} {P : aP} {kc ks : Nat} {i : Nat} {M : aM}   (r2 : ∀ (h1 : (Int32.ofNat 1600 : Int32) ≤ (nI i : Int32)), P (.inl none) SHF M) (o3 : ∀ (h1 : ¬ ((Int32.ofNat 1600 : Int32) ≤ (nI i : Int32))), vp_in (nI i) 1600) (k4 : ∀ (h1 : ¬ ((Int32.ofNat 1600 : Int32) ≤ (nI i : Int32))), AW l (pI pg 192) P kc ks 2 [(3, .int ((nI i) + Int32.ofInt 1)), (1, .ref 92), (2, .ref 88)] [] SHF (aset M 88 (nI i).toNatClampNeg (.int (M.1 92 (nI i).toNatClampNeg)))) : AW l (pI pg 192) P kc ks 2 [(3, .int (nI i)), (1, .ref 92), (2, .ref 88)] [] SHF M := by
  refine AW.iload_n (dq rfl) rfl ?_
  show AW l (pI pg 192) P kc ks 3 _ _ SHF _
  refine AW.aload_n (dq rfl) rfl rfl ?_
  show AW l (pI pg 192) P kc ks 4 _ _ SHF _
  refine AW.alen (dq rfl) rfl ?_
  show AW l (pI pg 192) P kc ks 5 _ _ SHF _
  refine AW.icmp_ge (dq rfl) (tgt := 20) (by decide) (fun h1 => ?_) (fun h1 => ?_)
  · have _ := h1
    refine AW.vret (dq rfl) rfl ?_
    exact r2 h1
  · have _ := h1
    refine AW.aload_n (dq rfl) rfl rfl ?_
    show AW l (pI pg 192) P kc ks 9 _ _ SHF _
    refine AW.iload_n (dq rfl) rfl ?_
    show AW l (pI pg 192) P kc ks 10 _ _ SHF _
    refine AW.aload_n (dq rfl) rfl rfl ?_
    show AW l (pI pg 192) P kc ks 11 _ _ SHF _
    refine AW.iload_n (dq rfl) rfl ?_
    show AW l (pI pg 192) P kc ks 12 _ _ SHF _
    refine AW.iald (dq rfl) rfl (o3 h1) ?_
    show AW l (pI pg 192) P kc ks 13 _ _ SHF _
    refine AW.iast (dq rfl) rfl (o3 h1) ?_
    show AW l (pI pg 192) P kc ks 14 _ _ SHF _
    refine AW.iinc (dq rfl) rfl (by decide +kernel) ?_
    show AW l (pI pg 192) P kc ks 17 [(3, .int ((nI i) + Int32.ofInt 1)), (1, .ref 92), (2, .ref 88)] [] SHF _
    refine AW.goto (dq rfl) (tgt := 2) (by decide) ?_
    refine AW.drop (lv' := [(3, .int ((nI i) + Int32.ofInt 1)), (1, .ref 92), (2, .ref 88)]) (List.forall_mem_cons.mpr ⟨List.mem_of_getElem? (i := 0) rfl, List.forall_mem_cons.mpr ⟨List.mem_of_getElem? (i := 1) rfl, List.forall_mem_cons.mpr ⟨List.mem_of_getElem? (i := 2) rfl, fun _ h => absurd h List.not_mem_nil⟩⟩⟩) ?_
    exact k4 h1

theorem mim_0 {l : aL} {P : aP} {kc ks : Nat} {M : aM} (hJ : ∀ e ∈ RM, M.2.2 e.1 e.2.1 = e.2.2)  (Q2 : aM → Prop) (c3 : ∀ (h1 : ¬ ((aset M 58 0 (.int (Int32.ofInt 0))).1 58 51 : Int32) = (Int32.ofInt (-1) : Int32)), AC l (pI pg 192) (fcV (aset (aset (aset (aset M 58 0 (.int (Int32.ofInt 0))) 58 57 (.int (Int32.ofInt 1))) 58 58 (.int ((aset (aset M 58 0 (.int (Int32.ofInt 0))) 58 57 (.int (Int32.ofInt 1))).1 58 51))) 58 59 (.int ((aset (aset (aset M 58 0 (.int (Int32.ofInt 0))) 58 57 (.int (Int32.ofInt 1))) 58 58 (.int ((aset (aset M 58 0 (.int (Int32.ofInt 0))) 58 57 (.int (Int32.ofInt 1))).1 58 51))).1 58 52))) Q2) 0 0 [.ref 58, .ref 85, .ref 89] SHF (aset (aset (aset (aset M 58 0 (.int (Int32.ofInt 0))) 58 57 (.int (Int32.ofInt 1))) 58 58 (.int ((aset (aset M 58 0 (.int (Int32.ofInt 0))) 58 57 (.int (Int32.ofInt 1))).1 58 51))) 58 59 (.int ((aset (aset (aset M 58 0 (.int (Int32.ofInt 0))) 58 57 (.int (Int32.ofInt 1))) 58 58 (.int ((aset (aset M 58 0 (.int (Int32.ofInt 0))) 58 57 (.int (Int32.ofInt 1))).1 58 51))).1 58 52)))) (Q4 : aM → aM → Prop) (c5 : ∀ (h1 : ¬ ((aset M 58 0 (.int (Int32.ofInt 0))).1 58 51 : Int32) = (Int32.ofInt (-1) : Int32)), ∀ (M2 : aM), ∀ (e2 : M2.2.2 = (aset (aset (aset (aset M 58 0 (.int (Int32.ofInt 0))) 58 57 (.int (Int32.ofInt 1))) 58 58 (.int ((aset (aset M 58 0 (.int (Int32.ofInt 0))) 58 57 (.int (Int32.ofInt 1))).1 58 51))) 58 59 (.int ((aset (aset (aset M 58 0 (.int (Int32.ofInt 0))) 58 57 (.int (Int32.ofInt 1))) 58 58 (.int ((aset (aset M 58 0 (.int (Int32.ofInt 0))) 58 57 (.int (Int32.ofInt 1))).1 58 51))).1 58 52))).2.2), ∀ (q2 : Q2 M2), AC l (pI pg 192) (fcV M2 (Q4 M2)) 0 0 [.ref 58, .ref 86, .ref 90] SHF M2) (Q6 : aM → aM → aM → Prop) (c7 : ∀ (h1 : ¬ ((aset M 58 0 (.int (Int32.ofInt 0))).1 58 51 : Int32) = (Int32.ofInt (-1) : Int32)), ∀ (M2 : aM), ∀ (e2 : M2.2.2 = (aset (aset (aset (aset M 58 0 (.int (Int32.ofInt 0))) 58 57 (.int (Int32.ofInt 1))) 58 58 (.int ((aset (aset M 58 0 (.int (Int32.ofInt 0))) 58 57 (.int (Int32.ofInt 1))).1 58 51))) 58 59 (.int ((aset (aset (aset M 58 0 (.int (Int32.ofInt 0))) 58 57 (.int (Int32.ofInt 1))) 58 58 (.int ((aset (aset M 58 0 (.int (Int32.ofInt 0))) 58 57 (.int (Int32.ofInt 1))).1 58 51))).1 58 52))).2.2), ∀ (q2 : Q2 M2), ∀ (M4 : aM), ∀ (e4 : M4.2.2 = M2.2.2), ∀ (q4 : (Q4 M2) M4), AC l (pI pg 192) (fcV M4 (Q6 M2 M4)) 0 0 [.ref 58, .ref 87, .ref 91] SHF M4) (Q8 : aM → aM → aM → aM → Prop) (c9 : ∀ (h1 : ¬ ((aset M 58 0 (.int (Int32.ofInt 0))).1 58 51 : Int32) = (Int32.ofInt (-1) : Int32)), ∀ (M2 : aM), ∀ (e2 : M2.2.2 = (aset (aset (aset (aset M 58 0 (.int (Int32.ofInt 0))) 58 57 (.int (Int32.ofInt 1))) 58 58 (.int ((aset (aset M 58 0 (.int (Int32.ofInt 0))) 58 57 (.int (Int32.ofInt 1))).1 58 51))) 58 59 (.int ((aset (aset (aset M 58 0 (.int (Int32.ofInt 0))) 58 57 (.int (Int32.ofInt 1))) 58 58 (.int ((aset (aset M 58 0 (.int (Int32.ofInt 0))) 58 57 (.int (Int32.ofInt 1))).1 58 51))).1 58 52))).2.2), ∀ (q2 : Q2 M2), ∀ (M4 : aM), ∀ (e4 : M4.2.2 = M2.2.2), ∀ (q4 : (Q4 M2) M4), ∀ (M6 : aM), ∀ (e6 : M6.2.2 = M4.2.2), ∀ (q6 : (Q6 M2 M4) M6), AC l (pI pg 192) (fcV M6 (Q8 M2 M4 M6)) 0 0 [.ref 58, .ref 88, .ref 92] SHF M6) (r10 : ∀ (h1 : ¬ ((aset M 58 0 (.int (Int32.ofInt 0))).1 58 51 : Int32) = (Int32.ofInt (-1) : Int32)), ∀ (M2 : aM), ∀ (e2 : M2.2.2 = (aset (aset (aset (aset M 58 0 (.int (Int32.ofInt 0))) 58 57 (.int (Int32.ofInt 1))) 58 58 (.int ((aset (aset M 58 0 (.int (Int32.ofInt 0))) 58 57 (.int (Int32.ofInt 1))).1 58 51))) 58 59 (.int ((aset (aset (aset M 58 0 (.int (Int32.ofInt 0))) 58 57 (.int (Int32.ofInt 1))) 58 58 (.int ((aset (aset M 58 0 (.int (Int32.ofInt 0))) 58 57 (.int (Int32.ofInt 1))).1 58 51))).1 58 52))).2.2), ∀ (q2 : Q2 M2), ∀ (M4 : aM), ∀ (e4 : M4.2.2 = M2.2.2), ∀ (q4 : (Q4 M2) M4), ∀ (M6 : aM), ∀ (e6 : M6.2.2 = M4.2.2), ∀ (q6 : (Q6 M2 M4) M6), ∀ (M8 : aM), ∀ (e8 : M8.2.2 = M6.2.2), ∀ (q8 : (Q8 M2 M4 M6) M8), P (.inl (some (.int (Int32.ofInt 1)))) SHF M8) (r11 : ∀ (h1 : ((aset M 58 0 (.int (Int32.ofInt 0))).1 58 51 : Int32) = (Int32.ofInt (-1) : Int32)), P (.inl (some (.int (Int32.ofInt 0)))) SHF (aset M 58 0 (.int (Int32.ofInt 0)))) : AW l (pI pg 246) P kc ks 0 [(0, .ref 58)] [] SHF M := by
  refine AW.aload_n (dq rfl) rfl rfl ?_
  show AW l (pI pg 246) P kc ks 1 _ _ SHF _
  refine AW.iconst (dq rfl) ?_
  show AW l (pI pg 246) P kc ks 2 _ _ SHF _
  refine fw_putI (dq rfl) (pg_ok.2.1 246 _ _ _ _ rfl) rfl rfl rfl ?_
  show AW l (pI pg 246) P kc ks 5 _ _ SHF _
  refine AW.aload_n (dq rfl) rfl rfl ?_
  show AW l (pI pg 246) P kc ks 6 _ _ SHF _
  refine fw_get (dq rfl) (pg_ok.2.1 246 _ _ _ _ rfl) rfl (v := .int ((aset M 58 0 (.int (Int32.ofInt 0))).1 58 51)) rfl ?_
  show AW l (pI pg 246) P kc ks 9 _ _ SHF _
  refine AW.iconst (dq rfl) ?_
  show AW l (pI pg 246) P kc ks 10 _ _ SHF _
  refine AW.icmp_ne (dq rfl) (tgt := 15) (by decide) (fun h1 => ?_) (fun h1 => ?_)
  · have _ := h1
    refine AW.aload_n (dq rfl) rfl rfl ?_
    show AW l (pI pg 246) P kc ks 16 _ _ SHF _
    refine AW.iconst (dq rfl) ?_
    show AW l (pI pg 246) P kc ks 17 _ _ SHF _
    refine fw_putZ (dq rfl) (pg_ok.2.1 246 _ _ _ _ rfl) rfl rfl rfl (by decide) ?_
    show AW l (pI pg 246) P kc ks 20 _ _ SHF _
    refine AW.aload_n (dq rfl) rfl rfl ?_
    show AW l (pI pg 246) P kc ks 21 _ _ SHF _
    refine AW.aload_n (dq rfl) rfl rfl ?_
    show AW l (pI pg 246) P kc ks 22 _ _ SHF _
    refine fw_get (dq rfl) (pg_ok.2.1 246 _ _ _ _ rfl) rfl (v := .int ((aset (aset M 58 0 (.int (Int32.ofInt 0))) 58 57 (.int (Int32.ofInt 1))).1 58 51)) rfl ?_
    show AW l (pI pg 246) P kc ks 25 _ _ SHF _
    refine fw_putI (dq rfl) (pg_ok.2.1 246 _ _ _ _ rfl) rfl rfl rfl ?_
    show AW l (pI pg 246) P kc ks 28 _ _ SHF _
    refine AW.aload_n (dq rfl) rfl rfl ?_
    show AW l (pI pg 246) P kc ks 29 _ _ SHF _
    refine AW.aload_n (dq rfl) rfl rfl ?_
    show AW l (pI pg 246) P kc ks 30 _ _ SHF _
    refine fw_get (dq rfl) (pg_ok.2.1 246 _ _ _ _ rfl) rfl (v := .int ((aset (aset (aset M 58 0 (.int (Int32.ofInt 0))) 58 57 (.int (Int32.ofInt 1))) 58 58 (.int ((aset (aset M 58 0 (.int (Int32.ofInt 0))) 58 57 (.int (Int32.ofInt 1))).1 58 51))).1 58 52)) rfl ?_
    show AW l (pI pg 246) P kc ks 33 _ _ SHF _
    refine fw_putI (dq rfl) (pg_ok.2.1 246 _ _ _ _ rfl) rfl rfl rfl ?_
    show AW l (pI pg 246) P kc ks 36 _ _ SHF _
    refine AW.aload_n (dq rfl) rfl rfl ?_
    show AW l (pI pg 246) P kc ks 37 _ _ SHF _
    refine AW.aload_n (dq rfl) rfl rfl ?_
    show AW l (pI pg 246) P kc ks 38 _ _ SHF _
    refine fw_get (dq rfl) (pg_ok.2.1 246 _ _ _ _ rfl) rfl (v := .ref 85) (isTA_ok rfl (rgR_ok hJ rfl)) ?_
    show AW l (pI pg 246) P kc ks 41 _ _ SHF _
    refine AW.aload_n (dq rfl) rfl rfl ?_
    show AW l (pI pg 246) P kc ks 42 _ _ SHF _
    refine fw_get (dq rfl) (pg_ok.2.1 246 _ _ _ _ rfl) rfl (v := .ref 89) (isTA_ok rfl (rgR_ok hJ rfl)) ?_
    show AW l (pI pg 246) P kc ks 45 _ _ SHF _
    refine fw_callVV (as := [.ref 85, .ref 89]) (dq rfl) (pg_ok.2.2.1 246 _ _ _ _ rfl) rfl (by decide +kernel) rfl rfl (c3 h1) (fun M2 e2 q2 => ?_)
    have hJ2 : ∀ e ∈ RM, M2.2.2 e.1 e.2.1 = e.2.2 := fun e he => by rw [e2]; exact hJ e he
    show AW l (pI pg 246) P kc ks 48 [(0, .ref 58)] [] SHF _
    refine AW.aload_n (dq rfl) rfl rfl ?_
    show AW l (pI pg 246) P kc ks 49 _ _ SHF _
    refine AW.aload_n (dq rfl) rfl rfl ?_
    show AW l (pI pg 246) P kc ks 50 _ _ SHF _
    refine fw_get (dq rfl) (pg_ok.2.1 246 _ _ _ _ rfl) rfl (v := .ref 86) (isTA_ok rfl (rgR_ok hJ2 rfl)) ?_
    show AW l (pI pg 246) P kc ks 53 _ _ SHF _
    refine AW.aload_n (dq rfl) rfl rfl ?_
    show AW l (pI pg 246) P kc ks 54 _ _ SHF _
    refine fw_get (dq rfl) (pg_ok.2.1 246 _ _ _ _ rfl) rfl (v := .ref 90) (isTA_ok rfl (rgR_ok hJ2 rfl)) ?_
    show AW l (pI pg 246) P kc ks 57 _ _ SHF _
    refine fw_callVV (as := [.ref 86, .ref 90]) (dq rfl) (pg_ok.2.2.1 246 _ _ _ _ rfl) rfl (by decide +kernel) rfl rfl (c5 h1 M2 e2 q2) (fun M4 e4 q4 => ?_)
    have hJ4 : ∀ e ∈ RM, M4.2.2 e.1 e.2.1 = e.2.2 := fun e he => by rw [e4]; exact hJ2 e he
    show AW l (pI pg 246) P kc ks 60 [(0, .ref 58)] [] SHF _
    refine AW.aload_n (dq rfl) rfl rfl ?_
    show AW l (pI pg 246) P kc ks 61 _ _ SHF _
    refine AW.aload_n (dq rfl) rfl rfl ?_
    show AW l (pI pg 246) P kc ks 62 _ _ SHF _
    refine fw_get (dq rfl) (pg_ok.2.1 246 _ _ _ _ rfl) rfl (v := .ref 87) (isTA_ok rfl (rgR_ok hJ4 rfl)) ?_
    show AW l (pI pg 246) P kc ks 65 _ _ SHF _
    refine AW.aload_n (dq rfl) rfl rfl ?_
    show AW l (pI pg 246) P kc ks 66 _ _ SHF _
    refine fw_get (dq rfl) (pg_ok.2.1 246 _ _ _ _ rfl) rfl (v := .ref 91) (isTA_ok rfl (rgR_ok hJ4 rfl)) ?_
    show AW l (pI pg 246) P kc ks 69 _ _ SHF _
    refine fw_callVV (as := [.ref 87, .ref 91]) (dq rfl) (pg_ok.2.2.1 246 _ _ _ _ rfl) rfl (by decide +kernel) rfl rfl (c7 h1 M2 e2 q2 M4 e4 q4) (fun M6 e6 q6 => ?_)
    have hJ6 : ∀ e ∈ RM, M6.2.2 e.1 e.2.1 = e.2.2 := fun e he => by rw [e6]; exact hJ4 e he
    show AW l (pI pg 246) P kc ks 72 [(0, .ref 58)] [] SHF _
    refine AW.aload_n (dq rfl) rfl rfl ?_
    show AW l (pI pg 246) P kc ks 73 _ _ SHF _
    refine AW.aload_n (dq rfl) rfl rfl ?_
    show AW l (pI pg 246) P kc ks 74 _ _ SHF _
    refine fw_get (dq rfl) (pg_ok.2.1 246 _ _ _ _ rfl) rfl (v := .ref 88) (isTA_ok rfl (rgR_ok hJ6 rfl)) ?_
    show AW l (pI pg 246) P kc ks 77 _ _ SHF _
    refine AW.aload_n (dq rfl) rfl rfl ?_
    show AW l (pI pg 246) P kc ks 78 _ _ SHF _
    refine fw_get (dq rfl) (pg_ok.2.1 246 _ _ _ _ rfl) rfl (v := .ref 92) (isTA_ok rfl (rgR_ok hJ6 rfl)) ?_
    show AW l (pI pg 246) P kc ks 81 _ _ SHF _
    refine fw_callVV (as := [.ref 88, .ref 92]) (dq rfl) (pg_ok.2.2.1 246 _ _ _ _ rfl) rfl (by decide +kernel) rfl rfl (c9 h1 M2 e2 q2 M4 e4 q4 M6 e6 q6) (fun M8 e8 q8 => ?_)
    have hJ8 : ∀ e ∈ RM, M8.2.2 e.1 e.2.1 = e.2.2 := fun e he => by rw [e8]; exact hJ6 e he
    show AW l (pI pg 246) P kc ks 84 [(0, .ref 58)] [] SHF _
    refine AW.iconst (dq rfl) ?_
    show AW l (pI pg 246) P kc ks 85 _ _ SHF _
    refine AW.zret (dq rfl) rfl (by decide) ?_
    exact r10 h1 M2 e2 q2 M4 e4 q4 M6 e6 q6 M8 e8 q8
  · have _ := h1
    refine AW.iconst (dq rfl) ?_
    show AW l (pI pg 246) P kc ks 14 _ _ SHF _
    refine AW.zret (dq rfl) rfl (by decide) ?_
    exact r11 h1

theorem mrs_0 {l : aL} {P : aP} {kc ks : Nat} {M : aM} (hJ : ∀ e ∈ RM, M.2.2 e.1 e.2.1 = e.2.2)  (Q2 : aM → Prop) (c3 : ∀ (h1 : ¬ ((aset M 58 0 (.int (Int32.ofInt 0))).1 58 57 : Int32) = 0), AC l (pI pg 192) (fcV (aset (aset (aset M 58 0 (.int (Int32.ofInt 0))) 58 51 (.int ((aset M 58 0 (.int (Int32.ofInt 0))).1 58 58))) 58 52 (.int ((aset (aset M 58 0 (.int (Int32.ofInt 0))) 58 51 (.int ((aset M 58 0 (.int (Int32.ofInt 0))).1 58 58))).1 58 59))) Q2) 0 0 [.ref 58, .ref 89, .ref 85] SHF (aset (aset (aset M 58 0 (.int (Int32.ofInt 0))) 58 51 (.int ((aset M 58 0 (.int (Int32.ofInt 0))).1 58 58))) 58 52 (.int ((aset (aset M 58 0 (.int (Int32.ofInt 0))) 58 51 (.int ((aset M 58 0 (.int (Int32.ofInt 0))).1 58 58))).1 58 59)))) (Q4 : aM → aM → Prop) (c5 : ∀ (h1 : ¬ ((aset M 58 0 (.int (Int32.ofInt 0))).1 58 57 : Int32) = 0), ∀ (M2 : aM), ∀ (e2 : M2.2.2 = (aset (aset (aset M 58 0 (.int (Int32.ofInt 0))) 58 51 (.int ((aset M 58 0 (.int (Int32.ofInt 0))).1 58 58))) 58 52 (.int ((aset (aset M 58 0 (.int (Int32.ofInt 0))) 58 51 (.int ((aset M 58 0 (.int (Int32.ofInt 0))).1 58 58))).1 58 59))).2.2), ∀ (q2 : Q2 M2), AC l (pI pg 192) (fcV M2 (Q4 M2)) 0 0 [.ref 58, .ref 90, .ref 86] SHF M2) (Q6 : aM → aM → aM → Prop) (c7 : ∀ (h1 : ¬ ((aset M 58 0 (.int (Int32.ofInt 0))).1 58 57 : Int32) = 0), ∀ (M2 : aM), ∀ (e2 : M2.2.2 = (aset (aset (aset M 58 0 (.int (Int32.ofInt 0))) 58 51 (.int ((aset M 58 0 (.int (Int32.ofInt 0))).1 58 58))) 58 52 (.int ((aset (aset M 58 0 (.int (Int32.ofInt 0))) 58 51 (.int ((aset M 58 0 (.int (Int32.ofInt 0))).1 58 58))).1 58 59))).2.2), ∀ (q2 : Q2 M2), ∀ (M4 : aM), ∀ (e4 : M4.2.2 = M2.2.2), ∀ (q4 : (Q4 M2) M4), AC l (pI pg 192) (fcV M4 (Q6 M2 M4)) 0 0 [.ref 58, .ref 91, .ref 87] SHF M4) (Q8 : aM → aM → aM → aM → Prop) (c9 : ∀ (h1 : ¬ ((aset M 58 0 (.int (Int32.ofInt 0))).1 58 57 : Int32) = 0), ∀ (M2 : aM), ∀ (e2 : M2.2.2 = (aset (aset (aset M 58 0 (.int (Int32.ofInt 0))) 58 51 (.int ((aset M 58 0 (.int (Int32.ofInt 0))).1 58 58))) 58 52 (.int ((aset (aset M 58 0 (.int (Int32.ofInt 0))) 58 51 (.int ((aset M 58 0 (.int (Int32.ofInt 0))).1 58 58))).1 58 59))).2.2), ∀ (q2 : Q2 M2), ∀ (M4 : aM), ∀ (e4 : M4.2.2 = M2.2.2), ∀ (q4 : (Q4 M2) M4), ∀ (M6 : aM), ∀ (e6 : M6.2.2 = M4.2.2), ∀ (q6 : (Q6 M2 M4) M6), AC l (pI pg 192) (fcV M6 (Q8 M2 M4 M6)) 0 0 [.ref 58, .ref 92, .ref 88] SHF M6) (r10 : ∀ (h1 : ¬ ((aset M 58 0 (.int (Int32.ofInt 0))).1 58 57 : Int32) = 0), ∀ (M2 : aM), ∀ (e2 : M2.2.2 = (aset (aset (aset M 58 0 (.int (Int32.ofInt 0))) 58 51 (.int ((aset M 58 0 (.int (Int32.ofInt 0))).1 58 58))) 58 52 (.int ((aset (aset M 58 0 (.int (Int32.ofInt 0))) 58 51 (.int ((aset M 58 0 (.int (Int32.ofInt 0))).1 58 58))).1 58 59))).2.2), ∀ (q2 : Q2 M2), ∀ (M4 : aM), ∀ (e4 : M4.2.2 = M2.2.2), ∀ (q4 : (Q4 M2) M4), ∀ (M6 : aM), ∀ (e6 : M6.2.2 = M4.2.2), ∀ (q6 : (Q6 M2 M4) M6), ∀ (M8 : aM), ∀ (e8 : M8.2.2 = M6.2.2), ∀ (q8 : (Q8 M2 M4 M6) M8), P (.inl (some (.int (Int32.ofInt 1)))) SHF M8) (r11 : ∀ (h1 : ((aset M 58 0 (.int (Int32.ofInt 0))).1 58 57 : Int32) = 0), P (.inl (some (.int (Int32.ofInt 0)))) SHF (aset M 58 0 (.int (Int32.ofInt 0)))) : AW l (pI pg 247) P kc ks 0 [(0, .ref 58)] [] SHF M := by
  refine AW.aload_n (dq rfl) rfl rfl ?_
  show AW l (pI pg 247) P kc ks 1 _ _ SHF _
  refine AW.iconst (dq rfl) ?_
  show AW l (pI pg 247) P kc ks 2 _ _ SHF _
  refine fw_putI (dq rfl) (pg_ok.2.1 247 _ _ _ _ rfl) rfl rfl rfl ?_
  show AW l (pI pg 247) P kc ks 5 _ _ SHF _
  refine AW.aload_n (dq rfl) rfl rfl ?_
  show AW l (pI pg 247) P kc ks 6 _ _ SHF _
  refine fw_get (dq rfl) (pg_ok.2.1 247 _ _ _ _ rfl) rfl (v := .int ((aset M 58 0 (.int (Int32.ofInt 0))).1 58 57)) rfl ?_
  show AW l (pI pg 247) P kc ks 9 _ _ SHF _
  refine AW.if_ne (dq rfl) (tgt := 14) (by decide) (fun h1 => ?_) (fun h1 => ?_)
  · have _ := h1
    refine AW.aload_n (dq rfl) rfl rfl ?_
    show AW l (pI pg 247) P kc ks 15 _ _ SHF _
    refine AW.aload_n (dq rfl) rfl rfl ?_
    show AW l (pI pg 247) P kc ks 16 _ _ SHF _
    refine fw_get (dq rfl) (pg_ok.2.1 247 _ _ _ _ rfl) rfl (v := .int ((aset M 58 0 (.int (Int32.ofInt 0))).1 58 58)) rfl ?_
    show AW l (pI pg 247) P kc ks 19 _ _ SHF _
    refine fw_putI (dq rfl) (pg_ok.2.1 247 _ _ _ _ rfl) rfl rfl rfl ?_
    show AW l (pI pg 247) P kc ks 22 _ _ SHF _
    refine AW.aload_n (dq rfl) rfl rfl ?_
    show AW l (pI pg 247) P kc ks 23 _ _ SHF _
    refine AW.aload_n (dq rfl) rfl rfl ?_
    show AW l (pI pg 247) P kc ks 24 _ _ SHF _
    refine fw_get (dq rfl) (pg_ok.2.1 247 _ _ _ _ rfl) rfl (v := .int ((aset (aset M 58 0 (.int (Int32.ofInt 0))) 58 51 (.int ((aset M 58 0 (.int (Int32.ofInt 0))).1 58 58))).1 58 59)) rfl ?_
    show AW l (pI pg 247) P kc ks 27 _ _ SHF _
    refine fw_putI (dq rfl) (pg_ok.2.1 247 _ _ _ _ rfl) rfl rfl rfl ?_
    show AW l (pI pg 247) P kc ks 30 _ _ SHF _
    refine AW.aload_n (dq rfl) rfl rfl ?_
    show AW l (pI pg 247) P kc ks 31 _ _ SHF _
    refine AW.aload_n (dq rfl) rfl rfl ?_
    show AW l (pI pg 247) P kc ks 32 _ _ SHF _
    refine fw_get (dq rfl) (pg_ok.2.1 247 _ _ _ _ rfl) rfl (v := .ref 89) (isTA_ok rfl (rgR_ok hJ rfl)) ?_
    show AW l (pI pg 247) P kc ks 35 _ _ SHF _
    refine AW.aload_n (dq rfl) rfl rfl ?_
    show AW l (pI pg 247) P kc ks 36 _ _ SHF _
    refine fw_get (dq rfl) (pg_ok.2.1 247 _ _ _ _ rfl) rfl (v := .ref 85) (isTA_ok rfl (rgR_ok hJ rfl)) ?_
    show AW l (pI pg 247) P kc ks 39 _ _ SHF _
    refine fw_callVV (as := [.ref 89, .ref 85]) (dq rfl) (pg_ok.2.2.1 247 _ _ _ _ rfl) rfl (by decide +kernel) rfl rfl (c3 h1) (fun M2 e2 q2 => ?_)
    have hJ2 : ∀ e ∈ RM, M2.2.2 e.1 e.2.1 = e.2.2 := fun e he => by rw [e2]; exact hJ e he
    show AW l (pI pg 247) P kc ks 42 [(0, .ref 58)] [] SHF _
    refine AW.aload_n (dq rfl) rfl rfl ?_
    show AW l (pI pg 247) P kc ks 43 _ _ SHF _
    refine AW.aload_n (dq rfl) rfl rfl ?_
    show AW l (pI pg 247) P kc ks 44 _ _ SHF _
    refine fw_get (dq rfl) (pg_ok.2.1 247 _ _ _ _ rfl) rfl (v := .ref 90) (isTA_ok rfl (rgR_ok hJ2 rfl)) ?_
    show AW l (pI pg 247) P kc ks 47 _ _ SHF _
    refine AW.aload_n (dq rfl) rfl rfl ?_
    show AW l (pI pg 247) P kc ks 48 _ _ SHF _
    refine fw_get (dq rfl) (pg_ok.2.1 247 _ _ _ _ rfl) rfl (v := .ref 86) (isTA_ok rfl (rgR_ok hJ2 rfl)) ?_
    show AW l (pI pg 247) P kc ks 51 _ _ SHF _
    refine fw_callVV (as := [.ref 90, .ref 86]) (dq rfl) (pg_ok.2.2.1 247 _ _ _ _ rfl) rfl (by decide +kernel) rfl rfl (c5 h1 M2 e2 q2) (fun M4 e4 q4 => ?_)
    have hJ4 : ∀ e ∈ RM, M4.2.2 e.1 e.2.1 = e.2.2 := fun e he => by rw [e4]; exact hJ2 e he
    show AW l (pI pg 247) P kc ks 54 [(0, .ref 58)] [] SHF _
    refine AW.aload_n (dq rfl) rfl rfl ?_
    show AW l (pI pg 247) P kc ks 55 _ _ SHF _
    refine AW.aload_n (dq rfl) rfl rfl ?_
    show AW l (pI pg 247) P kc ks 56 _ _ SHF _
    refine fw_get (dq rfl) (pg_ok.2.1 247 _ _ _ _ rfl) rfl (v := .ref 91) (isTA_ok rfl (rgR_ok hJ4 rfl)) ?_
    show AW l (pI pg 247) P kc ks 59 _ _ SHF _
    refine AW.aload_n (dq rfl) rfl rfl ?_
    show AW l (pI pg 247) P kc ks 60 _ _ SHF _
    refine fw_get (dq rfl) (pg_ok.2.1 247 _ _ _ _ rfl) rfl (v := .ref 87) (isTA_ok rfl (rgR_ok hJ4 rfl)) ?_
    show AW l (pI pg 247) P kc ks 63 _ _ SHF _
    refine fw_callVV (as := [.ref 91, .ref 87]) (dq rfl) (pg_ok.2.2.1 247 _ _ _ _ rfl) rfl (by decide +kernel) rfl rfl (c7 h1 M2 e2 q2 M4 e4 q4) (fun M6 e6 q6 => ?_)
    have hJ6 : ∀ e ∈ RM, M6.2.2 e.1 e.2.1 = e.2.2 := fun e he => by rw [e6]; exact hJ4 e he
    show AW l (pI pg 247) P kc ks 66 [(0, .ref 58)] [] SHF _
    refine AW.aload_n (dq rfl) rfl rfl ?_
    show AW l (pI pg 247) P kc ks 67 _ _ SHF _
    refine AW.aload_n (dq rfl) rfl rfl ?_
    show AW l (pI pg 247) P kc ks 68 _ _ SHF _
    refine fw_get (dq rfl) (pg_ok.2.1 247 _ _ _ _ rfl) rfl (v := .ref 92) (isTA_ok rfl (rgR_ok hJ6 rfl)) ?_
    show AW l (pI pg 247) P kc ks 71 _ _ SHF _
    refine AW.aload_n (dq rfl) rfl rfl ?_
    show AW l (pI pg 247) P kc ks 72 _ _ SHF _
    refine fw_get (dq rfl) (pg_ok.2.1 247 _ _ _ _ rfl) rfl (v := .ref 88) (isTA_ok rfl (rgR_ok hJ6 rfl)) ?_
    show AW l (pI pg 247) P kc ks 75 _ _ SHF _
    refine fw_callVV (as := [.ref 92, .ref 88]) (dq rfl) (pg_ok.2.2.1 247 _ _ _ _ rfl) rfl (by decide +kernel) rfl rfl (c9 h1 M2 e2 q2 M4 e4 q4 M6 e6 q6) (fun M8 e8 q8 => ?_)
    have hJ8 : ∀ e ∈ RM, M8.2.2 e.1 e.2.1 = e.2.2 := fun e he => by rw [e8]; exact hJ6 e he
    show AW l (pI pg 247) P kc ks 78 [(0, .ref 58)] [] SHF _
    refine AW.iconst (dq rfl) ?_
    show AW l (pI pg 247) P kc ks 79 _ _ SHF _
    refine AW.zret (dq rfl) rfl (by decide) ?_
    exact r10 h1 M2 e2 q2 M4 e4 q4 M6 e6 q6 M8 e8 q8
  · have _ := h1
    refine AW.iconst (dq rfl) ?_
    show AW l (pI pg 247) P kc ks 13 _ _ SHF _
    refine AW.zret (dq rfl) rfl (by decide) ?_
    exact r11 h1

theorem mbe_0 {l : aL} {P : aP} {kc ks : Nat} {x : Int32} {M : aM} (hJ : ∀ e ∈ RM, M.2.2 e.1 e.2.1 = e.2.2)  (k1 : AW l (pI pg 238) P kc ks 17 [(2, .int (Int32.ofInt 0)), (1, .int (x)), (0, .ref 58)] [] SHF (aset (aset (aset M 58 0 (.int (Int32.ofInt 0))) 58 51 (.int (Int32.ofInt 0))) 58 52 (.int (x)))) : AW l (pI pg 238) P kc ks 0 [(0, .ref 58), (1, .int (x))] [] SHF M := by
  refine AW.aload_n (dq rfl) rfl rfl ?_
  show AW l (pI pg 238) P kc ks 1 _ _ SHF _
  refine AW.iconst (dq rfl) ?_
  show AW l (pI pg 238) P kc ks 2 _ _ SHF _
  refine fw_putI (dq rfl) (pg_ok.2.1 238 _ _ _ _ rfl) rfl rfl rfl ?_
  show AW l (pI pg 238) P kc ks 5 _ _ SHF _
  refine AW.aload_n (dq rfl) rfl rfl ?_
  show AW l (pI pg 238) P kc ks 6 _ _ SHF _
  refine AW.iconst (dq rfl) ?_
  show AW l (pI pg 238) P kc ks 7 _ _ SHF _
  refine fw_putI (dq rfl) (pg_ok.2.1 238 _ _ _ _ rfl) rfl rfl rfl ?_
  show AW l (pI pg 238) P kc ks 10 _ _ SHF _
  refine AW.aload_n (dq rfl) rfl rfl ?_
  show AW l (pI pg 238) P kc ks 11 _ _ SHF _
  refine AW.iload_n (dq rfl) rfl ?_
  show AW l (pI pg 238) P kc ks 12 _ _ SHF _
  refine fw_putI (dq rfl) (pg_ok.2.1 238 _ _ _ _ rfl) rfl rfl rfl ?_
  show AW l (pI pg 238) P kc ks 15 _ _ SHF _
  refine AW.iconst (dq rfl) ?_
  show AW l (pI pg 238) P kc ks 16 _ _ SHF _
  refine AW.istore_n (dq rfl) (by decide +kernel) ?_
  show AW l (pI pg 238) P kc ks 17 [(2, .int (Int32.ofInt 0)), (0, .ref 58), (1, .int (x))] [] SHF _
  refine AW.drop (lv' := [(2, .int (Int32.ofInt 0)), (1, .int (x)), (0, .ref 58)]) (List.forall_mem_cons.mpr ⟨List.mem_of_getElem? (i := 0) rfl, List.forall_mem_cons.mpr ⟨List.mem_of_getElem? (i := 2) rfl, List.forall_mem_cons.mpr ⟨List.mem_of_getElem? (i := 1) rfl, fun _ h => absurd h List.not_mem_nil⟩⟩⟩) ?_
  exact k1

theorem mbe_17 {l : aL} {P : aP} {kc ks : Nat} {i : Nat} {x : Int32} {M : aM} (hJ : ∀ e ∈ RM, M.2.2 e.1 e.2.1 = e.2.2)  (r2 : ∀ (h1 : ((Int8.ofInt 6).toInt32 : Int32) ≤ (nI i : Int32)), P (.inl none) SHF M) (o3 : ∀ (h1 : ¬ (((Int8.ofInt 6).toInt32 : Int32) ≤ (nI i : Int32))), vp_in (nI i) 6) (k4 : ∀ (h1 : ¬ (((Int8.ofInt 6).toInt32 : Int32) ≤ (nI i : Int32))), AW l (pI pg 238) P kc ks 32 [(3, .int (Int32.ofInt 0)), (2, .int (nI i)), (1, .int (x)), (0, .ref 58)] [] SHF (aset M 85 (nI i).toNatClampNeg (.int (Int32.ofInt 0)))) : AW l (pI pg 238) P kc ks 17 [(2, .int (nI i)), (1, .int (x)), (0, .ref 58)] [] SHF M := by
  refine AW.iload_n (dq rfl) rfl ?_
  show AW l (pI pg 238) P kc ks 18 _ _ SHF _
  refine AW.bipush (dq rfl) ?_
  show AW l (pI pg 238) P kc ks 20 _ _ SHF _
  refine AW.icmp_ge (dq rfl) (tgt := 116) (by decide) (fun h1 => ?_) (fun h1 => ?_)
  · have _ := h1
    refine AW.vret (dq rfl) rfl ?_
    exact r2 h1
  · have _ := h1
    refine AW.aload_n (dq rfl) rfl rfl ?_
    show AW l (pI pg 238) P kc ks 24 _ _ SHF _
    refine fw_get (dq rfl) (pg_ok.2.1 238 _ _ _ _ rfl) rfl (v := .ref 85) (isTA_ok rfl (rgR_ok hJ rfl)) ?_
    show AW l (pI pg 238) P kc ks 27 _ _ SHF _
    refine AW.iload_n (dq rfl) rfl ?_
    show AW l (pI pg 238) P kc ks 28 _ _ SHF _
    refine AW.iconst (dq rfl) ?_
    show AW l (pI pg 238) P kc ks 29 _ _ SHF _
    refine AW.iast (dq rfl) rfl (o3 h1) ?_
    show AW l (pI pg 238) P kc ks 30 _ _ SHF _
    refine AW.iconst (dq rfl) ?_
    show AW l (pI pg 238) P kc ks 31 _ _ SHF _
    refine AW.istore_n (dq rfl) (by decide +kernel) ?_
    show AW l (pI pg 238) P kc ks 32 [(3, .int (Int32.ofInt 0)), (2, .int (nI i)), (1, .int (x)), (0, .ref 58)] [] SHF _
    refine AW.drop (lv' := [(3, .int (Int32.ofInt 0)), (2, .int (nI i)), (1, .int (x)), (0, .ref 58)]) (List.forall_mem_cons.mpr ⟨List.mem_of_getElem? (i := 0) rfl, List.forall_mem_cons.mpr ⟨List.mem_of_getElem? (i := 1) rfl, List.forall_mem_cons.mpr ⟨List.mem_of_getElem? (i := 2) rfl, List.forall_mem_cons.mpr ⟨List.mem_of_getElem? (i := 3) rfl, fun _ h => absurd h List.not_mem_nil⟩⟩⟩⟩) ?_
    exact k4 h1

theorem mbe_32 {l : aL} {P : aP} {kc ks : Nat} {i j : Nat} {x : Int32} {M : aM} (hJ : ∀ e ∈ RM, M.2.2 e.1 e.2.1 = e.2.2)  (k2 : ∀ (h1 : (M.1 58 2 : Int32) ≤ (nI j : Int32)), AW l (pI pg 238) P kc ks 86 [(3, .int (Int32.ofInt 0)), (2, .int (nI i)), (1, .int (x)), (0, .ref 58)] [] SHF M) (k4 : ∀ (h1 : ¬ ((M.1 58 2 : Int32) ≤ (nI j : Int32))), ∀ (h3 : (M.1 58 1 : Int32) ≤ (nI i : Int32)), AW l (pI pg 238) P kc ks 86 [(3, .int (Int32.ofInt 0)), (2, .int (nI i)), (1, .int (x)), (0, .ref 58)] [] SHF M) (o5 : ∀ (h1 : ¬ ((M.1 58 2 : Int32) ≤ (nI j : Int32))), ∀ (h3 : ¬ ((M.1 58 1 : Int32) ≤ (nI i : Int32))), vp_in (nI i) 6) (o6 : ∀ (h1 : ¬ ((M.1 58 2 : Int32) ≤ (nI j : Int32))), ∀ (h3 : ¬ ((M.1 58 1 : Int32) ≤ (nI i : Int32))), vp_in ((((Int8.ofInt 8).toInt32) * (nI i)) + (nI j)) 48) (k8 : ∀ (h1 : ¬ ((M.1 58 2 : Int32) ≤ (nI j : Int32))), ∀ (h3 : ¬ ((M.1 58 1 : Int32) ≤ (nI i : Int32))), ∀ (h7 : (M.1 63 ((((Int8.ofInt 8).toInt32) * (nI i)) + (nI j)).toNatClampNeg : Int32) ≤ 0), AW l (pI pg 238) P kc ks 32 [(3, .int ((nI j) + Int32.ofInt 1)), (2, .int (nI i)), (1, .int (x)), (0, .ref 58)] [] SHF (aset M 85 (nI i).toNatClampNeg (.int ((M.1 85 (nI i).toNatClampNeg) ||| (Int32.ofInt 0))))) (k9 : ∀ (h1 : ¬ ((M.1 58 2 : Int32) ≤ (nI j : Int32))), ∀ (h3 : ¬ ((M.1 58 1 : Int32) ≤ (nI i : Int32))), ∀ (h7 : ¬ ((M.1 63 ((((Int8.ofInt 8).toInt32) * (nI i)) + (nI j)).toNatClampNeg : Int32) ≤ 0)), AW l (pI pg 238) P kc ks 32 [(3, .int ((nI j) + Int32.ofInt 1)), (2, .int (nI i)), (1, .int (x)), (0, .ref 58)] [] SHF (aset M 85 (nI i).toNatClampNeg (.int ((M.1 85 (nI i).toNatClampNeg) ||| ((Int32.ofInt 1) <<< ((nI j) &&& 31)))))) : AW l (pI pg 238) P kc ks 32 [(3, .int (nI j)), (2, .int (nI i)), (1, .int (x)), (0, .ref 58)] [] SHF M := by
  refine AW.iload_n (dq rfl) rfl ?_
  show AW l (pI pg 238) P kc ks 33 _ _ SHF _
  refine AW.aload_n (dq rfl) rfl rfl ?_
  show AW l (pI pg 238) P kc ks 34 _ _ SHF _
  refine fw_get (dq rfl) (pg_ok.2.1 238 _ _ _ _ rfl) rfl (v := .int (M.1 58 2)) rfl ?_
  show AW l (pI pg 238) P kc ks 37 _ _ SHF _
  refine AW.icmp_ge (dq rfl) (tgt := 84) (by decide) (fun h1 => ?_) (fun h1 => ?_)
  · have _ := h1
    refine AW.iconst (dq rfl) ?_
    show AW l (pI pg 238) P kc ks 85 _ _ SHF _
    refine AW.istore_n (dq rfl) (by decide +kernel) ?_
    show AW l (pI pg 238) P kc ks 86 [(3, .int (Int32.ofInt 0)), (2, .int (nI i)), (1, .int (x)), (0, .ref 58)] [] SHF _
    refine AW.drop (lv' := [(3, .int (Int32.ofInt 0)), (2, .int (nI i)), (1, .int (x)), (0, .ref 58)]) (List.forall_mem_cons.mpr ⟨List.mem_of_getElem? (i := 0) rfl, List.forall_mem_cons.mpr ⟨List.mem_of_getElem? (i := 1) rfl, List.forall_mem_cons.mpr ⟨List.mem_of_getElem? (i := 2) rfl, List.forall_mem_cons.mpr ⟨List.mem_of_getElem? (i := 3) rfl, fun _ h => absurd h List.not_mem_nil⟩⟩⟩⟩) ?_
    exact k2 h1
  · have _ := h1
    refine AW.iload_n (dq rfl) rfl ?_
    show AW l (pI pg 238) P kc ks 41 _ _ SHF _
    refine AW.aload_n (dq rfl) rfl rfl ?_
    show AW l (pI pg 238) P kc ks 42 _ _ SHF _
    refine fw_get (dq rfl) (pg_ok.2.1 238 _ _ _ _ rfl) rfl (v := .int (M.1 58 1)) rfl ?_
    show AW l (pI pg 238) P kc ks 45 _ _ SHF _
    refine AW.icmp_ge (dq rfl) (tgt := 84) (by decide) (fun h3 => ?_) (fun h3 => ?_)
    · have _ := h3
      refine AW.iconst (dq rfl) ?_
      show AW l (pI pg 238) P kc ks 85 _ _ SHF _
      refine AW.istore_n (dq rfl) (by decide +kernel) ?_
      show AW l (pI pg 238) P kc ks 86 [(3, .int (Int32.ofInt 0)), (2, .int (nI i)), (1, .int (x)), (0, .ref 58)] [] SHF _
      refine AW.drop (lv' := [(3, .int (Int32.ofInt 0)), (2, .int (nI i)), (1, .int (x)), (0, .ref 58)]) (List.forall_mem_cons.mpr ⟨List.mem_of_getElem? (i := 0) rfl, List.forall_mem_cons.mpr ⟨List.mem_of_getElem? (i := 1) rfl, List.forall_mem_cons.mpr ⟨List.mem_of_getElem? (i := 2) rfl, List.forall_mem_cons.mpr ⟨List.mem_of_getElem? (i := 3) rfl, fun _ h => absurd h List.not_mem_nil⟩⟩⟩⟩) ?_
      exact k4 h1 h3
    · have _ := h3
      refine AW.aload_n (dq rfl) rfl rfl ?_
      show AW l (pI pg 238) P kc ks 49 _ _ SHF _
      refine fw_get (dq rfl) (pg_ok.2.1 238 _ _ _ _ rfl) rfl (v := .ref 85) (isTA_ok rfl (rgR_ok hJ rfl)) ?_
      show AW l (pI pg 238) P kc ks 52 _ _ SHF _
      refine AW.iload_n (dq rfl) rfl ?_
      show AW l (pI pg 238) P kc ks 53 _ _ SHF _
      refine AW.dup2_11 (dq rfl) rfl rfl ?_
      show AW l (pI pg 238) P kc ks 54 _ _ SHF _
      refine AW.iald (dq rfl) rfl (o5 h1 h3) ?_
      show AW l (pI pg 238) P kc ks 55 _ _ SHF _
      refine AW.aload_n (dq rfl) rfl rfl ?_
      show AW l (pI pg 238) P kc ks 56 _ _ SHF _
      refine fw_get (dq rfl) (pg_ok.2.1 238 _ _ _ _ rfl) rfl (v := .ref 63) (isTA_ok rfl (rgR_ok hJ rfl)) ?_
      show AW l (pI pg 238) P kc ks 59 _ _ SHF _
      refine AW.bipush (dq rfl) ?_
      show AW l (pI pg 238) P kc ks 61 _ _ SHF _
      refine AW.iload_n (dq rfl) rfl ?_
      show AW l (pI pg 238) P kc ks 62 _ _ SHF _
      refine AW.imul (dq rfl) ?_
      show AW l (pI pg 238) P kc ks 63 _ _ SHF _
      refine AW.iload_n (dq rfl) rfl ?_
      show AW l (pI pg 238) P kc ks 64 _ _ SHF _
      refine AW.iadd (dq rfl) ?_
      show AW l (pI pg 238) P kc ks 65 _ _ SHF _
      refine AW.iald (dq rfl) rfl (o6 h1 h3) ?_
      show AW l (pI pg 238) P kc ks 66 _ _ SHF _
      refine AW.if_le (dq rfl) (tgt := 75) (by decide) (fun h7 => ?_) (fun h7 => ?_)
      · have _ := h7
        refine AW.iconst (dq rfl) ?_
        show AW l (pI pg 238) P kc ks 76 _ _ SHF _
        refine AW.ior (dq rfl) ?_
        show AW l (pI pg 238) P kc ks 77 _ _ SHF _
        refine AW.iast (dq rfl) rfl (o5 h1 h3) ?_
        show AW l (pI pg 238) P kc ks 78 _ _ SHF _
        refine AW.iinc (dq rfl) rfl (by decide +kernel) ?_
        show AW l (pI pg 238) P kc ks 81 [(3, .int ((nI j) + Int32.ofInt 1)), (2, .int (nI i)), (1, .int (x)), (0, .ref 58)] [] SHF _
        refine AW.goto (dq rfl) (tgt := 32) (by decide) ?_
        refine AW.drop (lv' := [(3, .int ((nI j) + Int32.ofInt 1)), (2, .int (nI i)), (1, .int (x)), (0, .ref 58)]) (List.forall_mem_cons.mpr ⟨List.mem_of_getElem? (i := 0) rfl, List.forall_mem_cons.mpr ⟨List.mem_of_getElem? (i := 1) rfl, List.forall_mem_cons.mpr ⟨List.mem_of_getElem? (i := 2) rfl, List.forall_mem_cons.mpr ⟨List.mem_of_getElem? (i := 3) rfl, fun _ h => absurd h List.not_mem_nil⟩⟩⟩⟩) ?_
        exact k8 h1 h3 h7
      · have _ := h7
        refine AW.iconst (dq rfl) ?_
        show AW l (pI pg 238) P kc ks 70 _ _ SHF _
        refine AW.iload_n (dq rfl) rfl ?_
        show AW l (pI pg 238) P kc ks 71 _ _ SHF _
        refine AW.ishl (dq rfl) ?_
        show AW l (pI pg 238) P kc ks 72 _ _ SHF _
        refine AW.goto (dq rfl) (tgt := 76) (by decide) ?_
        refine AW.ior (dq rfl) ?_
        show AW l (pI pg 238) P kc ks 77 _ _ SHF _
        refine AW.iast (dq rfl) rfl (o5 h1 h3) ?_
        show AW l (pI pg 238) P kc ks 78 _ _ SHF _
        refine AW.iinc (dq rfl) rfl (by decide +kernel) ?_
        show AW l (pI pg 238) P kc ks 81 [(3, .int ((nI j) + Int32.ofInt 1)), (2, .int (nI i)), (1, .int (x)), (0, .ref 58)] [] SHF _
        refine AW.goto (dq rfl) (tgt := 32) (by decide) ?_
        refine AW.drop (lv' := [(3, .int ((nI j) + Int32.ofInt 1)), (2, .int (nI i)), (1, .int (x)), (0, .ref 58)]) (List.forall_mem_cons.mpr ⟨List.mem_of_getElem? (i := 0) rfl, List.forall_mem_cons.mpr ⟨List.mem_of_getElem? (i := 1) rfl, List.forall_mem_cons.mpr ⟨List.mem_of_getElem? (i := 2) rfl, List.forall_mem_cons.mpr ⟨List.mem_of_getElem? (i := 3) rfl, fun _ h => absurd h List.not_mem_nil⟩⟩⟩⟩) ?_
        exact k9 h1 h3 h7

theorem mbe_86 {l : aL} {P : aP} {kc ks : Nat} {i j : Nat} {x : Int32} {M : aM} (hJ : ∀ e ∈ RM, M.2.2 e.1 e.2.1 = e.2.2)  (k2 : ∀ (h1 : ((Int8.ofInt 8).toInt32 : Int32) ≤ (nI j : Int32)), AW l (pI pg 238) P kc ks 17 [(2, .int ((nI i) + Int32.ofInt 1)), (1, .int (x)), (0, .ref 58)] [] SHF M) (o3 : ∀ (h1 : ¬ (((Int8.ofInt 8).toInt32 : Int32) ≤ (nI j : Int32))), vp_in ((((Int8.ofInt 8).toInt32) * (nI i)) + (nI j)) 48) (k4 : ∀ (h1 : ¬ (((Int8.ofInt 8).toInt32 : Int32) ≤ (nI j : Int32))), AW l (pI pg 238) P kc ks 86 [(3, .int ((nI j) + Int32.ofInt 1)), (2, .int (nI i)), (1, .int (x)), (0, .ref 58)] [] SHF (aset M 86 ((((Int8.ofInt 8).toInt32) * (nI i)) + (nI j)).toNatClampNeg (.int (Int32.ofInt (-1))))) : AW l (pI pg 238) P kc ks 86 [(3, .int (nI j)), (2, .int (nI i)), (1, .int (x)), (0, .ref 58)] [] SHF M := by
  refine AW.iload_n (dq rfl) rfl ?_
  show AW l (pI pg 238) P kc ks 87 _ _ SHF _
  refine AW.bipush (dq rfl) ?_
  show AW l (pI pg 238) P kc ks 89 _ _ SHF _
  refine AW.icmp_ge (dq rfl) (tgt := 110) (by decide) (fun h1 => ?_) (fun h1 => ?_)
  · have _ := h1
    refine AW.iinc (dq rfl) rfl (by decide +kernel) ?_
    show AW l (pI pg 238) P kc ks 113 [(2, .int ((nI i) + Int32.ofInt 1)), (3, .int (nI j)), (1, .int (x)), (0, .ref 58)] [] SHF _
    refine AW.goto (dq rfl) (tgt := 17) (by decide) ?_
    refine AW.drop (lv' := [(2, .int ((nI i) + Int32.ofInt 1)), (1, .int (x)), (0, .ref 58)]) (List.forall_mem_cons.mpr ⟨List.mem_of_getElem? (i := 0) rfl, List.forall_mem_cons.mpr ⟨List.mem_of_getElem? (i := 2) rfl, List.forall_mem_cons.mpr ⟨List.mem_of_getElem? (i := 3) rfl, fun _ h => absurd h List.not_mem_nil⟩⟩⟩) ?_
    exact k2 h1
  · have _ := h1
    refine AW.aload_n (dq rfl) rfl rfl ?_
    show AW l (pI pg 238) P kc ks 93 _ _ SHF _
    refine fw_get (dq rfl) (pg_ok.2.1 238 _ _ _ _ rfl) rfl (v := .ref 86) (isTA_ok rfl (rgR_ok hJ rfl)) ?_
    show AW l (pI pg 238) P kc ks 96 _ _ SHF _
    refine AW.bipush (dq rfl) ?_
    show AW l (pI pg 238) P kc ks 98 _ _ SHF _
    refine AW.iload_n (dq rfl) rfl ?_
    show AW l (pI pg 238) P kc ks 99 _ _ SHF _
    refine AW.imul (dq rfl) ?_
    show AW l (pI pg 238) P kc ks 100 _ _ SHF _
    refine AW.iload_n (dq rfl) rfl ?_
    show AW l (pI pg 238) P kc ks 101 _ _ SHF _
    refine AW.iadd (dq rfl) ?_
    show AW l (pI pg 238) P kc ks 102 _ _ SHF _
    refine AW.iconst (dq rfl) ?_
    show AW l (pI pg 238) P kc ks 103 _ _ SHF _
    refine AW.iast (dq rfl) rfl (o3 h1) ?_
    show AW l (pI pg 238) P kc ks 104 _ _ SHF _
    refine AW.iinc (dq rfl) rfl (by decide +kernel) ?_
    show AW l (pI pg 238) P kc ks 107 [(3, .int ((nI j) + Int32.ofInt 1)), (2, .int (nI i)), (1, .int (x)), (0, .ref 58)] [] SHF _
    refine AW.goto (dq rfl) (tgt := 86) (by decide) ?_
    refine AW.drop (lv' := [(3, .int ((nI j) + Int32.ofInt 1)), (2, .int (nI i)), (1, .int (x)), (0, .ref 58)]) (List.forall_mem_cons.mpr ⟨List.mem_of_getElem? (i := 0) rfl, List.forall_mem_cons.mpr ⟨List.mem_of_getElem? (i := 1) rfl, List.forall_mem_cons.mpr ⟨List.mem_of_getElem? (i := 2) rfl, List.forall_mem_cons.mpr ⟨List.mem_of_getElem? (i := 3) rfl, fun _ h => absurd h List.not_mem_nil⟩⟩⟩⟩) ?_
    exact k4 h1

theorem mon_0 {l : aL} {P : aP} {kc ks : Nat} {x : Int32} {M : aM} (hJ : ∀ e ∈ RM, M.2.2 e.1 e.2.1 = e.2.2)  (Q1 : Int32 → aM → Prop) (c2 : AC l (pI pg 195) (fcI (aset M 58 0 (.int (Int32.ofInt 0))) Q1) 0 0 [.int (x), .int (Int32.ofInt 0), .int ((Int8.ofInt 60).toInt32)] SHF (aset M 58 0 (.int (Int32.ofInt 0)))) (Q3 : Int32 → aM → Int32 → aM → Prop) (c4 : ∀ (y1 : Int32), ∀ (M1 : aM), ∀ (e1 : M1.2.2 = (aset M 58 0 (.int (Int32.ofInt 0))).2.2), ∀ (q1 : Q1 y1 M1), AC l (pI pg 175) (fcI M1 (Q3 y1 M1)) 0 0 [.ref 58, .int (y1), .int (Int32.ofInt 1)] SHF M1) (o7 : ∀ (y1 : Int32), ∀ (M1 : aM), ∀ (e1 : M1.2.2 = (aset M 58 0 (.int (Int32.ofInt 0))).2.2), ∀ (q1 : Q1 y1 M1), ∀ (y3 : Int32), ∀ (M3 : aM), ∀ (e3 : M3.2.2 = M1.2.2), ∀ (q3 : (Q3 y1 M1) y3 M3), ∀ (h5 : ¬ (y3 : Int32) = 0), ∀ (h6 : (M3.1 58 51 : Int32) = (Int32.ofInt (-1) : Int32)), vp_in (Int32.ofInt 2) 3) (r8 : ∀ (y1 : Int32), ∀ (M1 : aM), ∀ (e1 : M1.2.2 = (aset M 58 0 (.int (Int32.ofInt 0))).2.2), ∀ (q1 : Q1 y1 M1), ∀ (y3 : Int32), ∀ (M3 : aM), ∀ (e3 : M3.2.2 = M1.2.2), ∀ (q3 : (Q3 y1 M1) y3 M3), ∀ (h5 : ¬ (y3 : Int32) = 0), ∀ (h6 : (M3.1 58 51 : Int32) = (Int32.ofInt (-1) : Int32)), P (.inl (some (.int (Int32.ofInt (-1))))) SHF (aset M3 66 (Int32.ofInt 2).toNatClampNeg (.int ((M3.1 66 (Int32.ofInt 2).toNatClampNeg) + (Int32.ofInt 1))))) (k10 : ∀ (y1 : Int32), ∀ (M1 : aM), ∀ (e1 : M1.2.2 = (aset M 58 0 (.int (Int32.ofInt 0))).2.2), ∀ (q1 : Q1 y1 M1), ∀ (y3 : Int32), ∀ (M3 : aM), ∀ (e3 : M3.2.2 = M1.2.2), ∀ (q3 : (Q3 y1 M1) y3 M3), ∀ (h5 : ¬ (y3 : Int32) = 0), ∀ (h6 : ¬ ((M3.1 58 51 : Int32) = (Int32.ofInt (-1) : Int32))), ∀ (h9 : ((M3.1 58 51) + (x) : Int32) ≤ ((Int16.ofInt 200).toInt32 : Int32)), AW l (pI pg 239) P kc ks 56 [(2, .int (Int32.ofInt 0)), (1, .int (x)), (0, .ref 58)] [] SHF M3) (o11 : ∀ (y1 : Int32), ∀ (M1 : aM), ∀ (e1 : M1.2.2 = (aset M 58 0 (.int (Int32.ofInt 0))).2.2), ∀ (q1 : Q1 y1 M1), ∀ (y3 : Int32), ∀ (M3 : aM), ∀ (e3 : M3.2.2 = M1.2.2), ∀ (q3 : (Q3 y1 M1) y3 M3), ∀ (h5 : ¬ (y3 : Int32) = 0), ∀ (h6 : ¬ ((M3.1 58 51 : Int32) = (Int32.ofInt (-1) : Int32))), ∀ (h9 : ¬ (((M3.1 58 51) + (x) : Int32) ≤ ((Int16.ofInt 200).toInt32 : Int32))), vp_in (Int32.ofInt 2) 3) (r12 : ∀ (y1 : Int32), ∀ (M1 : aM), ∀ (e1 : M1.2.2 = (aset M 58 0 (.int (Int32.ofInt 0))).2.2), ∀ (q1 : Q1 y1 M1), ∀ (y3 : Int32), ∀ (M3 : aM), ∀ (e3 : M3.2.2 = M1.2.2), ∀ (q3 : (Q3 y1 M1) y3 M3), ∀ (h5 : ¬ (y3 : Int32) = 0), ∀ (h6 : ¬ ((M3.1 58 51 : Int32) = (Int32.ofInt (-1) : Int32))), ∀ (h9 : ¬ (((M3.1 58 51) + (x) : Int32) ≤ ((Int16.ofInt 200).toInt32 : Int32))), P (.inl (some (.int (Int32.ofInt (-1))))) SHF (aset M3 66 (Int32.ofInt 2).toNatClampNeg (.int ((M3.1 66 (Int32.ofInt 2).toNatClampNeg) + (Int32.ofInt 1))))) (r13 : ∀ (y1 : Int32), ∀ (M1 : aM), ∀ (e1 : M1.2.2 = (aset M 58 0 (.int (Int32.ofInt 0))).2.2), ∀ (q1 : Q1 y1 M1), ∀ (y3 : Int32), ∀ (M3 : aM), ∀ (e3 : M3.2.2 = M1.2.2), ∀ (q3 : (Q3 y1 M1) y3 M3), ∀ (h5 : (y3 : Int32) = 0), P (.inl (some (.int (Int32.ofInt 0)))) SHF M3) : AW l (pI pg 239) P kc ks 0 [(0, .ref 58), (1, .int (x))] [] SHF M := by
  refine AW.aload_n (dq rfl) rfl rfl ?_
  show AW l (pI pg 239) P kc ks 1 _ _ SHF _
  refine AW.iconst (dq rfl) ?_
  show AW l (pI pg 239) P kc ks 2 _ _ SHF _
  refine fw_putI (dq rfl) (pg_ok.2.1 239 _ _ _ _ rfl) rfl rfl rfl ?_
  show AW l (pI pg 239) P kc ks 5 _ _ SHF _
  refine AW.aload_n (dq rfl) rfl rfl ?_
  show AW l (pI pg 239) P kc ks 6 _ _ SHF _
  refine AW.iload_n (dq rfl) rfl ?_
  show AW l (pI pg 239) P kc ks 7 _ _ SHF _
  refine AW.iconst (dq rfl) ?_
  show AW l (pI pg 239) P kc ks 8 _ _ SHF _
  refine AW.bipush (dq rfl) ?_
  show AW l (pI pg 239) P kc ks 10 _ _ SHF _
  refine fw_callSI (as := [.int (x), .int (Int32.ofInt 0), .int ((Int8.ofInt 60).toInt32)]) (dq rfl) (pg_ok.2.2.1 239 _ _ _ _ rfl) (by decide +kernel) rfl rfl (c2) (fun y1 M1 e1 q1 => ?_)
  have hJ1 : ∀ e ∈ RM, M1.2.2 e.1 e.2.1 = e.2.2 := fun e he => by rw [e1]; exact hJ e he
  show AW l (pI pg 239) P kc ks 13 [(0, .ref 58), (1, .int (x))] [.int (y1), .ref 58] SHF _
  refine AW.iconst (dq rfl) ?_
  show AW l (pI pg 239) P kc ks 14 _ _ SHF _
  refine fw_callVI (as := [.int (y1), .int (Int32.ofInt 1)]) (dq rfl) (pg_ok.2.2.1 239 _ _ _ _ rfl) rfl (by decide +kernel) rfl rfl (c4 y1 M1 e1 q1) (fun y3 M3 e3 q3 => ?_)
  have hJ3 : ∀ e ∈ RM, M3.2.2 e.1 e.2.1 = e.2.2 := fun e he => by rw [e3]; exact hJ1 e he
  show AW l (pI pg 239) P kc ks 17 [(0, .ref 58), (1, .int (x))] [.int (y3)] SHF _
  refine AW.if_ne (dq rfl) (tgt := 22) (by decide) (fun h5 => ?_) (fun h5 => ?_)
  · have _ := h5
    refine AW.aload_n (dq rfl) rfl rfl ?_
    show AW l (pI pg 239) P kc ks 23 _ _ SHF _
    refine fw_get (dq rfl) (pg_ok.2.1 239 _ _ _ _ rfl) rfl (v := .int (M3.1 58 51)) rfl ?_
    show AW l (pI pg 239) P kc ks 26 _ _ SHF _
    refine AW.iconst (dq rfl) ?_
    show AW l (pI pg 239) P kc ks 27 _ _ SHF _
    refine AW.icmp_eq (dq rfl) (tgt := 42) (by decide) (fun h6 => ?_) (fun h6 => ?_)
    · have _ := h6
      refine AW.aload_n (dq rfl) rfl rfl ?_
      show AW l (pI pg 239) P kc ks 43 _ _ SHF _
      refine fw_get (dq rfl) (pg_ok.2.1 239 _ _ _ _ rfl) rfl (v := .ref 66) (isTA_ok rfl (rgR_ok hJ3 rfl)) ?_
      show AW l (pI pg 239) P kc ks 46 _ _ SHF _
      refine AW.iconst (dq rfl) ?_
      show AW l (pI pg 239) P kc ks 47 _ _ SHF _
      refine AW.dup2_11 (dq rfl) rfl rfl ?_
      show AW l (pI pg 239) P kc ks 48 _ _ SHF _
      refine AW.iald (dq rfl) rfl (o7 y1 M1 e1 q1 y3 M3 e3 q3 h5 h6) ?_
      show AW l (pI pg 239) P kc ks 49 _ _ SHF _
      refine AW.iconst (dq rfl) ?_
      show AW l (pI pg 239) P kc ks 50 _ _ SHF _
      refine AW.iadd (dq rfl) ?_
      show AW l (pI pg 239) P kc ks 51 _ _ SHF _
      refine AW.iast (dq rfl) rfl (o7 y1 M1 e1 q1 y3 M3 e3 q3 h5 h6) ?_
      show AW l (pI pg 239) P kc ks 52 _ _ SHF _
      refine AW.iconst (dq rfl) ?_
      show AW l (pI pg 239) P kc ks 53 _ _ SHF _
      refine AW.iret (dq rfl) rfl ?_
      exact r8 y1 M1 e1 q1 y3 M3 e3 q3 h5 h6
    · have _ := h6
      refine AW.aload_n (dq rfl) rfl rfl ?_
      show AW l (pI pg 239) P kc ks 31 _ _ SHF _
      refine fw_get (dq rfl) (pg_ok.2.1 239 _ _ _ _ rfl) rfl (v := .int (M3.1 58 51)) rfl ?_
      show AW l (pI pg 239) P kc ks 34 _ _ SHF _
      refine AW.iload_n (dq rfl) rfl ?_
      show AW l (pI pg 239) P kc ks 35 _ _ SHF _
      refine AW.iadd (dq rfl) ?_
      show AW l (pI pg 239) P kc ks 36 _ _ SHF _
      refine AW.sipush (dq rfl) ?_
      show AW l (pI pg 239) P kc ks 39 _ _ SHF _
      refine AW.icmp_le (dq rfl) (tgt := 54) (by decide) (fun h9 => ?_) (fun h9 => ?_)
      · have _ := h9
        refine AW.iconst (dq rfl) ?_
        show AW l (pI pg 239) P kc ks 55 _ _ SHF _
        refine AW.istore_n (dq rfl) (by decide +kernel) ?_
        show AW l (pI pg 239) P kc ks 56 [(2, .int (Int32.ofInt 0)), (0, .ref 58), (1, .int (x))] [] SHF _
        refine AW.drop (lv' := [(2, .int (Int32.ofInt 0)), (1, .int (x)), (0, .ref 58)]) (List.forall_mem_cons.mpr ⟨List.mem_of_getElem? (i := 0) rfl, List.forall_mem_cons.mpr ⟨List.mem_of_getElem? (i := 2) rfl, List.forall_mem_cons.mpr ⟨List.mem_of_getElem? (i := 1) rfl, fun _ h => absurd h List.not_mem_nil⟩⟩⟩) ?_
        exact k10 y1 M1 e1 q1 y3 M3 e3 q3 h5 h6 h9
      · have _ := h9
        refine AW.aload_n (dq rfl) rfl rfl ?_
        show AW l (pI pg 239) P kc ks 43 _ _ SHF _
        refine fw_get (dq rfl) (pg_ok.2.1 239 _ _ _ _ rfl) rfl (v := .ref 66) (isTA_ok rfl (rgR_ok hJ3 rfl)) ?_
        show AW l (pI pg 239) P kc ks 46 _ _ SHF _
        refine AW.iconst (dq rfl) ?_
        show AW l (pI pg 239) P kc ks 47 _ _ SHF _
        refine AW.dup2_11 (dq rfl) rfl rfl ?_
        show AW l (pI pg 239) P kc ks 48 _ _ SHF _
        refine AW.iald (dq rfl) rfl (o11 y1 M1 e1 q1 y3 M3 e3 q3 h5 h6 h9) ?_
        show AW l (pI pg 239) P kc ks 49 _ _ SHF _
        refine AW.iconst (dq rfl) ?_
        show AW l (pI pg 239) P kc ks 50 _ _ SHF _
        refine AW.iadd (dq rfl) ?_
        show AW l (pI pg 239) P kc ks 51 _ _ SHF _
        refine AW.iast (dq rfl) rfl (o11 y1 M1 e1 q1 y3 M3 e3 q3 h5 h6 h9) ?_
        show AW l (pI pg 239) P kc ks 52 _ _ SHF _
        refine AW.iconst (dq rfl) ?_
        show AW l (pI pg 239) P kc ks 53 _ _ SHF _
        refine AW.iret (dq rfl) rfl ?_
        exact r12 y1 M1 e1 q1 y3 M3 e3 q3 h5 h6 h9
  · have _ := h5
    refine AW.iconst (dq rfl) ?_
    show AW l (pI pg 239) P kc ks 21 _ _ SHF _
    refine AW.iret (dq rfl) rfl ?_
    exact r13 y1 M1 e1 q1 y3 M3 e3 q3 h5

theorem mon_56 {l : aL} {P : aP} {kc ks : Nat} {v x : Int32} {M : aM} (hJ : ∀ e ∈ RM, M.2.2 e.1 e.2.1 = e.2.2)  (r2 : ∀ (h1 : (x : Int32) ≤ (v : Int32)), P (.inl (some (.int (M.1 58 51)))) SHF M) (Q3 : aM → Prop) (c4 : ∀ (h1 : ¬ ((x : Int32) ≤ (v : Int32))), AC l (pI pg 240) (fcV M Q3) 0 0 [.ref 58] SHF M) (k5 : ∀ (h1 : ¬ ((x : Int32) ≤ (v : Int32))), ∀ (M3 : aM), ∀ (e3 : M3.2.2 = M.2.2), ∀ (q3 : Q3 M3), AW l (pI pg 239) P kc ks 56 [(2, .int ((v) + Int32.ofInt 1)), (1, .int (x)), (0, .ref 58)] [] SHF M3) : AW l (pI pg 239) P kc ks 56 [(2, .int (v)), (1, .int (x)), (0, .ref 58)] [] SHF M := by
  refine AW.iload_n (dq rfl) rfl ?_
  show AW l (pI pg 239) P kc ks 57 _ _ SHF _
  refine AW.iload_n (dq rfl) rfl ?_
  show AW l (pI pg 239) P kc ks 58 _ _ SHF _
  refine AW.icmp_ge (dq rfl) (tgt := 71) (by decide) (fun h1 => ?_) (fun h1 => ?_)
  · have _ := h1
    refine AW.aload_n (dq rfl) rfl rfl ?_
    show AW l (pI pg 239) P kc ks 72 _ _ SHF _
    refine fw_get (dq rfl) (pg_ok.2.1 239 _ _ _ _ rfl) rfl (v := .int (M.1 58 51)) rfl ?_
    show AW l (pI pg 239) P kc ks 75 _ _ SHF _
    refine AW.iret (dq rfl) rfl ?_
    exact r2 h1
  · have _ := h1
    refine AW.aload_n (dq rfl) rfl rfl ?_
    show AW l (pI pg 239) P kc ks 62 _ _ SHF _
    refine fw_callVV (as := []) (dq rfl) (pg_ok.2.2.1 239 _ _ _ _ rfl) rfl (by decide +kernel) rfl rfl (c4 h1) (fun M3 e3 q3 => ?_)
    have hJ3 : ∀ e ∈ RM, M3.2.2 e.1 e.2.1 = e.2.2 := fun e he => by rw [e3]; exact hJ e he
    show AW l (pI pg 239) P kc ks 65 [(2, .int (v)), (1, .int (x)), (0, .ref 58)] [] SHF _
    refine AW.iinc (dq rfl) rfl (by decide +kernel) ?_
    show AW l (pI pg 239) P kc ks 68 [(2, .int ((v) + Int32.ofInt 1)), (1, .int (x)), (0, .ref 58)] [] SHF _
    refine AW.goto (dq rfl) (tgt := 56) (by decide) ?_
    refine AW.drop (lv' := [(2, .int ((v) + Int32.ofInt 1)), (1, .int (x)), (0, .ref 58)]) (List.forall_mem_cons.mpr ⟨List.mem_of_getElem? (i := 0) rfl, List.forall_mem_cons.mpr ⟨List.mem_of_getElem? (i := 1) rfl, List.forall_mem_cons.mpr ⟨List.mem_of_getElem? (i := 2) rfl, fun _ h => absurd h List.not_mem_nil⟩⟩⟩) ?_
    exact k5 h1 M3 e3 q3

