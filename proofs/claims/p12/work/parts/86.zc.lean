/-! stretches of more, printed by wip/gen/segs_mo.py -/
theorem mora_0 {l : aL} {P : aP} {kc ks : Nat} {M : aM} (hJ : ∀ e ∈ RR.2, M.2.2 e.1 e.2.1 = e.2.2) (hl0 : l.1.stackTraces = false) (Q1 : Int64 → aM → Prop) (c2 : AC l (pI pg 31) (fcJ M Q1) 0 0 [.ref 4] SHF M) (Q3 : Int64 → aM → Int32 → aM → Prop) (c4 : ∀ (y1 : Int64), ∀ (M1 : aM), ∀ (e1 : M1.2.2 = M.2.2), ∀ (q1 : Q1 y1 M1), AC l (pI pg 18) (fcI M1 (Q3 y1 M1)) 0 0 [.ref 4] SHF M1) (k5 : ∀ (y1 : Int64), ∀ (M1 : aM), ∀ (e1 : M1.2.2 = M.2.2), ∀ (q1 : Q1 y1 M1), ∀ (y3 : Int32), ∀ (M3 : aM), ∀ (e3 : M3.2.2 = M1.2.2), ∀ (q3 : (Q3 y1 M1) y3 M3), AW l (pI pg 30) P kc ks 22 [(5, .int (Int32.ofInt 0)), (4, .int (Int32.ofInt (-1))), (3, .int (y3)), (1, .long (y1)), (0, .ref 0)] [] SHF M3) : AW l (pI pg 30) P kc ks 0 [(0, .ref 0)] [] SHF M := by
  refine AW.aload_n (dq rfl) rfl rfl ?_
  show AW l (pI pg 30) P kc ks 1 _ _ SHF _
  refine fw_get (dq rfl) (pg_ok.2.1 30 _ _ _ _ rfl) rfl (v := .ref 4) (isTA_ok rfl (rgR_ok hJ rfl)) ?_
  show AW l (pI pg 30) P kc ks 4 _ _ SHF _
  refine fw_callVJ (as := []) (dq rfl) (pg_ok.2.2.1 30 _ _ _ _ rfl) rfl (by decide +kernel) rfl rfl (c2) (fun y1 M1 e1 q1 => ?_)
  have hJ1 : ∀ e ∈ RR.2, M1.2.2 e.1 e.2.1 = e.2.2 := fun e he => by rw [e1]; exact hJ e he
  show AW l (pI pg 30) P kc ks 7 [(0, .ref 0)] [.long (y1)] SHF _
  refine AW.lstore_n (dq rfl) (by decide +kernel) ?_
  show AW l (pI pg 30) P kc ks 8 [(1, .long (y1)), (0, .ref 0)] [] SHF _
  refine AW.aload_n (dq rfl) rfl rfl ?_
  show AW l (pI pg 30) P kc ks 9 _ _ SHF _
  refine fw_get (dq rfl) (pg_ok.2.1 30 _ _ _ _ rfl) rfl (v := .ref 4) (isTA_ok rfl (rgR_ok hJ1 rfl)) ?_
  show AW l (pI pg 30) P kc ks 12 _ _ SHF _
  refine fw_callVI (as := []) (dq rfl) (pg_ok.2.2.1 30 _ _ _ _ rfl) rfl (by decide +kernel) rfl rfl (c4 y1 M1 e1 q1) (fun y3 M3 e3 q3 => ?_)
  have hJ3 : ∀ e ∈ RR.2, M3.2.2 e.1 e.2.1 = e.2.2 := fun e he => by rw [e3]; exact hJ1 e he
  show AW l (pI pg 30) P kc ks 15 [(1, .long (y1)), (0, .ref 0)] [.int (y3)] SHF _
  refine AW.istore_n (dq rfl) (by decide +kernel) ?_
  show AW l (pI pg 30) P kc ks 16 [(3, .int (y3)), (1, .long (y1)), (0, .ref 0)] [] SHF _
  refine AW.iconst (dq rfl) ?_
  show AW l (pI pg 30) P kc ks 17 _ _ SHF _
  refine AW.istore (dq rfl) (by decide +kernel) ?_
  show AW l (pI pg 30) P kc ks 19 [(4, .int (Int32.ofInt (-1))), (3, .int (y3)), (1, .long (y1)), (0, .ref 0)] [] SHF _
  refine AW.iconst (dq rfl) ?_
  show AW l (pI pg 30) P kc ks 20 _ _ SHF _
  refine AW.istore (dq rfl) (by decide +kernel) ?_
  show AW l (pI pg 30) P kc ks 22 [(5, .int (Int32.ofInt 0)), (4, .int (Int32.ofInt (-1))), (3, .int (y3)), (1, .long (y1)), (0, .ref 0)] [] SHF _
  refine AW.drop (lv' := [(5, .int (Int32.ofInt 0)), (4, .int (Int32.ofInt (-1))), (3, .int (y3)), (1, .long (y1)), (0, .ref 0)]) (List.forall_mem_cons.mpr ⟨List.mem_of_getElem? (i := 0) rfl, List.forall_mem_cons.mpr ⟨List.mem_of_getElem? (i := 1) rfl, List.forall_mem_cons.mpr ⟨List.mem_of_getElem? (i := 2) rfl, List.forall_mem_cons.mpr ⟨List.mem_of_getElem? (i := 3) rfl, List.forall_mem_cons.mpr ⟨List.mem_of_getElem? (i := 4) rfl, fun _ h => absurd h List.not_mem_nil⟩⟩⟩⟩⟩) ?_
  exact k5 y1 M1 e1 q1 y3 M3 e3 q3

theorem mora_22 {l : aL} {P : aP} {kc ks : Nat} {s : Nat} {v w : Int32} {f : Int64} {M : aM} (hJ : ∀ e ∈ RR.2, M.2.2 e.1 e.2.1 = e.2.2) (hl0 : l.1.stackTraces = false) (r2 : ∀ (h1 : (w : Int32) < (nI s : Int32)), P (.inl (some (.int (v)))) SHF M) (Q5 : Int64 → aM → Prop) (c6 : ∀ (h1 : ¬ ((w : Int32) < (nI s : Int32))), ∀ (h3 : (v : Int32) = (Int32.ofInt (-1) : Int32)), AC l (pI pg 19) (fcJ M Q5) 0 0 [.ref 33, .ref 30, .int (w), .int (nI s), .int ((Int8.ofInt 24).toInt32)] SHF M) (k8 : ∀ (h1 : ¬ ((w : Int32) < (nI s : Int32))), ∀ (h3 : (v : Int32) = (Int32.ofInt (-1) : Int32)), ∀ (y5 : Int64), ∀ (M5 : aM), ∀ (e5 : M5.2.2 = M.2.2), ∀ (q5 : Q5 y5 M5), ∀ (h7 : ¬ (lg_cmp ((y5) &&& (f)) (f) : Int32) = 0), AW l (pI pg 30) P kc ks 22 [(5, .int ((nI s) + Int32.ofInt 1)), (4, .int (v)), (3, .int (w)), (1, .long (f)), (0, .ref 0)] [] SHF M5) (k9 : ∀ (h1 : ¬ ((w : Int32) < (nI s : Int32))), ∀ (h3 : (v : Int32) = (Int32.ofInt (-1) : Int32)), ∀ (y5 : Int64), ∀ (M5 : aM), ∀ (e5 : M5.2.2 = M.2.2), ∀ (q5 : Q5 y5 M5), ∀ (h7 : (lg_cmp ((y5) &&& (f)) (f) : Int32) = 0), AW l (pI pg 30) P kc ks 22 [(5, .int ((nI s) + Int32.ofInt 1)), (4, .int (nI s)), (3, .int (w)), (1, .long (f)), (0, .ref 0)] [] SHF M5) (Q10 : Int32 → aM → Prop) (c11 : ∀ (h1 : ¬ ((w : Int32) < (nI s : Int32))), ∀ (h3 : ¬ ((v : Int32) = (Int32.ofInt (-1) : Int32))), AC l (pI pg 21) (fcI M Q10) 0 0 [.int (nI s)] SHF M) (Q12 : Int32 → aM → Int32 → aM → Prop) (c13 : ∀ (h1 : ¬ ((w : Int32) < (nI s : Int32))), ∀ (h3 : ¬ ((v : Int32) = (Int32.ofInt (-1) : Int32))), ∀ (y10 : Int32), ∀ (M10 : aM), ∀ (e10 : M10.2.2 = M.2.2), ∀ (q10 : Q10 y10 M10), AC l (pI pg 21) (fcI M10 (Q12 y10 M10)) 0 0 [.int (v)] SHF M10) (k16 : ∀ (h1 : ¬ ((w : Int32) < (nI s : Int32))), ∀ (h3 : ¬ ((v : Int32) = (Int32.ofInt (-1) : Int32))), ∀ (y10 : Int32), ∀ (M10 : aM), ∀ (e10 : M10.2.2 = M.2.2), ∀ (q10 : Q10 y10 M10), ∀ (y12 : Int32), ∀ (M12 : aM), ∀ (e12 : M12.2.2 = M10.2.2), ∀ (q12 : (Q12 y10 M10) y12 M12), ∀ (h14 : (y12 : Int32) ≤ (y10 : Int32)), AW l (pI pg 30) P kc ks 22 [(5, .int ((nI s) + Int32.ofInt 1)), (4, .int (v)), (3, .int (w)), (1, .long (f)), (0, .ref 0)] [] SHF M12) (Q18 : Int32 → aM → Int32 → aM → Int64 → aM → Prop) (c19 : ∀ (h1 : ¬ ((w : Int32) < (nI s : Int32))), ∀ (h3 : ¬ ((v : Int32) = (Int32.ofInt (-1) : Int32))), ∀ (y10 : Int32), ∀ (M10 : aM), ∀ (e10 : M10.2.2 = M.2.2), ∀ (q10 : Q10 y10 M10), ∀ (y12 : Int32), ∀ (M12 : aM), ∀ (e12 : M12.2.2 = M10.2.2), ∀ (q12 : (Q12 y10 M10) y12 M12), ∀ (h14 : ¬ ((y12 : Int32) ≤ (y10 : Int32))), AC l (pI pg 19) (fcJ M12 (Q18 y10 M10 y12 M12)) 0 0 [.ref 33, .ref 30, .int (w), .int (nI s), .int ((Int8.ofInt 24).toInt32)] SHF M12) (k21 : ∀ (h1 : ¬ ((w : Int32) < (nI s : Int32))), ∀ (h3 : ¬ ((v : Int32) = (Int32.ofInt (-1) : Int32))), ∀ (y10 : Int32), ∀ (M10 : aM), ∀ (e10 : M10.2.2 = M.2.2), ∀ (q10 : Q10 y10 M10), ∀ (y12 : Int32), ∀ (M12 : aM), ∀ (e12 : M12.2.2 = M10.2.2), ∀ (q12 : (Q12 y10 M10) y12 M12), ∀ (h14 : ¬ ((y12 : Int32) ≤ (y10 : Int32))), ∀ (y18 : Int64), ∀ (M18 : aM), ∀ (e18 : M18.2.2 = M12.2.2), ∀ (q18 : (Q18 y10 M10 y12 M12) y18 M18), ∀ (h20 : ¬ (lg_cmp ((y18) &&& (f)) (f) : Int32) = 0), AW l (pI pg 30) P kc ks 22 [(5, .int ((nI s) + Int32.ofInt 1)), (4, .int (v)), (3, .int (w)), (1, .long (f)), (0, .ref 0)] [] SHF M18) (k22 : ∀ (h1 : ¬ ((w : Int32) < (nI s : Int32))), ∀ (h3 : ¬ ((v : Int32) = (Int32.ofInt (-1) : Int32))), ∀ (y10 : Int32), ∀ (M10 : aM), ∀ (e10 : M10.2.2 = M.2.2), ∀ (q10 : Q10 y10 M10), ∀ (y12 : Int32), ∀ (M12 : aM), ∀ (e12 : M12.2.2 = M10.2.2), ∀ (q12 : (Q12 y10 M10) y12 M12), ∀ (h14 : ¬ ((y12 : Int32) ≤ (y10 : Int32))), ∀ (y18 : Int64), ∀ (M18 : aM), ∀ (e18 : M18.2.2 = M12.2.2), ∀ (q18 : (Q18 y10 M10 y12 M12) y18 M18), ∀ (h20 : (lg_cmp ((y18) &&& (f)) (f) : Int32) = 0), AW l (pI pg 30) P kc ks 22 [(5, .int ((nI s) + Int32.ofInt 1)), (4, .int (nI s)), (3, .int (w)), (1, .long (f)), (0, .ref 0)] [] SHF M18) : AW l (pI pg 30) P kc ks 22 [(5, .int (nI s)), (4, .int (v)), (3, .int (w)), (1, .long (f)), (0, .ref 0)] [] SHF M := by
  refine AW.iload (dq rfl) rfl ?_
  show AW l (pI pg 30) P kc ks 24 _ _ SHF _
  refine AW.iload_n (dq rfl) rfl ?_
  show AW l (pI pg 30) P kc ks 25 _ _ SHF _
  refine AW.icmp_gt (dq rfl) (tgt := 92) (by decide) (fun h1 => ?_) (fun h1 => ?_)
  · have _ := h1
    refine AW.iload (dq rfl) rfl ?_
    show AW l (pI pg 30) P kc ks 94 _ _ SHF _
    refine AW.iret (dq rfl) rfl ?_
    exact r2 h1
  · have _ := h1
    refine AW.iload (dq rfl) rfl ?_
    show AW l (pI pg 30) P kc ks 30 _ _ SHF _
    refine AW.iconst (dq rfl) ?_
    show AW l (pI pg 30) P kc ks 31 _ _ SHF _
    refine AW.icmp_eq (dq rfl) (tgt := 47) (by decide) (fun h3 => ?_) (fun h3 => ?_)
    · have _ := h3
      refine AW.iconst (dq rfl) ?_
      show AW l (pI pg 30) P kc ks 48 _ _ SHF _
      refine AW.goto (dq rfl) (tgt := 52) (by decide) ?_
      refine AW.istore (dq rfl) (by decide +kernel) ?_
      show AW l (pI pg 30) P kc ks 54 [(6, .int (Int32.ofInt 1)), (5, .int (nI s)), (4, .int (v)), (3, .int (w)), (1, .long (f)), (0, .ref 0)] [] SHF _
      refine AW.iload (dq rfl) rfl ?_
      show AW l (pI pg 30) P kc ks 56 _ _ SHF _
      refine AW.if_eq (dq rfl) (tgt := 86) (by decide) (fun h4 => ?_) (fun h4 => ?_)
      · exact absurd h4 (by decide)
      refine AW.aload_n (dq rfl) rfl rfl ?_
      show AW l (pI pg 30) P kc ks 60 _ _ SHF _
      refine fw_get (dq rfl) (pg_ok.2.1 30 _ _ _ _ rfl) rfl (v := .ref 33) (isTA_ok rfl (rgR_ok hJ rfl)) ?_
      show AW l (pI pg 30) P kc ks 63 _ _ SHF _
      refine AW.aload_n (dq rfl) rfl rfl ?_
      show AW l (pI pg 30) P kc ks 64 _ _ SHF _
      refine fw_get (dq rfl) (pg_ok.2.1 30 _ _ _ _ rfl) rfl (v := .ref 30) (isTA_ok rfl (rgR_ok hJ rfl)) ?_
      show AW l (pI pg 30) P kc ks 67 _ _ SHF _
      refine AW.iload_n (dq rfl) rfl ?_
      show AW l (pI pg 30) P kc ks 68 _ _ SHF _
      refine AW.iload (dq rfl) rfl ?_
      show AW l (pI pg 30) P kc ks 70 _ _ SHF _
      refine AW.bipush (dq rfl) ?_
      show AW l (pI pg 30) P kc ks 72 _ _ SHF _
      refine fw_callVJ (as := [.ref 30, .int (w), .int (nI s), .int ((Int8.ofInt 24).toInt32)]) (dq rfl) (pg_ok.2.2.1 30 _ _ _ _ rfl) rfl (by decide +kernel) rfl rfl (c6 h1 h3) (fun y5 M5 e5 q5 => ?_)
      have hJ5 : ∀ e ∈ RR.2, M5.2.2 e.1 e.2.1 = e.2.2 := fun e he => by rw [e5]; exact hJ e he
      show AW l (pI pg 30) P kc ks 75 [(6, .int (Int32.ofInt 1)), (5, .int (nI s)), (4, .int (v)), (3, .int (w)), (1, .long (f)), (0, .ref 0)] [.long (y5)] SHF _
      refine AW.lload_n (dq rfl) rfl ?_
      show AW l (pI pg 30) P kc ks 76 _ _ SHF _
      refine AW.land (dq rfl) ?_
      show AW l (pI pg 30) P kc ks 77 _ _ SHF _
      refine AW.lload_n (dq rfl) rfl ?_
      show AW l (pI pg 30) P kc ks 78 _ _ SHF _
      refine AW.lcmp (dq rfl) ?_
      show AW l (pI pg 30) P kc ks 79 _ _ SHF _
      refine AW.if_ne (dq rfl) (tgt := 86) (by decide) (fun h7 => ?_) (fun h7 => ?_)
      · have _ := h7
        refine AW.iinc (dq rfl) rfl (by decide +kernel) ?_
        show AW l (pI pg 30) P kc ks 89 [(5, .int ((nI s) + Int32.ofInt 1)), (6, .int (Int32.ofInt 1)), (4, .int (v)), (3, .int (w)), (1, .long (f)), (0, .ref 0)] [] SHF _
        refine AW.goto (dq rfl) (tgt := 22) (by decide) ?_
        refine AW.drop (lv' := [(5, .int ((nI s) + Int32.ofInt 1)), (4, .int (v)), (3, .int (w)), (1, .long (f)), (0, .ref 0)]) (List.forall_mem_cons.mpr ⟨List.mem_of_getElem? (i := 0) rfl, List.forall_mem_cons.mpr ⟨List.mem_of_getElem? (i := 2) rfl, List.forall_mem_cons.mpr ⟨List.mem_of_getElem? (i := 3) rfl, List.forall_mem_cons.mpr ⟨List.mem_of_getElem? (i := 4) rfl, List.forall_mem_cons.mpr ⟨List.mem_of_getElem? (i := 5) rfl, fun _ h => absurd h List.not_mem_nil⟩⟩⟩⟩⟩) ?_
        exact k8 h1 h3 y5 M5 e5 q5 h7
      · have _ := h7
        refine AW.iload (dq rfl) rfl ?_
        show AW l (pI pg 30) P kc ks 84 _ _ SHF _
        refine AW.istore (dq rfl) (by decide +kernel) ?_
        show AW l (pI pg 30) P kc ks 86 [(4, .int (nI s)), (6, .int (Int32.ofInt 1)), (5, .int (nI s)), (3, .int (w)), (1, .long (f)), (0, .ref 0)] [] SHF _
        refine AW.iinc (dq rfl) rfl (by decide +kernel) ?_
        show AW l (pI pg 30) P kc ks 89 [(5, .int ((nI s) + Int32.ofInt 1)), (4, .int (nI s)), (6, .int (Int32.ofInt 1)), (3, .int (w)), (1, .long (f)), (0, .ref 0)] [] SHF _
        refine AW.goto (dq rfl) (tgt := 22) (by decide) ?_
        refine AW.drop (lv' := [(5, .int ((nI s) + Int32.ofInt 1)), (4, .int (nI s)), (3, .int (w)), (1, .long (f)), (0, .ref 0)]) (List.forall_mem_cons.mpr ⟨List.mem_of_getElem? (i := 0) rfl, List.forall_mem_cons.mpr ⟨List.mem_of_getElem? (i := 1) rfl, List.forall_mem_cons.mpr ⟨List.mem_of_getElem? (i := 3) rfl, List.forall_mem_cons.mpr ⟨List.mem_of_getElem? (i := 4) rfl, List.forall_mem_cons.mpr ⟨List.mem_of_getElem? (i := 5) rfl, fun _ h => absurd h List.not_mem_nil⟩⟩⟩⟩⟩) ?_
        exact k9 h1 h3 y5 M5 e5 q5 h7
    · have _ := h3
      refine AW.iload (dq rfl) rfl ?_
      show AW l (pI pg 30) P kc ks 36 _ _ SHF _
      refine fw_callSI (as := [.int (nI s)]) (dq rfl) (pg_ok.2.2.1 30 _ _ _ _ rfl) (by decide +kernel) rfl rfl (c11 h1 h3) (fun y10 M10 e10 q10 => ?_)
      have hJ10 : ∀ e ∈ RR.2, M10.2.2 e.1 e.2.1 = e.2.2 := fun e he => by rw [e10]; exact hJ e he
      show AW l (pI pg 30) P kc ks 39 [(5, .int (nI s)), (4, .int (v)), (3, .int (w)), (1, .long (f)), (0, .ref 0)] [.int (y10)] SHF _
      refine AW.iload (dq rfl) rfl ?_
      show AW l (pI pg 30) P kc ks 41 _ _ SHF _
      refine fw_callSI (as := [.int (v)]) (dq rfl) (pg_ok.2.2.1 30 _ _ _ _ rfl) (by decide +kernel) rfl rfl (c13 h1 h3 y10 M10 e10 q10) (fun y12 M12 e12 q12 => ?_)
      have hJ12 : ∀ e ∈ RR.2, M12.2.2 e.1 e.2.1 = e.2.2 := fun e he => by rw [e12]; exact hJ10 e he
      show AW l (pI pg 30) P kc ks 44 [(5, .int (nI s)), (4, .int (v)), (3, .int (w)), (1, .long (f)), (0, .ref 0)] [.int (y12), .int (y10)] SHF _
      refine AW.icmp_ge (dq rfl) (tgt := 51) (by decide) (fun h14 => ?_) (fun h14 => ?_)
      · have _ := h14
        refine AW.iconst (dq rfl) ?_
        show AW l (pI pg 30) P kc ks 52 _ _ SHF _
        refine AW.istore (dq rfl) (by decide +kernel) ?_
        show AW l (pI pg 30) P kc ks 54 [(6, .int (Int32.ofInt 0)), (5, .int (nI s)), (4, .int (v)), (3, .int (w)), (1, .long (f)), (0, .ref 0)] [] SHF _
        refine AW.iload (dq rfl) rfl ?_
        show AW l (pI pg 30) P kc ks 56 _ _ SHF _
        refine AW.if_eq (dq rfl) (tgt := 86) (by decide) (fun h15 => ?_) (fun h15 => ?_)
        rotate_left
        · exact absurd h15 (by decide)
        refine AW.iinc (dq rfl) rfl (by decide +kernel) ?_
        show AW l (pI pg 30) P kc ks 89 [(5, .int ((nI s) + Int32.ofInt 1)), (6, .int (Int32.ofInt 0)), (4, .int (v)), (3, .int (w)), (1, .long (f)), (0, .ref 0)] [] SHF _
        refine AW.goto (dq rfl) (tgt := 22) (by decide) ?_
        refine AW.drop (lv' := [(5, .int ((nI s) + Int32.ofInt 1)), (4, .int (v)), (3, .int (w)), (1, .long (f)), (0, .ref 0)]) (List.forall_mem_cons.mpr ⟨List.mem_of_getElem? (i := 0) rfl, List.forall_mem_cons.mpr ⟨List.mem_of_getElem? (i := 2) rfl, List.forall_mem_cons.mpr ⟨List.mem_of_getElem? (i := 3) rfl, List.forall_mem_cons.mpr ⟨List.mem_of_getElem? (i := 4) rfl, List.forall_mem_cons.mpr ⟨List.mem_of_getElem? (i := 5) rfl, fun _ h => absurd h List.not_mem_nil⟩⟩⟩⟩⟩) ?_
        exact k16 h1 h3 y10 M10 e10 q10 y12 M12 e12 q12 h14
      · have _ := h14
        refine AW.iconst (dq rfl) ?_
        show AW l (pI pg 30) P kc ks 48 _ _ SHF _
        refine AW.goto (dq rfl) (tgt := 52) (by decide) ?_
        refine AW.istore (dq rfl) (by decide +kernel) ?_
        show AW l (pI pg 30) P kc ks 54 [(6, .int (Int32.ofInt 1)), (5, .int (nI s)), (4, .int (v)), (3, .int (w)), (1, .long (f)), (0, .ref 0)] [] SHF _
        refine AW.iload (dq rfl) rfl ?_
        show AW l (pI pg 30) P kc ks 56 _ _ SHF _
        refine AW.if_eq (dq rfl) (tgt := 86) (by decide) (fun h17 => ?_) (fun h17 => ?_)
        · exact absurd h17 (by decide)
        refine AW.aload_n (dq rfl) rfl rfl ?_
        show AW l (pI pg 30) P kc ks 60 _ _ SHF _
        refine fw_get (dq rfl) (pg_ok.2.1 30 _ _ _ _ rfl) rfl (v := .ref 33) (isTA_ok rfl (rgR_ok hJ12 rfl)) ?_
        show AW l (pI pg 30) P kc ks 63 _ _ SHF _
        refine AW.aload_n (dq rfl) rfl rfl ?_
        show AW l (pI pg 30) P kc ks 64 _ _ SHF _
        refine fw_get (dq rfl) (pg_ok.2.1 30 _ _ _ _ rfl) rfl (v := .ref 30) (isTA_ok rfl (rgR_ok hJ12 rfl)) ?_
        show AW l (pI pg 30) P kc ks 67 _ _ SHF _
        refine AW.iload_n (dq rfl) rfl ?_
        show AW l (pI pg 30) P kc ks 68 _ _ SHF _
        refine AW.iload (dq rfl) rfl ?_
        show AW l (pI pg 30) P kc ks 70 _ _ SHF _
        refine AW.bipush (dq rfl) ?_
        show AW l (pI pg 30) P kc ks 72 _ _ SHF _
        refine fw_callVJ (as := [.ref 30, .int (w), .int (nI s), .int ((Int8.ofInt 24).toInt32)]) (dq rfl) (pg_ok.2.2.1 30 _ _ _ _ rfl) rfl (by decide +kernel) rfl rfl (c19 h1 h3 y10 M10 e10 q10 y12 M12 e12 q12 h14) (fun y18 M18 e18 q18 => ?_)
        have hJ18 : ∀ e ∈ RR.2, M18.2.2 e.1 e.2.1 = e.2.2 := fun e he => by rw [e18]; exact hJ12 e he
        show AW l (pI pg 30) P kc ks 75 [(6, .int (Int32.ofInt 1)), (5, .int (nI s)), (4, .int (v)), (3, .int (w)), (1, .long (f)), (0, .ref 0)] [.long (y18)] SHF _
        refine AW.lload_n (dq rfl) rfl ?_
        show AW l (pI pg 30) P kc ks 76 _ _ SHF _
        refine AW.land (dq rfl) ?_
        show AW l (pI pg 30) P kc ks 77 _ _ SHF _
        refine AW.lload_n (dq rfl) rfl ?_
        show AW l (pI pg 30) P kc ks 78 _ _ SHF _
        refine AW.lcmp (dq rfl) ?_
        show AW l (pI pg 30) P kc ks 79 _ _ SHF _
        refine AW.if_ne (dq rfl) (tgt := 86) (by decide) (fun h20 => ?_) (fun h20 => ?_)
        · have _ := h20
          refine AW.iinc (dq rfl) rfl (by decide +kernel) ?_
          show AW l (pI pg 30) P kc ks 89 [(5, .int ((nI s) + Int32.ofInt 1)), (6, .int (Int32.ofInt 1)), (4, .int (v)), (3, .int (w)), (1, .long (f)), (0, .ref 0)] [] SHF _
          refine AW.goto (dq rfl) (tgt := 22) (by decide) ?_
          refine AW.drop (lv' := [(5, .int ((nI s) + Int32.ofInt 1)), (4, .int (v)), (3, .int (w)), (1, .long (f)), (0, .ref 0)]) (List.forall_mem_cons.mpr ⟨List.mem_of_getElem? (i := 0) rfl, List.forall_mem_cons.mpr ⟨List.mem_of_getElem? (i := 2) rfl, List.forall_mem_cons.mpr ⟨List.mem_of_getElem? (i := 3) rfl, List.forall_mem_cons.mpr ⟨List.mem_of_getElem? (i := 4) rfl, List.forall_mem_cons.mpr ⟨List.mem_of_getElem? (i := 5) rfl, fun _ h => absurd h List.not_mem_nil⟩⟩⟩⟩⟩) ?_
          exact k21 h1 h3 y10 M10 e10 q10 y12 M12 e12 q12 h14 y18 M18 e18 q18 h20
        · have _ := h20
          refine AW.iload (dq rfl) rfl ?_
          show AW l (pI pg 30) P kc ks 84 _ _ SHF _
          refine AW.istore (dq rfl) (by decide +kernel) ?_
          show AW l (pI pg 30) P kc ks 86 [(4, .int (nI s)), (6, .int (Int32.ofInt 1)), (5, .int (nI s)), (3, .int (w)), (1, .long (f)), (0, .ref 0)] [] SHF _
          refine AW.iinc (dq rfl) rfl (by decide +kernel) ?_
          show AW l (pI pg 30) P kc ks 89 [(5, .int ((nI s) + Int32.ofInt 1)), (4, .int (nI s)), (6, .int (Int32.ofInt 1)), (3, .int (w)), (1, .long (f)), (0, .ref 0)] [] SHF _
          refine AW.goto (dq rfl) (tgt := 22) (by decide) ?_
          refine AW.drop (lv' := [(5, .int ((nI s) + Int32.ofInt 1)), (4, .int (nI s)), (3, .int (w)), (1, .long (f)), (0, .ref 0)]) (List.forall_mem_cons.mpr ⟨List.mem_of_getElem? (i := 0) rfl, List.forall_mem_cons.mpr ⟨List.mem_of_getElem? (i := 1) rfl, List.forall_mem_cons.mpr ⟨List.mem_of_getElem? (i := 3) rfl, List.forall_mem_cons.mpr ⟨List.mem_of_getElem? (i := 4) rfl, List.forall_mem_cons.mpr ⟨List.mem_of_getElem? (i := 5) rfl, fun _ h => absurd h List.not_mem_nil⟩⟩⟩⟩⟩) ?_
          exact k22 h1 h3 y10 M10 e10 q10 y12 M12 e12 q12 h14 y18 M18 e18 q18 h20

theorem morb_0 {l : aL} {P : aP} {kc ks : Nat} {M : aM} (hJ : ∀ e ∈ RRS.2, M.2.2 e.1 e.2.1 = e.2.2) (hl0 : l.1.stackTraces = false) (Q1 : Int64 → aM → Prop) (c2 : AC l (pI pg 31) (fcJ M Q1) 0 0 [.ref 17] SHF M) (Q3 : Int64 → aM → Int32 → aM → Prop) (c4 : ∀ (y1 : Int64), ∀ (M1 : aM), ∀ (e1 : M1.2.2 = M.2.2), ∀ (q1 : Q1 y1 M1), AC l (pI pg 18) (fcI M1 (Q3 y1 M1)) 0 0 [.ref 17] SHF M1) (k5 : ∀ (y1 : Int64), ∀ (M1 : aM), ∀ (e1 : M1.2.2 = M.2.2), ∀ (q1 : Q1 y1 M1), ∀ (y3 : Int32), ∀ (M3 : aM), ∀ (e3 : M3.2.2 = M1.2.2), ∀ (q3 : (Q3 y1 M1) y3 M3), AW l (pI pg 30) P kc ks 22 [(5, .int (Int32.ofInt 0)), (4, .int (Int32.ofInt (-1))), (3, .int (y3)), (1, .long (y1)), (0, .ref 0)] [] SHF M3) : AW l (pI pg 30) P kc ks 0 [(0, .ref 0)] [] SHF M := by
  refine AW.aload_n (dq rfl) rfl rfl ?_
  show AW l (pI pg 30) P kc ks 1 _ _ SHF _
  refine fw_get (dq rfl) (pg_ok.2.1 30 _ _ _ _ rfl) rfl (v := .ref 17) (isTA_ok rfl (rgR_ok hJ rfl)) ?_
  show AW l (pI pg 30) P kc ks 4 _ _ SHF _
  refine fw_callVJ (as := []) (dq rfl) (pg_ok.2.2.1 30 _ _ _ _ rfl) rfl (by decide +kernel) rfl rfl (c2) (fun y1 M1 e1 q1 => ?_)
  have hJ1 : ∀ e ∈ RRS.2, M1.2.2 e.1 e.2.1 = e.2.2 := fun e he => by rw [e1]; exact hJ e he
  show AW l (pI pg 30) P kc ks 7 [(0, .ref 0)] [.long (y1)] SHF _
  refine AW.lstore_n (dq rfl) (by decide +kernel) ?_
  show AW l (pI pg 30) P kc ks 8 [(1, .long (y1)), (0, .ref 0)] [] SHF _
  refine AW.aload_n (dq rfl) rfl rfl ?_
  show AW l (pI pg 30) P kc ks 9 _ _ SHF _
  refine fw_get (dq rfl) (pg_ok.2.1 30 _ _ _ _ rfl) rfl (v := .ref 17) (isTA_ok rfl (rgR_ok hJ1 rfl)) ?_
  show AW l (pI pg 30) P kc ks 12 _ _ SHF _
  refine fw_callVI (as := []) (dq rfl) (pg_ok.2.2.1 30 _ _ _ _ rfl) rfl (by decide +kernel) rfl rfl (c4 y1 M1 e1 q1) (fun y3 M3 e3 q3 => ?_)
  have hJ3 : ∀ e ∈ RRS.2, M3.2.2 e.1 e.2.1 = e.2.2 := fun e he => by rw [e3]; exact hJ1 e he
  show AW l (pI pg 30) P kc ks 15 [(1, .long (y1)), (0, .ref 0)] [.int (y3)] SHF _
  refine AW.istore_n (dq rfl) (by decide +kernel) ?_
  show AW l (pI pg 30) P kc ks 16 [(3, .int (y3)), (1, .long (y1)), (0, .ref 0)] [] SHF _
  refine AW.iconst (dq rfl) ?_
  show AW l (pI pg 30) P kc ks 17 _ _ SHF _
  refine AW.istore (dq rfl) (by decide +kernel) ?_
  show AW l (pI pg 30) P kc ks 19 [(4, .int (Int32.ofInt (-1))), (3, .int (y3)), (1, .long (y1)), (0, .ref 0)] [] SHF _
  refine AW.iconst (dq rfl) ?_
  show AW l (pI pg 30) P kc ks 20 _ _ SHF _
  refine AW.istore (dq rfl) (by decide +kernel) ?_
  show AW l (pI pg 30) P kc ks 22 [(5, .int (Int32.ofInt 0)), (4, .int (Int32.ofInt (-1))), (3, .int (y3)), (1, .long (y1)), (0, .ref 0)] [] SHF _
  refine AW.drop (lv' := [(5, .int (Int32.ofInt 0)), (4, .int (Int32.ofInt (-1))), (3, .int (y3)), (1, .long (y1)), (0, .ref 0)]) (List.forall_mem_cons.mpr ⟨List.mem_of_getElem? (i := 0) rfl, List.forall_mem_cons.mpr ⟨List.mem_of_getElem? (i := 1) rfl, List.forall_mem_cons.mpr ⟨List.mem_of_getElem? (i := 2) rfl, List.forall_mem_cons.mpr ⟨List.mem_of_getElem? (i := 3) rfl, List.forall_mem_cons.mpr ⟨List.mem_of_getElem? (i := 4) rfl, fun _ h => absurd h List.not_mem_nil⟩⟩⟩⟩⟩) ?_
  exact k5 y1 M1 e1 q1 y3 M3 e3 q3

theorem morb_22 {l : aL} {P : aP} {kc ks : Nat} {s : Nat} {v w : Int32} {f : Int64} {M : aM} (hJ : ∀ e ∈ RRS.2, M.2.2 e.1 e.2.1 = e.2.2) (hl0 : l.1.stackTraces = false) (r2 : ∀ (h1 : (w : Int32) < (nI s : Int32)), P (.inl (some (.int (v)))) SHF M) (Q5 : Int64 → aM → Prop) (c6 : ∀ (h1 : ¬ ((w : Int32) < (nI s : Int32))), ∀ (h3 : (v : Int32) = (Int32.ofInt (-1) : Int32)), AC l (pI pg 19) (fcJ M Q5) 0 0 [.ref 33, .ref 30, .int (w), .int (nI s), .int ((Int8.ofInt 24).toInt32)] SHF M) (k8 : ∀ (h1 : ¬ ((w : Int32) < (nI s : Int32))), ∀ (h3 : (v : Int32) = (Int32.ofInt (-1) : Int32)), ∀ (y5 : Int64), ∀ (M5 : aM), ∀ (e5 : M5.2.2 = M.2.2), ∀ (q5 : Q5 y5 M5), ∀ (h7 : ¬ (lg_cmp ((y5) &&& (f)) (f) : Int32) = 0), AW l (pI pg 30) P kc ks 22 [(5, .int ((nI s) + Int32.ofInt 1)), (4, .int (v)), (3, .int (w)), (1, .long (f)), (0, .ref 0)] [] SHF M5) (k9 : ∀ (h1 : ¬ ((w : Int32) < (nI s : Int32))), ∀ (h3 : (v : Int32) = (Int32.ofInt (-1) : Int32)), ∀ (y5 : Int64), ∀ (M5 : aM), ∀ (e5 : M5.2.2 = M.2.2), ∀ (q5 : Q5 y5 M5), ∀ (h7 : (lg_cmp ((y5) &&& (f)) (f) : Int32) = 0), AW l (pI pg 30) P kc ks 22 [(5, .int ((nI s) + Int32.ofInt 1)), (4, .int (nI s)), (3, .int (w)), (1, .long (f)), (0, .ref 0)] [] SHF M5) (Q10 : Int32 → aM → Prop) (c11 : ∀ (h1 : ¬ ((w : Int32) < (nI s : Int32))), ∀ (h3 : ¬ ((v : Int32) = (Int32.ofInt (-1) : Int32))), AC l (pI pg 21) (fcI M Q10) 0 0 [.int (nI s)] SHF M) (Q12 : Int32 → aM → Int32 → aM → Prop) (c13 : ∀ (h1 : ¬ ((w : Int32) < (nI s : Int32))), ∀ (h3 : ¬ ((v : Int32) = (Int32.ofInt (-1) : Int32))), ∀ (y10 : Int32), ∀ (M10 : aM), ∀ (e10 : M10.2.2 = M.2.2), ∀ (q10 : Q10 y10 M10), AC l (pI pg 21) (fcI M10 (Q12 y10 M10)) 0 0 [.int (v)] SHF M10) (k16 : ∀ (h1 : ¬ ((w : Int32) < (nI s : Int32))), ∀ (h3 : ¬ ((v : Int32) = (Int32.ofInt (-1) : Int32))), ∀ (y10 : Int32), ∀ (M10 : aM), ∀ (e10 : M10.2.2 = M.2.2), ∀ (q10 : Q10 y10 M10), ∀ (y12 : Int32), ∀ (M12 : aM), ∀ (e12 : M12.2.2 = M10.2.2), ∀ (q12 : (Q12 y10 M10) y12 M12), ∀ (h14 : (y12 : Int32) ≤ (y10 : Int32)), AW l (pI pg 30) P kc ks 22 [(5, .int ((nI s) + Int32.ofInt 1)), (4, .int (v)), (3, .int (w)), (1, .long (f)), (0, .ref 0)] [] SHF M12) (Q18 : Int32 → aM → Int32 → aM → Int64 → aM → Prop) (c19 : ∀ (h1 : ¬ ((w : Int32) < (nI s : Int32))), ∀ (h3 : ¬ ((v : Int32) = (Int32.ofInt (-1) : Int32))), ∀ (y10 : Int32), ∀ (M10 : aM), ∀ (e10 : M10.2.2 = M.2.2), ∀ (q10 : Q10 y10 M10), ∀ (y12 : Int32), ∀ (M12 : aM), ∀ (e12 : M12.2.2 = M10.2.2), ∀ (q12 : (Q12 y10 M10) y12 M12), ∀ (h14 : ¬ ((y12 : Int32) ≤ (y10 : Int32))), AC l (pI pg 19) (fcJ M12 (Q18 y10 M10 y12 M12)) 0 0 [.ref 33, .ref 30, .int (w), .int (nI s), .int ((Int8.ofInt 24).toInt32)] SHF M12) (k21 : ∀ (h1 : ¬ ((w : Int32) < (nI s : Int32))), ∀ (h3 : ¬ ((v : Int32) = (Int32.ofInt (-1) : Int32))), ∀ (y10 : Int32), ∀ (M10 : aM), ∀ (e10 : M10.2.2 = M.2.2), ∀ (q10 : Q10 y10 M10), ∀ (y12 : Int32), ∀ (M12 : aM), ∀ (e12 : M12.2.2 = M10.2.2), ∀ (q12 : (Q12 y10 M10) y12 M12), ∀ (h14 : ¬ ((y12 : Int32) ≤ (y10 : Int32))), ∀ (y18 : Int64), ∀ (M18 : aM), ∀ (e18 : M18.2.2 = M12.2.2), ∀ (q18 : (Q18 y10 M10 y12 M12) y18 M18), ∀ (h20 : ¬ (lg_cmp ((y18) &&& (f)) (f) : Int32) = 0), AW l (pI pg 30) P kc ks 22 [(5, .int ((nI s) + Int32.ofInt 1)), (4, .int (v)), (3, .int (w)), (1, .long (f)), (0, .ref 0)] [] SHF M18) (k22 : ∀ (h1 : ¬ ((w : Int32) < (nI s : Int32))), ∀ (h3 : ¬ ((v : Int32) = (Int32.ofInt (-1) : Int32))), ∀ (y10 : Int32), ∀ (M10 : aM), ∀ (e10 : M10.2.2 = M.2.2), ∀ (q10 : Q10 y10 M10), ∀ (y12 : Int32), ∀ (M12 : aM), ∀ (e12 : M12.2.2 = M10.2.2), ∀ (q12 : (Q12 y10 M10) y12 M12), ∀ (h14 : ¬ ((y12 : Int32) ≤ (y10 : Int32))), ∀ (y18 : Int64), ∀ (M18 : aM), ∀ (e18 : M18.2.2 = M12.2.2), ∀ (q18 : (Q18 y10 M10 y12 M12) y18 M18), ∀ (h20 : (lg_cmp ((y18) &&& (f)) (f) : Int32) = 0), AW l (pI pg 30) P kc ks 22 [(5, .int ((nI s) + Int32.ofInt 1)), (4, .int (nI s)), (3, .int (w)), (1, .long (f)), (0, .ref 0)] [] SHF M18) : AW l (pI pg 30) P kc ks 22 [(5, .int (nI s)), (4, .int (v)), (3, .int (w)), (1, .long (f)), (0, .ref 0)] [] SHF M := by
  refine AW.iload (dq rfl) rfl ?_
  show AW l (pI pg 30) P kc ks 24 _ _ SHF _
  refine AW.iload_n (dq rfl) rfl ?_
  show AW l (pI pg 30) P kc ks 25 _ _ SHF _
  refine AW.icmp_gt (dq rfl) (tgt := 92) (by decide) (fun h1 => ?_) (fun h1 => ?_)
  · have _ := h1
    refine AW.iload (dq rfl) rfl ?_
    show AW l (pI pg 30) P kc ks 94 _ _ SHF _
    refine AW.iret (dq rfl) rfl ?_
    exact r2 h1
  · have _ := h1
    refine AW.iload (dq rfl) rfl ?_
    show AW l (pI pg 30) P kc ks 30 _ _ SHF _
    refine AW.iconst (dq rfl) ?_
    show AW l (pI pg 30) P kc ks 31 _ _ SHF _
    refine AW.icmp_eq (dq rfl) (tgt := 47) (by decide) (fun h3 => ?_) (fun h3 => ?_)
    · have _ := h3
      refine AW.iconst (dq rfl) ?_
      show AW l (pI pg 30) P kc ks 48 _ _ SHF _
      refine AW.goto (dq rfl) (tgt := 52) (by decide) ?_
      refine AW.istore (dq rfl) (by decide +kernel) ?_
      show AW l (pI pg 30) P kc ks 54 [(6, .int (Int32.ofInt 1)), (5, .int (nI s)), (4, .int (v)), (3, .int (w)), (1, .long (f)), (0, .ref 0)] [] SHF _
      refine AW.iload (dq rfl) rfl ?_
      show AW l (pI pg 30) P kc ks 56 _ _ SHF _
      refine AW.if_eq (dq rfl) (tgt := 86) (by decide) (fun h4 => ?_) (fun h4 => ?_)
      · exact absurd h4 (by decide)
      refine AW.aload_n (dq rfl) rfl rfl ?_
      show AW l (pI pg 30) P kc ks 60 _ _ SHF _
      refine fw_get (dq rfl) (pg_ok.2.1 30 _ _ _ _ rfl) rfl (v := .ref 33) (isTA_ok rfl (rgR_ok hJ rfl)) ?_
      show AW l (pI pg 30) P kc ks 63 _ _ SHF _
      refine AW.aload_n (dq rfl) rfl rfl ?_
      show AW l (pI pg 30) P kc ks 64 _ _ SHF _
      refine fw_get (dq rfl) (pg_ok.2.1 30 _ _ _ _ rfl) rfl (v := .ref 30) (isTA_ok rfl (rgR_ok hJ rfl)) ?_
      show AW l (pI pg 30) P kc ks 67 _ _ SHF _
      refine AW.iload_n (dq rfl) rfl ?_
      show AW l (pI pg 30) P kc ks 68 _ _ SHF _
      refine AW.iload (dq rfl) rfl ?_
      show AW l (pI pg 30) P kc ks 70 _ _ SHF _
      refine AW.bipush (dq rfl) ?_
      show AW l (pI pg 30) P kc ks 72 _ _ SHF _
      refine fw_callVJ (as := [.ref 30, .int (w), .int (nI s), .int ((Int8.ofInt 24).toInt32)]) (dq rfl) (pg_ok.2.2.1 30 _ _ _ _ rfl) rfl (by decide +kernel) rfl rfl (c6 h1 h3) (fun y5 M5 e5 q5 => ?_)
      have hJ5 : ∀ e ∈ RRS.2, M5.2.2 e.1 e.2.1 = e.2.2 := fun e he => by rw [e5]; exact hJ e he
      show AW l (pI pg 30) P kc ks 75 [(6, .int (Int32.ofInt 1)), (5, .int (nI s)), (4, .int (v)), (3, .int (w)), (1, .long (f)), (0, .ref 0)] [.long (y5)] SHF _
      refine AW.lload_n (dq rfl) rfl ?_
      show AW l (pI pg 30) P kc ks 76 _ _ SHF _
      refine AW.land (dq rfl) ?_
      show AW l (pI pg 30) P kc ks 77 _ _ SHF _
      refine AW.lload_n (dq rfl) rfl ?_
      show AW l (pI pg 30) P kc ks 78 _ _ SHF _
      refine AW.lcmp (dq rfl) ?_
      show AW l (pI pg 30) P kc ks 79 _ _ SHF _
      refine AW.if_ne (dq rfl) (tgt := 86) (by decide) (fun h7 => ?_) (fun h7 => ?_)
      · have _ := h7
        refine AW.iinc (dq rfl) rfl (by decide +kernel) ?_
        show AW l (pI pg 30) P kc ks 89 [(5, .int ((nI s) + Int32.ofInt 1)), (6, .int (Int32.ofInt 1)), (4, .int (v)), (3, .int (w)), (1, .long (f)), (0, .ref 0)] [] SHF _
        refine AW.goto (dq rfl) (tgt := 22) (by decide) ?_
        refine AW.drop (lv' := [(5, .int ((nI s) + Int32.ofInt 1)), (4, .int (v)), (3, .int (w)), (1, .long (f)), (0, .ref 0)]) (List.forall_mem_cons.mpr ⟨List.mem_of_getElem? (i := 0) rfl, List.forall_mem_cons.mpr ⟨List.mem_of_getElem? (i := 2) rfl, List.forall_mem_cons.mpr ⟨List.mem_of_getElem? (i := 3) rfl, List.forall_mem_cons.mpr ⟨List.mem_of_getElem? (i := 4) rfl, List.forall_mem_cons.mpr ⟨List.mem_of_getElem? (i := 5) rfl, fun _ h => absurd h List.not_mem_nil⟩⟩⟩⟩⟩) ?_
        exact k8 h1 h3 y5 M5 e5 q5 h7
      · have _ := h7
        refine AW.iload (dq rfl) rfl ?_
        show AW l (pI pg 30) P kc ks 84 _ _ SHF _
        refine AW.istore (dq rfl) (by decide +kernel) ?_
        show AW l (pI pg 30) P kc ks 86 [(4, .int (nI s)), (6, .int (Int32.ofInt 1)), (5, .int (nI s)), (3, .int (w)), (1, .long (f)), (0, .ref 0)] [] SHF _
        refine AW.iinc (dq rfl) rfl (by decide +kernel) ?_
        show AW l (pI pg 30) P kc ks 89 [(5, .int ((nI s) + Int32.ofInt 1)), (4, .int (nI s)), (6, .int (Int32.ofInt 1)), (3, .int (w)), (1, .long (f)), (0, .ref 0)] [] SHF _
        refine AW.goto (dq rfl) (tgt := 22) (by decide) ?_
        refine AW.drop (lv' := [(5, .int ((nI s) + Int32.ofInt 1)), (4, .int (nI s)), (3, .int (w)), (1, .long (f)), (0, .ref 0)]) (List.forall_mem_cons.mpr ⟨List.mem_of_getElem? (i := 0) rfl, List.forall_mem_cons.mpr ⟨List.mem_of_getElem? (i := 1) rfl, List.forall_mem_cons.mpr ⟨List.mem_of_getElem? (i := 3) rfl, List.forall_mem_cons.mpr ⟨List.mem_of_getElem? (i := 4) rfl, List.forall_mem_cons.mpr ⟨List.mem_of_getElem? (i := 5) rfl, fun _ h => absurd h List.not_mem_nil⟩⟩⟩⟩⟩) ?_
        exact k9 h1 h3 y5 M5 e5 q5 h7
    · have _ := h3
      refine AW.iload (dq rfl) rfl ?_
      show AW l (pI pg 30) P kc ks 36 _ _ SHF _
      refine fw_callSI (as := [.int (nI s)]) (dq rfl) (pg_ok.2.2.1 30 _ _ _ _ rfl) (by decide +kernel) rfl rfl (c11 h1 h3) (fun y10 M10 e10 q10 => ?_)
      have hJ10 : ∀ e ∈ RRS.2, M10.2.2 e.1 e.2.1 = e.2.2 := fun e he => by rw [e10]; exact hJ e he
      show AW l (pI pg 30) P kc ks 39 [(5, .int (nI s)), (4, .int (v)), (3, .int (w)), (1, .long (f)), (0, .ref 0)] [.int (y10)] SHF _
      refine AW.iload (dq rfl) rfl ?_
      show AW l (pI pg 30) P kc ks 41 _ _ SHF _
      refine fw_callSI (as := [.int (v)]) (dq rfl) (pg_ok.2.2.1 30 _ _ _ _ rfl) (by decide +kernel) rfl rfl (c13 h1 h3 y10 M10 e10 q10) (fun y12 M12 e12 q12 => ?_)
      have hJ12 : ∀ e ∈ RRS.2, M12.2.2 e.1 e.2.1 = e.2.2 := fun e he => by rw [e12]; exact hJ10 e he
      show AW l (pI pg 30) P kc ks 44 [(5, .int (nI s)), (4, .int (v)), (3, .int (w)), (1, .long (f)), (0, .ref 0)] [.int (y12), .int (y10)] SHF _
      refine AW.icmp_ge (dq rfl) (tgt := 51) (by decide) (fun h14 => ?_) (fun h14 => ?_)
      · have _ := h14
        refine AW.iconst (dq rfl) ?_
        show AW l (pI pg 30) P kc ks 52 _ _ SHF _
        refine AW.istore (dq rfl) (by decide +kernel) ?_
        show AW l (pI pg 30) P kc ks 54 [(6, .int (Int32.ofInt 0)), (5, .int (nI s)), (4, .int (v)), (3, .int (w)), (1, .long (f)), (0, .ref 0)] [] SHF _
        refine AW.iload (dq rfl) rfl ?_
        show AW l (pI pg 30) P kc ks 56 _ _ SHF _
        refine AW.if_eq (dq rfl) (tgt := 86) (by decide) (fun h15 => ?_) (fun h15 => ?_)
        rotate_left
        · exact absurd h15 (by decide)
        refine AW.iinc (dq rfl) rfl (by decide +kernel) ?_
        show AW l (pI pg 30) P kc ks 89 [(5, .int ((nI s) + Int32.ofInt 1)), (6, .int (Int32.ofInt 0)), (4, .int (v)), (3, .int (w)), (1, .long (f)), (0, .ref 0)] [] SHF _
        refine AW.goto (dq rfl) (tgt := 22) (by decide) ?_
        refine AW.drop (lv' := [(5, .int ((nI s) + Int32.ofInt 1)), (4, .int (v)), (3, .int (w)), (1, .long (f)), (0, .ref 0)]) (List.forall_mem_cons.mpr ⟨List.mem_of_getElem? (i := 0) rfl, List.forall_mem_cons.mpr ⟨List.mem_of_getElem? (i := 2) rfl, List.forall_mem_cons.mpr ⟨List.mem_of_getElem? (i := 3) rfl, List.forall_mem_cons.mpr ⟨List.mem_of_getElem? (i := 4) rfl, List.forall_mem_cons.mpr ⟨List.mem_of_getElem? (i := 5) rfl, fun _ h => absurd h List.not_mem_nil⟩⟩⟩⟩⟩) ?_
        exact k16 h1 h3 y10 M10 e10 q10 y12 M12 e12 q12 h14
      · have _ := h14
        refine AW.iconst (dq rfl) ?_
        show AW l (pI pg 30) P kc ks 48 _ _ SHF _
        refine AW.goto (dq rfl) (tgt := 52) (by decide) ?_
        refine AW.istore (dq rfl) (by decide +kernel) ?_
        show AW l (pI pg 30) P kc ks 54 [(6, .int (Int32.ofInt 1)), (5, .int (nI s)), (4, .int (v)), (3, .int (w)), (1, .long (f)), (0, .ref 0)] [] SHF _
        refine AW.iload (dq rfl) rfl ?_
        show AW l (pI pg 30) P kc ks 56 _ _ SHF _
        refine AW.if_eq (dq rfl) (tgt := 86) (by decide) (fun h17 => ?_) (fun h17 => ?_)
        · exact absurd h17 (by decide)
        refine AW.aload_n (dq rfl) rfl rfl ?_
        show AW l (pI pg 30) P kc ks 60 _ _ SHF _
        refine fw_get (dq rfl) (pg_ok.2.1 30 _ _ _ _ rfl) rfl (v := .ref 33) (isTA_ok rfl (rgR_ok hJ12 rfl)) ?_
        show AW l (pI pg 30) P kc ks 63 _ _ SHF _
        refine AW.aload_n (dq rfl) rfl rfl ?_
        show AW l (pI pg 30) P kc ks 64 _ _ SHF _
        refine fw_get (dq rfl) (pg_ok.2.1 30 _ _ _ _ rfl) rfl (v := .ref 30) (isTA_ok rfl (rgR_ok hJ12 rfl)) ?_
        show AW l (pI pg 30) P kc ks 67 _ _ SHF _
        refine AW.iload_n (dq rfl) rfl ?_
        show AW l (pI pg 30) P kc ks 68 _ _ SHF _
        refine AW.iload (dq rfl) rfl ?_
        show AW l (pI pg 30) P kc ks 70 _ _ SHF _
        refine AW.bipush (dq rfl) ?_
        show AW l (pI pg 30) P kc ks 72 _ _ SHF _
        refine fw_callVJ (as := [.ref 30, .int (w), .int (nI s), .int ((Int8.ofInt 24).toInt32)]) (dq rfl) (pg_ok.2.2.1 30 _ _ _ _ rfl) rfl (by decide +kernel) rfl rfl (c19 h1 h3 y10 M10 e10 q10 y12 M12 e12 q12 h14) (fun y18 M18 e18 q18 => ?_)
        have hJ18 : ∀ e ∈ RRS.2, M18.2.2 e.1 e.2.1 = e.2.2 := fun e he => by rw [e18]; exact hJ12 e he
        show AW l (pI pg 30) P kc ks 75 [(6, .int (Int32.ofInt 1)), (5, .int (nI s)), (4, .int (v)), (3, .int (w)), (1, .long (f)), (0, .ref 0)] [.long (y18)] SHF _
        refine AW.lload_n (dq rfl) rfl ?_
        show AW l (pI pg 30) P kc ks 76 _ _ SHF _
        refine AW.land (dq rfl) ?_
        show AW l (pI pg 30) P kc ks 77 _ _ SHF _
        refine AW.lload_n (dq rfl) rfl ?_
        show AW l (pI pg 30) P kc ks 78 _ _ SHF _
        refine AW.lcmp (dq rfl) ?_
        show AW l (pI pg 30) P kc ks 79 _ _ SHF _
        refine AW.if_ne (dq rfl) (tgt := 86) (by decide) (fun h20 => ?_) (fun h20 => ?_)
        · have _ := h20
          refine AW.iinc (dq rfl) rfl (by decide +kernel) ?_
          show AW l (pI pg 30) P kc ks 89 [(5, .int ((nI s) + Int32.ofInt 1)), (6, .int (Int32.ofInt 1)), (4, .int (v)), (3, .int (w)), (1, .long (f)), (0, .ref 0)] [] SHF _
          refine AW.goto (dq rfl) (tgt := 22) (by decide) ?_
          refine AW.drop (lv' := [(5, .int ((nI s) + Int32.ofInt 1)), (4, .int (v)), (3, .int (w)), (1, .long (f)), (0, .ref 0)]) (List.forall_mem_cons.mpr ⟨List.mem_of_getElem? (i := 0) rfl, List.forall_mem_cons.mpr ⟨List.mem_of_getElem? (i := 2) rfl, List.forall_mem_cons.mpr ⟨List.mem_of_getElem? (i := 3) rfl, List.forall_mem_cons.mpr ⟨List.mem_of_getElem? (i := 4) rfl, List.forall_mem_cons.mpr ⟨List.mem_of_getElem? (i := 5) rfl, fun _ h => absurd h List.not_mem_nil⟩⟩⟩⟩⟩) ?_
          exact k21 h1 h3 y10 M10 e10 q10 y12 M12 e12 q12 h14 y18 M18 e18 q18 h20
        · have _ := h20
          refine AW.iload (dq rfl) rfl ?_
          show AW l (pI pg 30) P kc ks 84 _ _ SHF _
          refine AW.istore (dq rfl) (by decide +kernel) ?_
          show AW l (pI pg 30) P kc ks 86 [(4, .int (nI s)), (6, .int (Int32.ofInt 1)), (5, .int (nI s)), (3, .int (w)), (1, .long (f)), (0, .ref 0)] [] SHF _
          refine AW.iinc (dq rfl) rfl (by decide +kernel) ?_
          show AW l (pI pg 30) P kc ks 89 [(5, .int ((nI s) + Int32.ofInt 1)), (4, .int (nI s)), (6, .int (Int32.ofInt 1)), (3, .int (w)), (1, .long (f)), (0, .ref 0)] [] SHF _
          refine AW.goto (dq rfl) (tgt := 22) (by decide) ?_
          refine AW.drop (lv' := [(5, .int ((nI s) + Int32.ofInt 1)), (4, .int (nI s)), (3, .int (w)), (1, .long (f)), (0, .ref 0)]) (List.forall_mem_cons.mpr ⟨List.mem_of_getElem? (i := 0) rfl, List.forall_mem_cons.mpr ⟨List.mem_of_getElem? (i := 1) rfl, List.forall_mem_cons.mpr ⟨List.mem_of_getElem? (i := 3) rfl, List.forall_mem_cons.mpr ⟨List.mem_of_getElem? (i := 4) rfl, List.forall_mem_cons.mpr ⟨List.mem_of_getElem? (i := 5) rfl, fun _ h => absurd h List.not_mem_nil⟩⟩⟩⟩⟩) ?_
          exact k22 h1 h3 y10 M10 e10 q10 y12 M12 e12 q12 h14 y18 M18 e18 q18 h20

theorem mmr_0 {l : aL} {P : aP} {kc ks : Nat} {M : aM} (hJ : ∀ e ∈ RM, M.2.2 e.1 e.2.1 = e.2.2) (hl0 : l.1.stackTraces = false) (Q1 : aM → Prop) (c2 : AC l (pI pg 204) (fcV (aset M 58 0 (.int (Int32.ofInt 0))) Q1) 0 0 [.ref 58, .int (Int32.ofInt 0)] SHF (aset M 58 0 (.int (Int32.ofInt 0)))) (Q3 : aM → aM → Prop) (c4 : ∀ (M1 : aM), ∀ (e1 : M1.2.2 = (aset M 58 0 (.int (Int32.ofInt 0))).2.2), ∀ (q1 : Q1 M1), AC l (pI pg 210) (fcV M1 (Q3 M1)) 0 0 [.ref 58] SHF M1) (k5 : ∀ (M1 : aM), ∀ (e1 : M1.2.2 = (aset M 58 0 (.int (Int32.ofInt 0))).2.2), ∀ (q1 : Q1 M1), ∀ (M3 : aM), ∀ (e3 : M3.2.2 = M1.2.2), ∀ (q3 : (Q3 M1) M3), AW l (pI pg 227) P kc ks 25 [(2, .int (Int32.ofInt 0)), (1, .int (((Int32.ofInt 1) <<< ((M3.1 58 2) &&& 31)) - (Int32.ofInt 1))), (0, .ref 58)] [] SHF M3) : AW l (pI pg 227) P kc ks 0 [(0, .ref 58)] [] SHF M := by
  refine AW.aload_n (dq rfl) rfl rfl ?_
  show AW l (pI pg 227) P kc ks 1 _ _ SHF _
  refine AW.iconst (dq rfl) ?_
  show AW l (pI pg 227) P kc ks 2 _ _ SHF _
  refine fw_putI (dq rfl) (pg_ok.2.1 227 _ _ _ _ rfl) rfl rfl rfl ?_
  show AW l (pI pg 227) P kc ks 5 _ _ SHF _
  refine AW.aload_n (dq rfl) rfl rfl ?_
  show AW l (pI pg 227) P kc ks 6 _ _ SHF _
  refine AW.iconst (dq rfl) ?_
  show AW l (pI pg 227) P kc ks 7 _ _ SHF _
  refine fw_callVV (as := [.int (Int32.ofInt 0)]) (dq rfl) (pg_ok.2.2.1 227 _ _ _ _ rfl) rfl (by decide +kernel) rfl rfl (c2) (fun M1 e1 q1 => ?_)
  have hJ1 : ∀ e ∈ RM, M1.2.2 e.1 e.2.1 = e.2.2 := fun e he => by rw [e1]; exact hJ e he
  show AW l (pI pg 227) P kc ks 10 [(0, .ref 58)] [] SHF _
  refine AW.aload_n (dq rfl) rfl rfl ?_
  show AW l (pI pg 227) P kc ks 11 _ _ SHF _
  refine fw_callVV (as := []) (dq rfl) (pg_ok.2.2.1 227 _ _ _ _ rfl) rfl (by decide +kernel) rfl rfl (c4 M1 e1 q1) (fun M3 e3 q3 => ?_)
  have hJ3 : ∀ e ∈ RM, M3.2.2 e.1 e.2.1 = e.2.2 := fun e he => by rw [e3]; exact hJ1 e he
  show AW l (pI pg 227) P kc ks 14 [(0, .ref 58)] [] SHF _
  refine AW.iconst (dq rfl) ?_
  show AW l (pI pg 227) P kc ks 15 _ _ SHF _
  refine AW.aload_n (dq rfl) rfl rfl ?_
  show AW l (pI pg 227) P kc ks 16 _ _ SHF _
  refine fw_get (dq rfl) (pg_ok.2.1 227 _ _ _ _ rfl) rfl (v := .int (M3.1 58 2)) rfl ?_
  show AW l (pI pg 227) P kc ks 19 _ _ SHF _
  refine AW.ishl (dq rfl) ?_
  show AW l (pI pg 227) P kc ks 20 _ _ SHF _
  refine AW.iconst (dq rfl) ?_
  show AW l (pI pg 227) P kc ks 21 _ _ SHF _
  refine AW.isub (dq rfl) ?_
  show AW l (pI pg 227) P kc ks 22 _ _ SHF _
  refine AW.istore_n (dq rfl) (by decide +kernel) ?_
  show AW l (pI pg 227) P kc ks 23 [(1, .int (((Int32.ofInt 1) <<< ((M3.1 58 2) &&& 31)) - (Int32.ofInt 1))), (0, .ref 58)] [] SHF _
  refine AW.iconst (dq rfl) ?_
  show AW l (pI pg 227) P kc ks 24 _ _ SHF _
  refine AW.istore_n (dq rfl) (by decide +kernel) ?_
  show AW l (pI pg 227) P kc ks 25 [(2, .int (Int32.ofInt 0)), (1, .int (((Int32.ofInt 1) <<< ((M3.1 58 2) &&& 31)) - (Int32.ofInt 1))), (0, .ref 58)] [] SHF _
  refine AW.drop (lv' := [(2, .int (Int32.ofInt 0)), (1, .int (((Int32.ofInt 1) <<< ((M3.1 58 2) &&& 31)) - (Int32.ofInt 1))), (0, .ref 58)]) (List.forall_mem_cons.mpr ⟨List.mem_of_getElem? (i := 0) rfl, List.forall_mem_cons.mpr ⟨List.mem_of_getElem? (i := 1) rfl, List.forall_mem_cons.mpr ⟨List.mem_of_getElem? (i := 2) rfl, fun _ h => absurd h List.not_mem_nil⟩⟩⟩) ?_
  exact k5 M1 e1 q1 M3 e3 q3

theorem mmr_25 {l : aL} {P : aP} {kc ks : Nat} {p : Nat} {w : Int32} {M : aM} (hJ : ∀ e ∈ RM, M.2.2 e.1 e.2.1 = e.2.2) (hl0 : l.1.stackTraces = false) (k2 : ∀ (h1 : (M.1 58 1 : Int32) ≤ (nI p : Int32)), AW l (pI pg 227) P kc ks 101 [(3, .int (Int32.ofInt 0)), (2, .int (Int32.ofInt (-1))), (1, .int (w)), (0, .ref 58)] [] SHF M) (Q3 : aM → Prop) (c4 : ∀ (h1 : ¬ ((M.1 58 1 : Int32) ≤ (nI p : Int32))), AC l (pI pg 211) (fcV M Q3) 0 0 [.ref 58, .int ((((Int32.ofInt 1) <<< ((M.1 58 1) &&& 31)) - (Int32.ofInt 1)) &&& (((Int32.ofInt 1) <<< ((nI p) &&& 31)) ^^^ (Int32.ofInt (-1))))] SHF M) (k5 : ∀ (h1 : ¬ ((M.1 58 1 : Int32) ≤ (nI p : Int32))), ∀ (M3 : aM), ∀ (e3 : M3.2.2 = M.2.2), ∀ (q3 : Q3 M3), AW l (pI pg 227) P kc ks 53 [(3, .int (Int32.ofInt 0)), (2, .int (nI p)), (1, .int (w)), (0, .ref 58)] [] SHF M3) : AW l (pI pg 227) P kc ks 25 [(2, .int (nI p)), (1, .int (w)), (0, .ref 58)] [] SHF M := by
  refine AW.iload_n (dq rfl) rfl ?_
  show AW l (pI pg 227) P kc ks 26 _ _ SHF _
  refine AW.aload_n (dq rfl) rfl rfl ?_
  show AW l (pI pg 227) P kc ks 27 _ _ SHF _
  refine fw_get (dq rfl) (pg_ok.2.1 227 _ _ _ _ rfl) rfl (v := .int (M.1 58 1)) rfl ?_
  show AW l (pI pg 227) P kc ks 30 _ _ SHF _
  refine AW.icmp_ge (dq rfl) (tgt := 97) (by decide) (fun h1 => ?_) (fun h1 => ?_)
  · have _ := h1
    refine AW.iconst (dq rfl) ?_
    show AW l (pI pg 227) P kc ks 98 _ _ SHF _
    refine AW.istore_n (dq rfl) (by decide +kernel) ?_
    show AW l (pI pg 227) P kc ks 99 [(2, .int (Int32.ofInt (-1))), (1, .int (w)), (0, .ref 58)] [] SHF _
    refine AW.iconst (dq rfl) ?_
    show AW l (pI pg 227) P kc ks 100 _ _ SHF _
    refine AW.istore_n (dq rfl) (by decide +kernel) ?_
    show AW l (pI pg 227) P kc ks 101 [(3, .int (Int32.ofInt 0)), (2, .int (Int32.ofInt (-1))), (1, .int (w)), (0, .ref 58)] [] SHF _
    refine AW.drop (lv' := [(3, .int (Int32.ofInt 0)), (2, .int (Int32.ofInt (-1))), (1, .int (w)), (0, .ref 58)]) (List.forall_mem_cons.mpr ⟨List.mem_of_getElem? (i := 0) rfl, List.forall_mem_cons.mpr ⟨List.mem_of_getElem? (i := 1) rfl, List.forall_mem_cons.mpr ⟨List.mem_of_getElem? (i := 2) rfl, List.forall_mem_cons.mpr ⟨List.mem_of_getElem? (i := 3) rfl, fun _ h => absurd h List.not_mem_nil⟩⟩⟩⟩) ?_
    exact k2 h1
  · have _ := h1
    refine AW.aload_n (dq rfl) rfl rfl ?_
    show AW l (pI pg 227) P kc ks 34 _ _ SHF _
    refine AW.iconst (dq rfl) ?_
    show AW l (pI pg 227) P kc ks 35 _ _ SHF _
    refine AW.aload_n (dq rfl) rfl rfl ?_
    show AW l (pI pg 227) P kc ks 36 _ _ SHF _
    refine fw_get (dq rfl) (pg_ok.2.1 227 _ _ _ _ rfl) rfl (v := .int (M.1 58 1)) rfl ?_
    show AW l (pI pg 227) P kc ks 39 _ _ SHF _
    refine AW.ishl (dq rfl) ?_
    show AW l (pI pg 227) P kc ks 40 _ _ SHF _
    refine AW.iconst (dq rfl) ?_
    show AW l (pI pg 227) P kc ks 41 _ _ SHF _
    refine AW.isub (dq rfl) ?_
    show AW l (pI pg 227) P kc ks 42 _ _ SHF _
    refine AW.iconst (dq rfl) ?_
    show AW l (pI pg 227) P kc ks 43 _ _ SHF _
    refine AW.iload_n (dq rfl) rfl ?_
    show AW l (pI pg 227) P kc ks 44 _ _ SHF _
    refine AW.ishl (dq rfl) ?_
    show AW l (pI pg 227) P kc ks 45 _ _ SHF _
    refine AW.iconst (dq rfl) ?_
    show AW l (pI pg 227) P kc ks 46 _ _ SHF _
    refine AW.ixor (dq rfl) ?_
    show AW l (pI pg 227) P kc ks 47 _ _ SHF _
    refine AW.iand (dq rfl) ?_
    show AW l (pI pg 227) P kc ks 48 _ _ SHF _
    refine fw_callVV (as := [.int ((((Int32.ofInt 1) <<< ((M.1 58 1) &&& 31)) - (Int32.ofInt 1)) &&& (((Int32.ofInt 1) <<< ((nI p) &&& 31)) ^^^ (Int32.ofInt (-1))))]) (dq rfl) (pg_ok.2.2.1 227 _ _ _ _ rfl) rfl (by decide +kernel) rfl rfl (c4 h1) (fun M3 e3 q3 => ?_)
    have hJ3 : ∀ e ∈ RM, M3.2.2 e.1 e.2.1 = e.2.2 := fun e he => by rw [e3]; exact hJ e he
    show AW l (pI pg 227) P kc ks 51 [(2, .int (nI p)), (1, .int (w)), (0, .ref 58)] [] SHF _
    refine AW.iconst (dq rfl) ?_
    show AW l (pI pg 227) P kc ks 52 _ _ SHF _
    refine AW.istore_n (dq rfl) (by decide +kernel) ?_
    show AW l (pI pg 227) P kc ks 53 [(3, .int (Int32.ofInt 0)), (2, .int (nI p)), (1, .int (w)), (0, .ref 58)] [] SHF _
    refine AW.drop (lv' := [(3, .int (Int32.ofInt 0)), (2, .int (nI p)), (1, .int (w)), (0, .ref 58)]) (List.forall_mem_cons.mpr ⟨List.mem_of_getElem? (i := 0) rfl, List.forall_mem_cons.mpr ⟨List.mem_of_getElem? (i := 1) rfl, List.forall_mem_cons.mpr ⟨List.mem_of_getElem? (i := 2) rfl, List.forall_mem_cons.mpr ⟨List.mem_of_getElem? (i := 3) rfl, fun _ h => absurd h List.not_mem_nil⟩⟩⟩⟩) ?_
    exact k5 h1 M3 e3 q3

theorem mmr_53 {l : aL} {P : aP} {kc ks : Nat} {p s : Nat} {w : Int32} {M : aM} (hJ : ∀ e ∈ RM, M.2.2 e.1 e.2.1 = e.2.2) (hl0 : l.1.stackTraces = false) (k2 : ∀ (h1 : (w : Int32) < (nI s : Int32)), AW l (pI pg 227) P kc ks 25 [(2, .int ((nI p) + Int32.ofInt 1)), (1, .int (w)), (0, .ref 58)] [] SHF M) (o3 : ∀ (h1 : ¬ ((w : Int32) < (nI s : Int32))), vp_in (nI s) 256) (o5 : ∀ (h1 : ¬ ((w : Int32) < (nI s : Int32))), ∀ (h4 : (M.1 77 (nI s).toNatClampNeg : Int32) = (Int32.ofInt (-1) : Int32)), vp_in ((((Int16.ofInt 256).toInt32) * (nI p)) + (nI s)) 1536) (k6 : ∀ (h1 : ¬ ((w : Int32) < (nI s : Int32))), ∀ (h4 : (M.1 77 (nI s).toNatClampNeg : Int32) = (Int32.ofInt (-1) : Int32)), AW l (pI pg 227) P kc ks 53 [(3, .int ((nI s) + Int32.ofInt 1)), (2, .int (nI p)), (1, .int (w)), (0, .ref 58)] [] SHF (aset M 82 ((((Int16.ofInt 256).toInt32) * (nI p)) + (nI s)).toNatClampNeg (.int (vp_nar .boolean (Int32.ofInt 0))))) (o7 : ∀ (h1 : ¬ ((w : Int32) < (nI s : Int32))), ∀ (h4 : ¬ ((M.1 77 (nI s).toNatClampNeg : Int32) = (Int32.ofInt (-1) : Int32))), vp_in ((((Int16.ofInt 256).toInt32) * (nI p)) + (nI s)) 1536) (k8 : ∀ (h1 : ¬ ((w : Int32) < (nI s : Int32))), ∀ (h4 : ¬ ((M.1 77 (nI s).toNatClampNeg : Int32) = (Int32.ofInt (-1) : Int32))), AW l (pI pg 227) P kc ks 53 [(3, .int ((nI s) + Int32.ofInt 1)), (2, .int (nI p)), (1, .int (w)), (0, .ref 58)] [] SHF (aset M 82 ((((Int16.ofInt 256).toInt32) * (nI p)) + (nI s)).toNatClampNeg (.int (vp_nar .boolean (Int32.ofInt 1))))) : AW l (pI pg 227) P kc ks 53 [(3, .int (nI s)), (2, .int (nI p)), (1, .int (w)), (0, .ref 58)] [] SHF M := by
  refine AW.iload_n (dq rfl) rfl ?_
  show AW l (pI pg 227) P kc ks 54 _ _ SHF _
  refine AW.iload_n (dq rfl) rfl ?_
  show AW l (pI pg 227) P kc ks 55 _ _ SHF _
  refine AW.icmp_gt (dq rfl) (tgt := 91) (by decide) (fun h1 => ?_) (fun h1 => ?_)
  · have _ := h1
    refine AW.iinc (dq rfl) rfl (by decide +kernel) ?_
    show AW l (pI pg 227) P kc ks 94 [(2, .int ((nI p) + Int32.ofInt 1)), (3, .int (nI s)), (1, .int (w)), (0, .ref 58)] [] SHF _
    refine AW.goto (dq rfl) (tgt := 25) (by decide) ?_
    refine AW.drop (lv' := [(2, .int ((nI p) + Int32.ofInt 1)), (1, .int (w)), (0, .ref 58)]) (List.forall_mem_cons.mpr ⟨List.mem_of_getElem? (i := 0) rfl, List.forall_mem_cons.mpr ⟨List.mem_of_getElem? (i := 2) rfl, List.forall_mem_cons.mpr ⟨List.mem_of_getElem? (i := 3) rfl, fun _ h => absurd h List.not_mem_nil⟩⟩⟩) ?_
    exact k2 h1
  · have _ := h1
    refine AW.aload_n (dq rfl) rfl rfl ?_
    show AW l (pI pg 227) P kc ks 59 _ _ SHF _
    refine fw_get (dq rfl) (pg_ok.2.1 227 _ _ _ _ rfl) rfl (v := .ref 82) (isTA_ok rfl (rgR_ok hJ rfl)) ?_
    show AW l (pI pg 227) P kc ks 62 _ _ SHF _
    refine AW.sipush (dq rfl) ?_
    show AW l (pI pg 227) P kc ks 65 _ _ SHF _
    refine AW.iload_n (dq rfl) rfl ?_
    show AW l (pI pg 227) P kc ks 66 _ _ SHF _
    refine AW.imul (dq rfl) ?_
    show AW l (pI pg 227) P kc ks 67 _ _ SHF _
    refine AW.iload_n (dq rfl) rfl ?_
    show AW l (pI pg 227) P kc ks 68 _ _ SHF _
    refine AW.iadd (dq rfl) ?_
    show AW l (pI pg 227) P kc ks 69 _ _ SHF _
    refine AW.aload_n (dq rfl) rfl rfl ?_
    show AW l (pI pg 227) P kc ks 70 _ _ SHF _
    refine fw_get (dq rfl) (pg_ok.2.1 227 _ _ _ _ rfl) rfl (v := .ref 77) (isTA_ok rfl (rgR_ok hJ rfl)) ?_
    show AW l (pI pg 227) P kc ks 73 _ _ SHF _
    refine AW.iload_n (dq rfl) rfl ?_
    show AW l (pI pg 227) P kc ks 74 _ _ SHF _
    refine AW.iald (dq rfl) rfl (o3 h1) ?_
    show AW l (pI pg 227) P kc ks 75 _ _ SHF _
    refine AW.iconst (dq rfl) ?_
    show AW l (pI pg 227) P kc ks 76 _ _ SHF _
    refine AW.icmp_eq (dq rfl) (tgt := 83) (by decide) (fun h4 => ?_) (fun h4 => ?_)
    · have _ := h4
      refine AW.iconst (dq rfl) ?_
      show AW l (pI pg 227) P kc ks 84 _ _ SHF _
      refine AW.zast (dq rfl) rfl (o5 h1 h4) ?_
      show AW l (pI pg 227) P kc ks 85 _ _ SHF _
      refine AW.iinc (dq rfl) rfl (by decide +kernel) ?_
      show AW l (pI pg 227) P kc ks 88 [(3, .int ((nI s) + Int32.ofInt 1)), (2, .int (nI p)), (1, .int (w)), (0, .ref 58)] [] SHF _
      refine AW.goto (dq rfl) (tgt := 53) (by decide) ?_
      refine AW.drop (lv' := [(3, .int ((nI s) + Int32.ofInt 1)), (2, .int (nI p)), (1, .int (w)), (0, .ref 58)]) (List.forall_mem_cons.mpr ⟨List.mem_of_getElem? (i := 0) rfl, List.forall_mem_cons.mpr ⟨List.mem_of_getElem? (i := 1) rfl, List.forall_mem_cons.mpr ⟨List.mem_of_getElem? (i := 2) rfl, List.forall_mem_cons.mpr ⟨List.mem_of_getElem? (i := 3) rfl, fun _ h => absurd h List.not_mem_nil⟩⟩⟩⟩) ?_
      exact k6 h1 h4
    · have _ := h4
      refine AW.iconst (dq rfl) ?_
      show AW l (pI pg 227) P kc ks 80 _ _ SHF _
      refine AW.goto (dq rfl) (tgt := 84) (by decide) ?_
      refine AW.zast (dq rfl) rfl (o7 h1 h4) ?_
      show AW l (pI pg 227) P kc ks 85 _ _ SHF _
      refine AW.iinc (dq rfl) rfl (by decide +kernel) ?_
      show AW l (pI pg 227) P kc ks 88 [(3, .int ((nI s) + Int32.ofInt 1)), (2, .int (nI p)), (1, .int (w)), (0, .ref 58)] [] SHF _
      refine AW.goto (dq rfl) (tgt := 53) (by decide) ?_
      refine AW.drop (lv' := [(3, .int ((nI s) + Int32.ofInt 1)), (2, .int (nI p)), (1, .int (w)), (0, .ref 58)]) (List.forall_mem_cons.mpr ⟨List.mem_of_getElem? (i := 0) rfl, List.forall_mem_cons.mpr ⟨List.mem_of_getElem? (i := 1) rfl, List.forall_mem_cons.mpr ⟨List.mem_of_getElem? (i := 2) rfl, List.forall_mem_cons.mpr ⟨List.mem_of_getElem? (i := 3) rfl, fun _ h => absurd h List.not_mem_nil⟩⟩⟩⟩) ?_
      exact k8 h1 h4

theorem mmr_101 {l : aL} {P : aP} {kc ks : Nat} {s : Nat} {v w : Int32} {M : aM} (hJ : ∀ e ∈ RM, M.2.2 e.1 e.2.1 = e.2.2) (hl0 : l.1.stackTraces = false) (r2 : ∀ (h1 : (w : Int32) < (nI s : Int32)), P (.inl (some (.int (v)))) SHF M) (k4 : ∀ (h1 : ¬ ((w : Int32) < (nI s : Int32))), ∀ (h3 : (v : Int32) = (Int32.ofInt (-1) : Int32)), AW l (pI pg 227) P kc ks 131 [(5, .int (Int32.ofInt 0)), (4, .int (Int32.ofInt 1)), (3, .int (nI s)), (2, .int (v)), (1, .int (w)), (0, .ref 58)] [] SHF M) (Q5 : Int32 → aM → Prop) (c6 : ∀ (h1 : ¬ ((w : Int32) < (nI s : Int32))), ∀ (h3 : ¬ ((v : Int32) = (Int32.ofInt (-1) : Int32))), AC l (pI pg 217) (fcI M Q5) 0 0 [.int (nI s)] SHF M) (Q7 : Int32 → aM → Int32 → aM → Prop) (c8 : ∀ (h1 : ¬ ((w : Int32) < (nI s : Int32))), ∀ (h3 : ¬ ((v : Int32) = (Int32.ofInt (-1) : Int32))), ∀ (y5 : Int32), ∀ (M5 : aM), ∀ (e5 : M5.2.2 = M.2.2), ∀ (q5 : Q5 y5 M5), AC l (pI pg 217) (fcI M5 (Q7 y5 M5)) 0 0 [.int (v)] SHF M5) (k10 : ∀ (h1 : ¬ ((w : Int32) < (nI s : Int32))), ∀ (h3 : ¬ ((v : Int32) = (Int32.ofInt (-1) : Int32))), ∀ (y5 : Int32), ∀ (M5 : aM), ∀ (e5 : M5.2.2 = M.2.2), ∀ (q5 : Q5 y5 M5), ∀ (y7 : Int32), ∀ (M7 : aM), ∀ (e7 : M7.2.2 = M5.2.2), ∀ (q7 : (Q7 y5 M5) y7 M7), ∀ (h9 : (y5 : Int32) < (y7 : Int32)), AW l (pI pg 227) P kc ks 131 [(5, .int (Int32.ofInt 0)), (4, .int (Int32.ofInt 1)), (3, .int (nI s)), (2, .int (v)), (1, .int (w)), (0, .ref 58)] [] SHF M7) (k11 : ∀ (h1 : ¬ ((w : Int32) < (nI s : Int32))), ∀ (h3 : ¬ ((v : Int32) = (Int32.ofInt (-1) : Int32))), ∀ (y5 : Int32), ∀ (M5 : aM), ∀ (e5 : M5.2.2 = M.2.2), ∀ (q5 : Q5 y5 M5), ∀ (y7 : Int32), ∀ (M7 : aM), ∀ (e7 : M7.2.2 = M5.2.2), ∀ (q7 : (Q7 y5 M5) y7 M7), ∀ (h9 : ¬ ((y5 : Int32) < (y7 : Int32))), AW l (pI pg 227) P kc ks 101 [(3, .int ((nI s) + Int32.ofInt 1)), (2, .int (v)), (1, .int (w)), (0, .ref 58)] [] SHF M7) : AW l (pI pg 227) P kc ks 101 [(3, .int (nI s)), (2, .int (v)), (1, .int (w)), (0, .ref 58)] [] SHF M := by
  refine AW.iload_n (dq rfl) rfl ?_
  show AW l (pI pg 227) P kc ks 102 _ _ SHF _
  refine AW.iload_n (dq rfl) rfl ?_
  show AW l (pI pg 227) P kc ks 103 _ _ SHF _
  refine AW.icmp_gt (dq rfl) (tgt := 235) (by decide) (fun h1 => ?_) (fun h1 => ?_)
  · have _ := h1
    refine AW.iload_n (dq rfl) rfl ?_
    show AW l (pI pg 227) P kc ks 236 _ _ SHF _
    refine AW.iret (dq rfl) rfl ?_
    exact r2 h1
  · have _ := h1
    refine AW.iload_n (dq rfl) rfl ?_
    show AW l (pI pg 227) P kc ks 107 _ _ SHF _
    refine AW.iconst (dq rfl) ?_
    show AW l (pI pg 227) P kc ks 108 _ _ SHF _
    refine AW.icmp_eq (dq rfl) (tgt := 125) (by decide) (fun h3 => ?_) (fun h3 => ?_)
    · have _ := h3
      refine AW.iconst (dq rfl) ?_
      show AW l (pI pg 227) P kc ks 126 _ _ SHF _
      refine AW.istore (dq rfl) (by decide +kernel) ?_
      show AW l (pI pg 227) P kc ks 128 [(4, .int (Int32.ofInt 1)), (3, .int (nI s)), (2, .int (v)), (1, .int (w)), (0, .ref 58)] [] SHF _
      refine AW.iconst (dq rfl) ?_
      show AW l (pI pg 227) P kc ks 129 _ _ SHF _
      refine AW.istore (dq rfl) (by decide +kernel) ?_
      show AW l (pI pg 227) P kc ks 131 [(5, .int (Int32.ofInt 0)), (4, .int (Int32.ofInt 1)), (3, .int (nI s)), (2, .int (v)), (1, .int (w)), (0, .ref 58)] [] SHF _
      refine AW.drop (lv' := [(5, .int (Int32.ofInt 0)), (4, .int (Int32.ofInt 1)), (3, .int (nI s)), (2, .int (v)), (1, .int (w)), (0, .ref 58)]) (List.forall_mem_cons.mpr ⟨List.mem_of_getElem? (i := 0) rfl, List.forall_mem_cons.mpr ⟨List.mem_of_getElem? (i := 1) rfl, List.forall_mem_cons.mpr ⟨List.mem_of_getElem? (i := 2) rfl, List.forall_mem_cons.mpr ⟨List.mem_of_getElem? (i := 3) rfl, List.forall_mem_cons.mpr ⟨List.mem_of_getElem? (i := 4) rfl, List.forall_mem_cons.mpr ⟨List.mem_of_getElem? (i := 5) rfl, fun _ h => absurd h List.not_mem_nil⟩⟩⟩⟩⟩⟩) ?_
      exact k4 h1 h3
    · have _ := h3
      refine AW.iload_n (dq rfl) rfl ?_
      show AW l (pI pg 227) P kc ks 112 _ _ SHF _
      refine fw_callSI (as := [.int (nI s)]) (dq rfl) (pg_ok.2.2.1 227 _ _ _ _ rfl) (by decide +kernel) rfl rfl (c6 h1 h3) (fun y5 M5 e5 q5 => ?_)
      have hJ5 : ∀ e ∈ RM, M5.2.2 e.1 e.2.1 = e.2.2 := fun e he => by rw [e5]; exact hJ e he
      show AW l (pI pg 227) P kc ks 115 [(3, .int (nI s)), (2, .int (v)), (1, .int (w)), (0, .ref 58)] [.int (y5)] SHF _
      refine AW.iload_n (dq rfl) rfl ?_
      show AW l (pI pg 227) P kc ks 116 _ _ SHF _
      refine fw_callSI (as := [.int (v)]) (dq rfl) (pg_ok.2.2.1 227 _ _ _ _ rfl) (by decide +kernel) rfl rfl (c8 h1 h3 y5 M5 e5 q5) (fun y7 M7 e7 q7 => ?_)
      have hJ7 : ∀ e ∈ RM, M7.2.2 e.1 e.2.1 = e.2.2 := fun e he => by rw [e7]; exact hJ5 e he
      show AW l (pI pg 227) P kc ks 119 [(3, .int (nI s)), (2, .int (v)), (1, .int (w)), (0, .ref 58)] [.int (y7), .int (y5)] SHF _
      refine AW.icmp_lt (dq rfl) (tgt := 125) (by decide) (fun h9 => ?_) (fun h9 => ?_)
      · have _ := h9
        refine AW.iconst (dq rfl) ?_
        show AW l (pI pg 227) P kc ks 126 _ _ SHF _
        refine AW.istore (dq rfl) (by decide +kernel) ?_
        show AW l (pI pg 227) P kc ks 128 [(4, .int (Int32.ofInt 1)), (3, .int (nI s)), (2, .int (v)), (1, .int (w)), (0, .ref 58)] [] SHF _
        refine AW.iconst (dq rfl) ?_
        show AW l (pI pg 227) P kc ks 129 _ _ SHF _
        refine AW.istore (dq rfl) (by decide +kernel) ?_
        show AW l (pI pg 227) P kc ks 131 [(5, .int (Int32.ofInt 0)), (4, .int (Int32.ofInt 1)), (3, .int (nI s)), (2, .int (v)), (1, .int (w)), (0, .ref 58)] [] SHF _
        refine AW.drop (lv' := [(5, .int (Int32.ofInt 0)), (4, .int (Int32.ofInt 1)), (3, .int (nI s)), (2, .int (v)), (1, .int (w)), (0, .ref 58)]) (List.forall_mem_cons.mpr ⟨List.mem_of_getElem? (i := 0) rfl, List.forall_mem_cons.mpr ⟨List.mem_of_getElem? (i := 1) rfl, List.forall_mem_cons.mpr ⟨List.mem_of_getElem? (i := 2) rfl, List.forall_mem_cons.mpr ⟨List.mem_of_getElem? (i := 3) rfl, List.forall_mem_cons.mpr ⟨List.mem_of_getElem? (i := 4) rfl, List.forall_mem_cons.mpr ⟨List.mem_of_getElem? (i := 5) rfl, fun _ h => absurd h List.not_mem_nil⟩⟩⟩⟩⟩⟩) ?_
        exact k10 h1 h3 y5 M5 e5 q5 y7 M7 e7 q7 h9
      · have _ := h9
        refine AW.goto (dq rfl) (tgt := 229) (by decide) ?_
        refine AW.iinc (dq rfl) rfl (by decide +kernel) ?_
        show AW l (pI pg 227) P kc ks 232 [(3, .int ((nI s) + Int32.ofInt 1)), (2, .int (v)), (1, .int (w)), (0, .ref 58)] [] SHF _
        refine AW.goto (dq rfl) (tgt := 101) (by decide) ?_
        refine AW.drop (lv' := [(3, .int ((nI s) + Int32.ofInt 1)), (2, .int (v)), (1, .int (w)), (0, .ref 58)]) (List.forall_mem_cons.mpr ⟨List.mem_of_getElem? (i := 0) rfl, List.forall_mem_cons.mpr ⟨List.mem_of_getElem? (i := 1) rfl, List.forall_mem_cons.mpr ⟨List.mem_of_getElem? (i := 2) rfl, List.forall_mem_cons.mpr ⟨List.mem_of_getElem? (i := 3) rfl, fun _ h => absurd h List.not_mem_nil⟩⟩⟩⟩) ?_
        exact k11 h1 h3 y5 M5 e5 q5 y7 M7 e7 q7 h9

theorem mmr_131 {l : aL} {P : aP} {kc ks : Nat} {p s : Nat} {g v w : Int32} {M : aM} (hJ : ∀ e ∈ RM, M.2.2 e.1 e.2.1 = e.2.2) (hl0 : l.1.stackTraces = false) (k3 : ∀ (h1 : (M.1 58 1 : Int32) ≤ (nI p : Int32)), ∀ (h2 : (g : Int32) = 0), AW l (pI pg 227) P kc ks 101 [(3, .int ((nI s) + Int32.ofInt 1)), (2, .int (v)), (1, .int (w)), (0, .ref 58)] [] SHF M) (k4 : ∀ (h1 : (M.1 58 1 : Int32) ≤ (nI p : Int32)), ∀ (h2 : ¬ ((g : Int32) = 0)), AW l (pI pg 227) P kc ks 101 [(3, .int ((nI s) + Int32.ofInt 1)), (2, .int (nI s)), (1, .int (w)), (0, .ref 58)] [] SHF M) (k7 : ∀ (h1 : ¬ ((M.1 58 1 : Int32) ≤ (nI p : Int32))), ∀ (h5 : (g : Int32) = 0), ∀ (h6 : (g : Int32) = 0), AW l (pI pg 227) P kc ks 101 [(3, .int ((nI s) + Int32.ofInt 1)), (2, .int (v)), (1, .int (w)), (0, .ref 58)] [] SHF M) (k8 : ∀ (h1 : ¬ ((M.1 58 1 : Int32) ≤ (nI p : Int32))), ∀ (h5 : (g : Int32) = 0), ∀ (h6 : ¬ ((g : Int32) = 0)), AW l (pI pg 227) P kc ks 101 [(3, .int ((nI s) + Int32.ofInt 1)), (2, .int (nI s)), (1, .int (w)), (0, .ref 58)] [] SHF M) (k9 : ∀ (h1 : ¬ ((M.1 58 1 : Int32) ≤ (nI p : Int32))), ∀ (h5 : ¬ ((g : Int32) = 0)), AW l (pI pg 227) P kc ks 151 [(6, .int (Int32.ofInt 0)), (5, .int (nI p)), (4, .int (Int32.ofInt 0)), (3, .int (nI s)), (2, .int (v)), (1, .int (w)), (0, .ref 58)] [] SHF M) : AW l (pI pg 227) P kc ks 131 [(5, .int (nI p)), (4, .int (g)), (3, .int (nI s)), (2, .int (v)), (1, .int (w)), (0, .ref 58)] [] SHF M := by
  refine AW.iload (dq rfl) rfl ?_
  show AW l (pI pg 227) P kc ks 133 _ _ SHF _
  refine AW.aload_n (dq rfl) rfl rfl ?_
  show AW l (pI pg 227) P kc ks 134 _ _ SHF _
  refine fw_get (dq rfl) (pg_ok.2.1 227 _ _ _ _ rfl) rfl (v := .int (M.1 58 1)) rfl ?_
  show AW l (pI pg 227) P kc ks 137 _ _ SHF _
  refine AW.icmp_ge (dq rfl) (tgt := 222) (by decide) (fun h1 => ?_) (fun h1 => ?_)
  · have _ := h1
    refine AW.iload (dq rfl) rfl ?_
    show AW l (pI pg 227) P kc ks 224 _ _ SHF _
    refine AW.if_eq (dq rfl) (tgt := 229) (by decide) (fun h2 => ?_) (fun h2 => ?_)
    · have _ := h2
      refine AW.iinc (dq rfl) rfl (by decide +kernel) ?_
      show AW l (pI pg 227) P kc ks 232 [(3, .int ((nI s) + Int32.ofInt 1)), (5, .int (nI p)), (4, .int (g)), (2, .int (v)), (1, .int (w)), (0, .ref 58)] [] SHF _
      refine AW.goto (dq rfl) (tgt := 101) (by decide) ?_
      refine AW.drop (lv' := [(3, .int ((nI s) + Int32.ofInt 1)), (2, .int (v)), (1, .int (w)), (0, .ref 58)]) (List.forall_mem_cons.mpr ⟨List.mem_of_getElem? (i := 0) rfl, List.forall_mem_cons.mpr ⟨List.mem_of_getElem? (i := 3) rfl, List.forall_mem_cons.mpr ⟨List.mem_of_getElem? (i := 4) rfl, List.forall_mem_cons.mpr ⟨List.mem_of_getElem? (i := 5) rfl, fun _ h => absurd h List.not_mem_nil⟩⟩⟩⟩) ?_
      exact k3 h1 h2
    · have _ := h2
      refine AW.iload_n (dq rfl) rfl ?_
      show AW l (pI pg 227) P kc ks 228 _ _ SHF _
      refine AW.istore_n (dq rfl) (by decide +kernel) ?_
      show AW l (pI pg 227) P kc ks 229 [(2, .int (nI s)), (5, .int (nI p)), (4, .int (g)), (3, .int (nI s)), (1, .int (w)), (0, .ref 58)] [] SHF _
      refine AW.iinc (dq rfl) rfl (by decide +kernel) ?_
      show AW l (pI pg 227) P kc ks 232 [(3, .int ((nI s) + Int32.ofInt 1)), (2, .int (nI s)), (5, .int (nI p)), (4, .int (g)), (1, .int (w)), (0, .ref 58)] [] SHF _
      refine AW.goto (dq rfl) (tgt := 101) (by decide) ?_
      refine AW.drop (lv' := [(3, .int ((nI s) + Int32.ofInt 1)), (2, .int (nI s)), (1, .int (w)), (0, .ref 58)]) (List.forall_mem_cons.mpr ⟨List.mem_of_getElem? (i := 0) rfl, List.forall_mem_cons.mpr ⟨List.mem_of_getElem? (i := 1) rfl, List.forall_mem_cons.mpr ⟨List.mem_of_getElem? (i := 4) rfl, List.forall_mem_cons.mpr ⟨List.mem_of_getElem? (i := 5) rfl, fun _ h => absurd h List.not_mem_nil⟩⟩⟩⟩) ?_
      exact k4 h1 h2
  · have _ := h1
    refine AW.iload (dq rfl) rfl ?_
    show AW l (pI pg 227) P kc ks 142 _ _ SHF _
    refine AW.if_eq (dq rfl) (tgt := 222) (by decide) (fun h5 => ?_) (fun h5 => ?_)
    · have _ := h5
      refine AW.iload (dq rfl) rfl ?_
      show AW l (pI pg 227) P kc ks 224 _ _ SHF _
      refine AW.if_eq (dq rfl) (tgt := 229) (by decide) (fun h6 => ?_) (fun h6 => ?_)
      · have _ := h6
        refine AW.iinc (dq rfl) rfl (by decide +kernel) ?_
        show AW l (pI pg 227) P kc ks 232 [(3, .int ((nI s) + Int32.ofInt 1)), (5, .int (nI p)), (4, .int (g)), (2, .int (v)), (1, .int (w)), (0, .ref 58)] [] SHF _
        refine AW.goto (dq rfl) (tgt := 101) (by decide) ?_
        refine AW.drop (lv' := [(3, .int ((nI s) + Int32.ofInt 1)), (2, .int (v)), (1, .int (w)), (0, .ref 58)]) (List.forall_mem_cons.mpr ⟨List.mem_of_getElem? (i := 0) rfl, List.forall_mem_cons.mpr ⟨List.mem_of_getElem? (i := 3) rfl, List.forall_mem_cons.mpr ⟨List.mem_of_getElem? (i := 4) rfl, List.forall_mem_cons.mpr ⟨List.mem_of_getElem? (i := 5) rfl, fun _ h => absurd h List.not_mem_nil⟩⟩⟩⟩) ?_
        exact k7 h1 h5 h6
      · have _ := h6
        refine AW.iload_n (dq rfl) rfl ?_
        show AW l (pI pg 227) P kc ks 228 _ _ SHF _
        refine AW.istore_n (dq rfl) (by decide +kernel) ?_
        show AW l (pI pg 227) P kc ks 229 [(2, .int (nI s)), (5, .int (nI p)), (4, .int (g)), (3, .int (nI s)), (1, .int (w)), (0, .ref 58)] [] SHF _
        refine AW.iinc (dq rfl) rfl (by decide +kernel) ?_
        show AW l (pI pg 227) P kc ks 232 [(3, .int ((nI s) + Int32.ofInt 1)), (2, .int (nI s)), (5, .int (nI p)), (4, .int (g)), (1, .int (w)), (0, .ref 58)] [] SHF _
        refine AW.goto (dq rfl) (tgt := 101) (by decide) ?_
        refine AW.drop (lv' := [(3, .int ((nI s) + Int32.ofInt 1)), (2, .int (nI s)), (1, .int (w)), (0, .ref 58)]) (List.forall_mem_cons.mpr ⟨List.mem_of_getElem? (i := 0) rfl, List.forall_mem_cons.mpr ⟨List.mem_of_getElem? (i := 1) rfl, List.forall_mem_cons.mpr ⟨List.mem_of_getElem? (i := 4) rfl, List.forall_mem_cons.mpr ⟨List.mem_of_getElem? (i := 5) rfl, fun _ h => absurd h List.not_mem_nil⟩⟩⟩⟩) ?_
        exact k8 h1 h5 h6
    · have _ := h5
      refine AW.iconst (dq rfl) ?_
      show AW l (pI pg 227) P kc ks 146 _ _ SHF _
      refine AW.istore (dq rfl) (by decide +kernel) ?_
      show AW l (pI pg 227) P kc ks 148 [(4, .int (Int32.ofInt 0)), (5, .int (nI p)), (3, .int (nI s)), (2, .int (v)), (1, .int (w)), (0, .ref 58)] [] SHF _
      refine AW.iconst (dq rfl) ?_
      show AW l (pI pg 227) P kc ks 149 _ _ SHF _
      refine AW.istore (dq rfl) (by decide +kernel) ?_
      show AW l (pI pg 227) P kc ks 151 [(6, .int (Int32.ofInt 0)), (4, .int (Int32.ofInt 0)), (5, .int (nI p)), (3, .int (nI s)), (2, .int (v)), (1, .int (w)), (0, .ref 58)] [] SHF _
      refine AW.drop (lv' := [(6, .int (Int32.ofInt 0)), (5, .int (nI p)), (4, .int (Int32.ofInt 0)), (3, .int (nI s)), (2, .int (v)), (1, .int (w)), (0, .ref 58)]) (List.forall_mem_cons.mpr ⟨List.mem_of_getElem? (i := 0) rfl, List.forall_mem_cons.mpr ⟨List.mem_of_getElem? (i := 2) rfl, List.forall_mem_cons.mpr ⟨List.mem_of_getElem? (i := 1) rfl, List.forall_mem_cons.mpr ⟨List.mem_of_getElem? (i := 3) rfl, List.forall_mem_cons.mpr ⟨List.mem_of_getElem? (i := 4) rfl, List.forall_mem_cons.mpr ⟨List.mem_of_getElem? (i := 5) rfl, List.forall_mem_cons.mpr ⟨List.mem_of_getElem? (i := 6) rfl, fun _ h => absurd h List.not_mem_nil⟩⟩⟩⟩⟩⟩⟩) ?_
      exact k9 h1 h5

theorem mmr_151 {l : aL} {P : aP} {kc ks : Nat} {p s t : Nat} {g v w : Int32} {M : aM} (hJ : ∀ e ∈ RM, M.2.2 e.1 e.2.1 = e.2.2) (hl0 : l.1.stackTraces = false) (k2 : ∀ (h1 : (w : Int32) < (nI t : Int32)), AW l (pI pg 227) P kc ks 131 [(5, .int ((nI p) + Int32.ofInt 1)), (4, .int (g)), (3, .int (nI s)), (2, .int (v)), (1, .int (w)), (0, .ref 58)] [] SHF M) (k4 : ∀ (h1 : ¬ ((w : Int32) < (nI t : Int32))), ∀ (h3 : ¬ (g : Int32) = 0), AW l (pI pg 227) P kc ks 131 [(5, .int ((nI p) + Int32.ofInt 1)), (4, .int (g)), (3, .int (nI s)), (2, .int (v)), (1, .int (w)), (0, .ref 58)] [] SHF M) (k6 : ∀ (h1 : ¬ ((w : Int32) < (nI t : Int32))), ∀ (h3 : (g : Int32) = 0), ∀ (h5 : ¬ ((nI t) &&& ((nI s) ^^^ (Int32.ofInt (-1))) : Int32) = 0), AW l (pI pg 227) P kc ks 151 [(6, .int ((nI t) + Int32.ofInt 1)), (5, .int (nI p)), (4, .int (Int32.ofInt 0)), (3, .int (nI s)), (2, .int (v)), (1, .int (w)), (0, .ref 58)] [] SHF M) (o7 : ∀ (h1 : ¬ ((w : Int32) < (nI t : Int32))), ∀ (h3 : (g : Int32) = 0), ∀ (h5 : ((nI t) &&& ((nI s) ^^^ (Int32.ofInt (-1))) : Int32) = 0), vp_in ((((Int16.ofInt 256).toInt32) * (nI p)) + ((w) &&& ((nI t) ^^^ (Int32.ofInt (-1))))) 1536) (k9 : ∀ (h1 : ¬ ((w : Int32) < (nI t : Int32))), ∀ (h3 : (g : Int32) = 0), ∀ (h5 : ((nI t) &&& ((nI s) ^^^ (Int32.ofInt (-1))) : Int32) = 0), ∀ (h8 : (M.1 82 ((((Int16.ofInt 256).toInt32) * (nI p)) + ((w) &&& ((nI t) ^^^ (Int32.ofInt (-1))))).toNatClampNeg : Int32) = 0), AW l (pI pg 227) P kc ks 151 [(6, .int ((nI t) + Int32.ofInt 1)), (5, .int (nI p)), (4, .int (Int32.ofInt 0)), (3, .int (nI s)), (2, .int (v)), (1, .int (w)), (0, .ref 58)] [] SHF M) (Q10 : Int32 → aM → Prop) (c11 : ∀ (h1 : ¬ ((w : Int32) < (nI t : Int32))), ∀ (h3 : (g : Int32) = 0), ∀ (h5 : ((nI t) &&& ((nI s) ^^^ (Int32.ofInt (-1))) : Int32) = 0), ∀ (h8 : ¬ ((M.1 82 ((((Int16.ofInt 256).toInt32) * (nI p)) + ((w) &&& ((nI t) ^^^ (Int32.ofInt (-1))))).toNatClampNeg : Int32) = 0)), AC l (pI pg 206) (fcI M Q10) 0 0 [.ref 58, .int (nI t), .int ((Int8.ofInt 24).toInt32)] SHF M) (k13 : ∀ (h1 : ¬ ((w : Int32) < (nI t : Int32))), ∀ (h3 : (g : Int32) = 0), ∀ (h5 : ((nI t) &&& ((nI s) ^^^ (Int32.ofInt (-1))) : Int32) = 0), ∀ (h8 : ¬ ((M.1 82 ((((Int16.ofInt 256).toInt32) * (nI p)) + ((w) &&& ((nI t) ^^^ (Int32.ofInt (-1))))).toNatClampNeg : Int32) = 0)), ∀ (y10 : Int32), ∀ (M10 : aM), ∀ (e10 : M10.2.2 = M.2.2), ∀ (q10 : Q10 y10 M10), ∀ (h12 : (y10 : Int32) = 0), AW l (pI pg 227) P kc ks 151 [(6, .int ((nI t) + Int32.ofInt 1)), (5, .int (nI p)), (4, .int (Int32.ofInt 0)), (3, .int (nI s)), (2, .int (v)), (1, .int (w)), (0, .ref 58)] [] SHF M10) (k14 : ∀ (h1 : ¬ ((w : Int32) < (nI t : Int32))), ∀ (h3 : (g : Int32) = 0), ∀ (h5 : ((nI t) &&& ((nI s) ^^^ (Int32.ofInt (-1))) : Int32) = 0), ∀ (h8 : ¬ ((M.1 82 ((((Int16.ofInt 256).toInt32) * (nI p)) + ((w) &&& ((nI t) ^^^ (Int32.ofInt (-1))))).toNatClampNeg : Int32) = 0)), ∀ (y10 : Int32), ∀ (M10 : aM), ∀ (e10 : M10.2.2 = M.2.2), ∀ (q10 : Q10 y10 M10), ∀ (h12 : ¬ ((y10 : Int32) = 0)), AW l (pI pg 227) P kc ks 151 [(6, .int ((nI t) + Int32.ofInt 1)), (5, .int (nI p)), (4, .int (Int32.ofInt 1)), (3, .int (nI s)), (2, .int (v)), (1, .int (w)), (0, .ref 58)] [] SHF M10) : AW l (pI pg 227) P kc ks 151 [(6, .int (nI t)), (5, .int (nI p)), (4, .int (g)), (3, .int (nI s)), (2, .int (v)), (1, .int (w)), (0, .ref 58)] [] SHF M := by
  refine AW.iload (dq rfl) rfl ?_
  show AW l (pI pg 227) P kc ks 153 _ _ SHF _
  refine AW.iload_n (dq rfl) rfl ?_
  show AW l (pI pg 227) P kc ks 154 _ _ SHF _
  refine AW.icmp_gt (dq rfl) (tgt := 216) (by decide) (fun h1 => ?_) (fun h1 => ?_)
  · have _ := h1
    refine AW.iinc (dq rfl) rfl (by decide +kernel) ?_
    show AW l (pI pg 227) P kc ks 219 [(5, .int ((nI p) + Int32.ofInt 1)), (6, .int (nI t)), (4, .int (g)), (3, .int (nI s)), (2, .int (v)), (1, .int (w)), (0, .ref 58)] [] SHF _
    refine AW.goto (dq rfl) (tgt := 131) (by decide) ?_
    refine AW.drop (lv' := [(5, .int ((nI p) + Int32.ofInt 1)), (4, .int (g)), (3, .int (nI s)), (2, .int (v)), (1, .int (w)), (0, .ref 58)]) (List.forall_mem_cons.mpr ⟨List.mem_of_getElem? (i := 0) rfl, List.forall_mem_cons.mpr ⟨List.mem_of_getElem? (i := 2) rfl, List.forall_mem_cons.mpr ⟨List.mem_of_getElem? (i := 3) rfl, List.forall_mem_cons.mpr ⟨List.mem_of_getElem? (i := 4) rfl, List.forall_mem_cons.mpr ⟨List.mem_of_getElem? (i := 5) rfl, List.forall_mem_cons.mpr ⟨List.mem_of_getElem? (i := 6) rfl, fun _ h => absurd h List.not_mem_nil⟩⟩⟩⟩⟩⟩) ?_
    exact k2 h1
  · have _ := h1
    refine AW.iload (dq rfl) rfl ?_
    show AW l (pI pg 227) P kc ks 159 _ _ SHF _
    refine AW.if_ne (dq rfl) (tgt := 216) (by decide) (fun h3 => ?_) (fun h3 => ?_)
    · have _ := h3
      refine AW.iinc (dq rfl) rfl (by decide +kernel) ?_
      show AW l (pI pg 227) P kc ks 219 [(5, .int ((nI p) + Int32.ofInt 1)), (6, .int (nI t)), (4, .int (g)), (3, .int (nI s)), (2, .int (v)), (1, .int (w)), (0, .ref 58)] [] SHF _
      refine AW.goto (dq rfl) (tgt := 131) (by decide) ?_
      refine AW.drop (lv' := [(5, .int ((nI p) + Int32.ofInt 1)), (4, .int (g)), (3, .int (nI s)), (2, .int (v)), (1, .int (w)), (0, .ref 58)]) (List.forall_mem_cons.mpr ⟨List.mem_of_getElem? (i := 0) rfl, List.forall_mem_cons.mpr ⟨List.mem_of_getElem? (i := 2) rfl, List.forall_mem_cons.mpr ⟨List.mem_of_getElem? (i := 3) rfl, List.forall_mem_cons.mpr ⟨List.mem_of_getElem? (i := 4) rfl, List.forall_mem_cons.mpr ⟨List.mem_of_getElem? (i := 5) rfl, List.forall_mem_cons.mpr ⟨List.mem_of_getElem? (i := 6) rfl, fun _ h => absurd h List.not_mem_nil⟩⟩⟩⟩⟩⟩) ?_
      exact k4 h1 h3
    · have _ := h3
      refine AW.iload (dq rfl) rfl ?_
      show AW l (pI pg 227) P kc ks 164 _ _ SHF _
      refine AW.iload_n (dq rfl) rfl ?_
      show AW l (pI pg 227) P kc ks 165 _ _ SHF _
      refine AW.iconst (dq rfl) ?_
      show AW l (pI pg 227) P kc ks 166 _ _ SHF _
      refine AW.ixor (dq rfl) ?_
      show AW l (pI pg 227) P kc ks 167 _ _ SHF _
      refine AW.iand (dq rfl) ?_
      show AW l (pI pg 227) P kc ks 168 _ _ SHF _
      refine AW.if_ne (dq rfl) (tgt := 207) (by decide) (fun h5 => ?_) (fun h5 => ?_)
      · have _ := h5
        refine AW.iconst (dq rfl) ?_
        show AW l (pI pg 227) P kc ks 208 _ _ SHF _
        refine AW.istore (dq rfl) (by decide +kernel) ?_
        show AW l (pI pg 227) P kc ks 210 [(4, .int (Int32.ofInt 0)), (6, .int (nI t)), (5, .int (nI p)), (3, .int (nI s)), (2, .int (v)), (1, .int (w)), (0, .ref 58)] [] SHF _
        refine AW.iinc (dq rfl) rfl (by decide +kernel) ?_
        show AW l (pI pg 227) P kc ks 213 [(6, .int ((nI t) + Int32.ofInt 1)), (4, .int (Int32.ofInt 0)), (5, .int (nI p)), (3, .int (nI s)), (2, .int (v)), (1, .int (w)), (0, .ref 58)] [] SHF _
        refine AW.goto (dq rfl) (tgt := 151) (by decide) ?_
        refine AW.drop (lv' := [(6, .int ((nI t) + Int32.ofInt 1)), (5, .int (nI p)), (4, .int (Int32.ofInt 0)), (3, .int (nI s)), (2, .int (v)), (1, .int (w)), (0, .ref 58)]) (List.forall_mem_cons.mpr ⟨List.mem_of_getElem? (i := 0) rfl, List.forall_mem_cons.mpr ⟨List.mem_of_getElem? (i := 2) rfl, List.forall_mem_cons.mpr ⟨List.mem_of_getElem? (i := 1) rfl, List.forall_mem_cons.mpr ⟨List.mem_of_getElem? (i := 3) rfl, List.forall_mem_cons.mpr ⟨List.mem_of_getElem? (i := 4) rfl, List.forall_mem_cons.mpr ⟨List.mem_of_getElem? (i := 5) rfl, List.forall_mem_cons.mpr ⟨List.mem_of_getElem? (i := 6) rfl, fun _ h => absurd h List.not_mem_nil⟩⟩⟩⟩⟩⟩⟩) ?_
        exact k6 h1 h3 h5
      · have _ := h5
        refine AW.aload_n (dq rfl) rfl rfl ?_
        show AW l (pI pg 227) P kc ks 172 _ _ SHF _
        refine fw_get (dq rfl) (pg_ok.2.1 227 _ _ _ _ rfl) rfl (v := .ref 82) (isTA_ok rfl (rgR_ok hJ rfl)) ?_
        show AW l (pI pg 227) P kc ks 175 _ _ SHF _
        refine AW.sipush (dq rfl) ?_
        show AW l (pI pg 227) P kc ks 178 _ _ SHF _
        refine AW.iload (dq rfl) rfl ?_
        show AW l (pI pg 227) P kc ks 180 _ _ SHF _
        refine AW.imul (dq rfl) ?_
        show AW l (pI pg 227) P kc ks 181 _ _ SHF _
        refine AW.iload_n (dq rfl) rfl ?_
        show AW l (pI pg 227) P kc ks 182 _ _ SHF _
        refine AW.iload (dq rfl) rfl ?_
        show AW l (pI pg 227) P kc ks 184 _ _ SHF _
        refine AW.iconst (dq rfl) ?_
        show AW l (pI pg 227) P kc ks 185 _ _ SHF _
        refine AW.ixor (dq rfl) ?_
        show AW l (pI pg 227) P kc ks 186 _ _ SHF _
        refine AW.iand (dq rfl) ?_
        show AW l (pI pg 227) P kc ks 187 _ _ SHF _
        refine AW.iadd (dq rfl) ?_
        show AW l (pI pg 227) P kc ks 188 _ _ SHF _
        refine AW.zald (dq rfl) rfl (o7 h1 h3 h5) ?_
        show AW l (pI pg 227) P kc ks 189 _ _ SHF _
        refine AW.if_eq (dq rfl) (tgt := 207) (by decide) (fun h8 => ?_) (fun h8 => ?_)
        · have _ := h8
          refine AW.iconst (dq rfl) ?_
          show AW l (pI pg 227) P kc ks 208 _ _ SHF _
          refine AW.istore (dq rfl) (by decide +kernel) ?_
          show AW l (pI pg 227) P kc ks 210 [(4, .int (Int32.ofInt 0)), (6, .int (nI t)), (5, .int (nI p)), (3, .int (nI s)), (2, .int (v)), (1, .int (w)), (0, .ref 58)] [] SHF _
          refine AW.iinc (dq rfl) rfl (by decide +kernel) ?_
          show AW l (pI pg 227) P kc ks 213 [(6, .int ((nI t) + Int32.ofInt 1)), (4, .int (Int32.ofInt 0)), (5, .int (nI p)), (3, .int (nI s)), (2, .int (v)), (1, .int (w)), (0, .ref 58)] [] SHF _
          refine AW.goto (dq rfl) (tgt := 151) (by decide) ?_
          refine AW.drop (lv' := [(6, .int ((nI t) + Int32.ofInt 1)), (5, .int (nI p)), (4, .int (Int32.ofInt 0)), (3, .int (nI s)), (2, .int (v)), (1, .int (w)), (0, .ref 58)]) (List.forall_mem_cons.mpr ⟨List.mem_of_getElem? (i := 0) rfl, List.forall_mem_cons.mpr ⟨List.mem_of_getElem? (i := 2) rfl, List.forall_mem_cons.mpr ⟨List.mem_of_getElem? (i := 1) rfl, List.forall_mem_cons.mpr ⟨List.mem_of_getElem? (i := 3) rfl, List.forall_mem_cons.mpr ⟨List.mem_of_getElem? (i := 4) rfl, List.forall_mem_cons.mpr ⟨List.mem_of_getElem? (i := 5) rfl, List.forall_mem_cons.mpr ⟨List.mem_of_getElem? (i := 6) rfl, fun _ h => absurd h List.not_mem_nil⟩⟩⟩⟩⟩⟩⟩) ?_
          exact k9 h1 h3 h5 h8
        · have _ := h8
          refine AW.aload_n (dq rfl) rfl rfl ?_
          show AW l (pI pg 227) P kc ks 193 _ _ SHF _
          refine AW.iload (dq rfl) rfl ?_
          show AW l (pI pg 227) P kc ks 195 _ _ SHF _
          refine AW.bipush (dq rfl) ?_
          show AW l (pI pg 227) P kc ks 197 _ _ SHF _
          refine fw_callVI (as := [.int (nI t), .int ((Int8.ofInt 24).toInt32)]) (dq rfl) (pg_ok.2.2.1 227 _ _ _ _ rfl) rfl (by decide +kernel) rfl rfl (c11 h1 h3 h5 h8) (fun y10 M10 e10 q10 => ?_)
          have hJ10 : ∀ e ∈ RM, M10.2.2 e.1 e.2.1 = e.2.2 := fun e he => by rw [e10]; exact hJ e he
          show AW l (pI pg 227) P kc ks 200 [(6, .int (nI t)), (5, .int (nI p)), (4, .int (g)), (3, .int (nI s)), (2, .int (v)), (1, .int (w)), (0, .ref 58)] [.int (y10)] SHF _
          refine AW.if_eq (dq rfl) (tgt := 207) (by decide) (fun h12 => ?_) (fun h12 => ?_)
          · have _ := h12
            refine AW.iconst (dq rfl) ?_
            show AW l (pI pg 227) P kc ks 208 _ _ SHF _
            refine AW.istore (dq rfl) (by decide +kernel) ?_
            show AW l (pI pg 227) P kc ks 210 [(4, .int (Int32.ofInt 0)), (6, .int (nI t)), (5, .int (nI p)), (3, .int (nI s)), (2, .int (v)), (1, .int (w)), (0, .ref 58)] [] SHF _
            refine AW.iinc (dq rfl) rfl (by decide +kernel) ?_
            show AW l (pI pg 227) P kc ks 213 [(6, .int ((nI t) + Int32.ofInt 1)), (4, .int (Int32.ofInt 0)), (5, .int (nI p)), (3, .int (nI s)), (2, .int (v)), (1, .int (w)), (0, .ref 58)] [] SHF _
            refine AW.goto (dq rfl) (tgt := 151) (by decide) ?_
            refine AW.drop (lv' := [(6, .int ((nI t) + Int32.ofInt 1)), (5, .int (nI p)), (4, .int (Int32.ofInt 0)), (3, .int (nI s)), (2, .int (v)), (1, .int (w)), (0, .ref 58)]) (List.forall_mem_cons.mpr ⟨List.mem_of_getElem? (i := 0) rfl, List.forall_mem_cons.mpr ⟨List.mem_of_getElem? (i := 2) rfl, List.forall_mem_cons.mpr ⟨List.mem_of_getElem? (i := 1) rfl, List.forall_mem_cons.mpr ⟨List.mem_of_getElem? (i := 3) rfl, List.forall_mem_cons.mpr ⟨List.mem_of_getElem? (i := 4) rfl, List.forall_mem_cons.mpr ⟨List.mem_of_getElem? (i := 5) rfl, List.forall_mem_cons.mpr ⟨List.mem_of_getElem? (i := 6) rfl, fun _ h => absurd h List.not_mem_nil⟩⟩⟩⟩⟩⟩⟩) ?_
            exact k13 h1 h3 h5 h8 y10 M10 e10 q10 h12
          · have _ := h12
            refine AW.iconst (dq rfl) ?_
            show AW l (pI pg 227) P kc ks 204 _ _ SHF _
            refine AW.goto (dq rfl) (tgt := 208) (by decide) ?_
            refine AW.istore (dq rfl) (by decide +kernel) ?_
            show AW l (pI pg 227) P kc ks 210 [(4, .int (Int32.ofInt 1)), (6, .int (nI t)), (5, .int (nI p)), (3, .int (nI s)), (2, .int (v)), (1, .int (w)), (0, .ref 58)] [] SHF _
            refine AW.iinc (dq rfl) rfl (by decide +kernel) ?_
            show AW l (pI pg 227) P kc ks 213 [(6, .int ((nI t) + Int32.ofInt 1)), (4, .int (Int32.ofInt 1)), (5, .int (nI p)), (3, .int (nI s)), (2, .int (v)), (1, .int (w)), (0, .ref 58)] [] SHF _
            refine AW.goto (dq rfl) (tgt := 151) (by decide) ?_
            refine AW.drop (lv' := [(6, .int ((nI t) + Int32.ofInt 1)), (5, .int (nI p)), (4, .int (Int32.ofInt 1)), (3, .int (nI s)), (2, .int (v)), (1, .int (w)), (0, .ref 58)]) (List.forall_mem_cons.mpr ⟨List.mem_of_getElem? (i := 0) rfl, List.forall_mem_cons.mpr ⟨List.mem_of_getElem? (i := 2) rfl, List.forall_mem_cons.mpr ⟨List.mem_of_getElem? (i := 1) rfl, List.forall_mem_cons.mpr ⟨List.mem_of_getElem? (i := 3) rfl, List.forall_mem_cons.mpr ⟨List.mem_of_getElem? (i := 4) rfl, List.forall_mem_cons.mpr ⟨List.mem_of_getElem? (i := 5) rfl, List.forall_mem_cons.mpr ⟨List.mem_of_getElem? (i := 6) rfl, fun _ h => absurd h List.not_mem_nil⟩⟩⟩⟩⟩⟩⟩) ?_
            exact k14 h1 h3 h5 h8 y10 M10 e10 q10 h12

