/-! stretches of worth by what it answers, printed by wip/gen/segs_wo.py -/
theorem wrta_0 {l : aL} {P : aP} {kc ks : Nat} {x y : Int32} {M : aM} (hJ : ∀ e ∈ RR.2, M.2.2 e.1 e.2.1 = e.2.2) (hl0 : l.1.stackTraces = false) (B1 : Prop) (c2 : AC l (pI pg 90) (tcV "java/util/NoSuchElementException" M B1) 1 6 [.ref 0, .int (x)] SHF M) (x3 : B1 → P (.inr "java/util/NoSuchElementException") SHF M) (o5 : ∀ (b1 : ¬ B1), ∀ (h4 : (y : Int32) = 0), vp_in (M.1 4 0) 7) (Q6 : Int32 → aM → Prop) (c7 : ∀ (b1 : ¬ B1), ∀ (h4 : (y : Int32) = 0), AC l (pI pg 140) (fcI M Q6) 0 0 [.ref 0, .int (x)] SHF M) (Q8 : Int32 → aM → Int32 → aM → Prop) (c9 : ∀ (b1 : ¬ B1), ∀ (h4 : (y : Int32) = 0), ∀ (y6 : Int32), ∀ (M6 : aM), ∀ (e6 : M6.2.2 = M.2.2), ∀ (q6 : Q6 y6 M6), AC l (pI pg 141) (fcI M6 (Q8 y6 M6)) 0 0 [.int (aFact.getD (M.1 4 0).toNatClampNeg 0), .int (y6)] SHF M6) (d11 : ∀ (b1 : ¬ B1), ∀ (h4 : (y : Int32) = 0), ∀ (y6 : Int32), ∀ (M6 : aM), ∀ (e6 : M6.2.2 = M.2.2), ∀ (q6 : Q6 y6 M6), ∀ (y8 : Int32), ∀ (M8 : aM), ∀ (e8 : M8.2.2 = M6.2.2), ∀ (q8 : (Q8 y6 M6) y8 M8), ∀ (h10 : ¬ (y : Int32) = 0), ¬ (y8) = (0 : Int32)) (r12 : ∀ (b1 : ¬ B1), ∀ (h4 : (y : Int32) = 0), ∀ (y6 : Int32), ∀ (M6 : aM), ∀ (e6 : M6.2.2 = M.2.2), ∀ (q6 : Q6 y6 M6), ∀ (y8 : Int32), ∀ (M8 : aM), ∀ (e8 : M8.2.2 = M6.2.2), ∀ (q8 : (Q8 y6 M6) y8 M8), ∀ (h10 : ¬ (y : Int32) = 0), P (.inl (some (.int ((aFact.getD (M.1 4 0).toNatClampNeg 0) / (y8))))) SHF M8) (d13 : ∀ (b1 : ¬ B1), ∀ (h4 : (y : Int32) = 0), ∀ (y6 : Int32), ∀ (M6 : aM), ∀ (e6 : M6.2.2 = M.2.2), ∀ (q6 : Q6 y6 M6), ∀ (y8 : Int32), ∀ (M8 : aM), ∀ (e8 : M8.2.2 = M6.2.2), ∀ (q8 : (Q8 y6 M6) y8 M8), ∀ (h10 : (y : Int32) = 0), ¬ (y8) = (0 : Int32)) (r14 : ∀ (b1 : ¬ B1), ∀ (h4 : (y : Int32) = 0), ∀ (y6 : Int32), ∀ (M6 : aM), ∀ (e6 : M6.2.2 = M.2.2), ∀ (q6 : Q6 y6 M6), ∀ (y8 : Int32), ∀ (M8 : aM), ∀ (e8 : M8.2.2 = M6.2.2), ∀ (q8 : (Q8 y6 M6) y8 M8), ∀ (h10 : (y : Int32) = 0), P (.inl (some (.int ((y6) / (y8))))) SHF M8) (o16 : ∀ (b1 : ¬ B1), ∀ (h4 : ¬ ((y : Int32) = 0)), ∀ (h15 : (y : Int32) = (Int32.ofInt 1 : Int32)), vp_in (M.1 4 0) 7) (Q17 : Int32 → aM → Prop) (c18 : ∀ (b1 : ¬ B1), ∀ (h4 : ¬ ((y : Int32) = 0)), ∀ (h15 : (y : Int32) = (Int32.ofInt 1 : Int32)), AC l (pI pg 140) (fcI M Q17) 0 0 [.ref 0, .int (x)] SHF M) (Q19 : Int32 → aM → Int32 → aM → Prop) (c20 : ∀ (b1 : ¬ B1), ∀ (h4 : ¬ ((y : Int32) = 0)), ∀ (h15 : (y : Int32) = (Int32.ofInt 1 : Int32)), ∀ (y17 : Int32), ∀ (M17 : aM), ∀ (e17 : M17.2.2 = M.2.2), ∀ (q17 : Q17 y17 M17), AC l (pI pg 141) (fcI M17 (Q19 y17 M17)) 0 0 [.int (aFact.getD (M.1 4 0).toNatClampNeg 0), .int (y17)] SHF M17) (d22 : ∀ (b1 : ¬ B1), ∀ (h4 : ¬ ((y : Int32) = 0)), ∀ (h15 : (y : Int32) = (Int32.ofInt 1 : Int32)), ∀ (y17 : Int32), ∀ (M17 : aM), ∀ (e17 : M17.2.2 = M.2.2), ∀ (q17 : Q17 y17 M17), ∀ (y19 : Int32), ∀ (M19 : aM), ∀ (e19 : M19.2.2 = M17.2.2), ∀ (q19 : (Q19 y17 M17) y19 M19), ∀ (h21 : ¬ (y : Int32) = 0), ¬ (y19) = (0 : Int32)) (r23 : ∀ (b1 : ¬ B1), ∀ (h4 : ¬ ((y : Int32) = 0)), ∀ (h15 : (y : Int32) = (Int32.ofInt 1 : Int32)), ∀ (y17 : Int32), ∀ (M17 : aM), ∀ (e17 : M17.2.2 = M.2.2), ∀ (q17 : Q17 y17 M17), ∀ (y19 : Int32), ∀ (M19 : aM), ∀ (e19 : M19.2.2 = M17.2.2), ∀ (q19 : (Q19 y17 M17) y19 M19), ∀ (h21 : ¬ (y : Int32) = 0), P (.inl (some (.int ((aFact.getD (M.1 4 0).toNatClampNeg 0) / (y19))))) SHF M19) (d24 : ∀ (b1 : ¬ B1), ∀ (h4 : ¬ ((y : Int32) = 0)), ∀ (h15 : (y : Int32) = (Int32.ofInt 1 : Int32)), ∀ (y17 : Int32), ∀ (M17 : aM), ∀ (e17 : M17.2.2 = M.2.2), ∀ (q17 : Q17 y17 M17), ∀ (y19 : Int32), ∀ (M19 : aM), ∀ (e19 : M19.2.2 = M17.2.2), ∀ (q19 : (Q19 y17 M17) y19 M19), ∀ (h21 : (y : Int32) = 0), ¬ (y19) = (0 : Int32)) (r25 : ∀ (b1 : ¬ B1), ∀ (h4 : ¬ ((y : Int32) = 0)), ∀ (h15 : (y : Int32) = (Int32.ofInt 1 : Int32)), ∀ (y17 : Int32), ∀ (M17 : aM), ∀ (e17 : M17.2.2 = M.2.2), ∀ (q17 : Q17 y17 M17), ∀ (y19 : Int32), ∀ (M19 : aM), ∀ (e19 : M19.2.2 = M17.2.2), ∀ (q19 : (Q19 y17 M17) y19 M19), ∀ (h21 : (y : Int32) = 0), P (.inl (some (.int ((y17) / (y19))))) SHF M19) (x26 : ∀ (b1 : ¬ B1), ∀ (h4 : ¬ ((y : Int32) = 0)), ∀ (h15 : ¬ ((y : Int32) = (Int32.ofInt 1 : Int32))), P (.inr "java/util/NoSuchElementException") SHF M) : AW l (pI pg 139) P (kc + 1 + 1) (ks + 6 + 6) 0 [(0, .ref 0), (1, .int (x)), (2, .int (y))] [] SHF M := by
  refine AW.aload_n (dq rfl) rfl rfl ?_
  show AW l (pI pg 139) P (kc + 1 + 1) (ks + 6 + 6) 1 _ _ SHF _
  refine AW.iload_n (dq rfl) rfl ?_
  show AW l (pI pg 139) P (kc + 1 + 1) (ks + 6 + 6) 2 _ _ SHF _
  refine fw_tcV (as := [.int (x)]) (dq rfl) (pg_ok.2.2.1 139 _ _ _ _ rfl) rfl (by decide +kernel) rfl rfl (c2) (by decide +kernel) (x3) (fun b1 => ?_)
  show AW l (pI pg 139) P (kc + 1) (ks + 6) 5 [(0, .ref 0), (1, .int (x)), (2, .int (y))] [] SHF _
  refine AW.iload_n (dq rfl) rfl ?_
  show AW l (pI pg 139) P (kc + 1) (ks + 6) 6 _ _ SHF _
  refine AW.if_eq (dq rfl) (tgt := 25) (by decide) (fun h4 => ?_) (fun h4 => ?_)
  · have _ := h4
    refine AW.getsF (dq rfl) gw_946 ?_
    show AW l (pI pg 139) P (kc + 1) (ks + 6) 28 _ _ SHF _
    refine AW.aload_n (dq rfl) rfl rfl ?_
    show AW l (pI pg 139) P (kc + 1) (ks + 6) 29 _ _ SHF _
    refine fw_get (dq rfl) (pg_ok.2.1 139 _ _ _ _ rfl) rfl (v := .ref 4) (isTA_ok rfl (rgR_ok hJ rfl)) ?_
    show AW l (pI pg 139) P (kc + 1) (ks + 6) 32 _ _ SHF _
    refine fw_get (dq rfl) (pg_ok.2.1 139 _ _ _ _ rfl) rfl (v := .int (M.1 4 0)) rfl ?_
    show AW l (pI pg 139) P (kc + 1) (ks + 6) 35 _ _ SHF _
    refine AW.ialdF (dq rfl) (o5 b1 h4) ?_
    show AW l (pI pg 139) P (kc + 1) (ks + 6) 36 _ _ SHF _
    refine AW.istore_n (dq rfl) (by decide +kernel) ?_
    show AW l (pI pg 139) P (kc + 1) (ks + 6) 37 [(3, .int (aFact.getD (M.1 4 0).toNatClampNeg 0)), (0, .ref 0), (1, .int (x)), (2, .int (y))] [] SHF _
    refine AW.aload_n (dq rfl) rfl rfl ?_
    show AW l (pI pg 139) P (kc + 1) (ks + 6) 38 _ _ SHF _
    refine AW.iload_n (dq rfl) rfl ?_
    show AW l (pI pg 139) P (kc + 1) (ks + 6) 39 _ _ SHF _
    refine fw_callVI (as := [.int (x)]) (dq rfl) (pg_ok.2.2.1 139 _ _ _ _ rfl) rfl (by decide +kernel) rfl rfl (c7 b1 h4) (fun y6 M6 e6 q6 => ?_)
    have hJ6 : ∀ e ∈ RR.2, M6.2.2 e.1 e.2.1 = e.2.2 := fun e he => by rw [e6]; exact hJ e he
    show AW l (pI pg 139) P (kc + 1) (ks + 6) 42 [(3, .int (aFact.getD (M.1 4 0).toNatClampNeg 0)), (0, .ref 0), (1, .int (x)), (2, .int (y))] [.int (y6)] SHF _
    refine AW.istore (dq rfl) (by decide +kernel) ?_
    show AW l (pI pg 139) P (kc + 1) (ks + 6) 44 [(4, .int (y6)), (3, .int (aFact.getD (M.1 4 0).toNatClampNeg 0)), (0, .ref 0), (1, .int (x)), (2, .int (y))] [] SHF _
    refine AW.iload_n (dq rfl) rfl ?_
    show AW l (pI pg 139) P (kc + 1) (ks + 6) 45 _ _ SHF _
    refine AW.iload (dq rfl) rfl ?_
    show AW l (pI pg 139) P (kc + 1) (ks + 6) 47 _ _ SHF _
    refine fw_callSI (as := [.int (aFact.getD (M.1 4 0).toNatClampNeg 0), .int (y6)]) (dq rfl) (pg_ok.2.2.1 139 _ _ _ _ rfl) (by decide +kernel) rfl rfl (c9 b1 h4 y6 M6 e6 q6) (fun y8 M8 e8 q8 => ?_)
    have hJ8 : ∀ e ∈ RR.2, M8.2.2 e.1 e.2.1 = e.2.2 := fun e he => by rw [e8]; exact hJ6 e he
    show AW l (pI pg 139) P (kc + 1) (ks + 6) 50 [(4, .int (y6)), (3, .int (aFact.getD (M.1 4 0).toNatClampNeg 0)), (0, .ref 0), (1, .int (x)), (2, .int (y))] [.int (y8)] SHF _
    refine AW.istore (dq rfl) (by decide +kernel) ?_
    show AW l (pI pg 139) P (kc + 1) (ks + 6) 52 [(5, .int (y8)), (4, .int (y6)), (3, .int (aFact.getD (M.1 4 0).toNatClampNeg 0)), (0, .ref 0), (1, .int (x)), (2, .int (y))] [] SHF _
    refine AW.iload_n (dq rfl) rfl ?_
    show AW l (pI pg 139) P (kc + 1) (ks + 6) 53 _ _ SHF _
    refine AW.if_ne (dq rfl) (tgt := 61) (by decide) (fun h10 => ?_) (fun h10 => ?_)
    · have _ := h10
      refine AW.iload_n (dq rfl) rfl ?_
      show AW l (pI pg 139) P (kc + 1) (ks + 6) 62 _ _ SHF _
      refine AW.iload (dq rfl) rfl ?_
      show AW l (pI pg 139) P (kc + 1) (ks + 6) 64 _ _ SHF _
      refine AW.idiv (dq rfl) (d11 b1 h4 y6 M6 e6 q6 y8 M8 e8 q8 h10) ?_
      show AW l (pI pg 139) P (kc + 1) (ks + 6) 65 _ _ SHF _
      refine AW.iret (dq rfl) rfl ?_
      exact r12 b1 h4 y6 M6 e6 q6 y8 M8 e8 q8 h10
    · have _ := h10
      refine AW.iload (dq rfl) rfl ?_
      show AW l (pI pg 139) P (kc + 1) (ks + 6) 58 _ _ SHF _
      refine AW.goto (dq rfl) (tgt := 62) (by decide) ?_
      refine AW.iload (dq rfl) rfl ?_
      show AW l (pI pg 139) P (kc + 1) (ks + 6) 64 _ _ SHF _
      refine AW.idiv (dq rfl) (d13 b1 h4 y6 M6 e6 q6 y8 M8 e8 q8 h10) ?_
      show AW l (pI pg 139) P (kc + 1) (ks + 6) 65 _ _ SHF _
      refine AW.iret (dq rfl) rfl ?_
      exact r14 b1 h4 y6 M6 e6 q6 y8 M8 e8 q8 h10
  · have _ := h4
    refine AW.iload_n (dq rfl) rfl ?_
    show AW l (pI pg 139) P (kc + 1) (ks + 6) 10 _ _ SHF _
    refine AW.iconst (dq rfl) ?_
    show AW l (pI pg 139) P (kc + 1) (ks + 6) 11 _ _ SHF _
    refine AW.icmp_eq (dq rfl) (tgt := 25) (by decide) (fun h15 => ?_) (fun h15 => ?_)
    · have _ := h15
      refine AW.getsF (dq rfl) gw_946 ?_
      show AW l (pI pg 139) P (kc + 1) (ks + 6) 28 _ _ SHF _
      refine AW.aload_n (dq rfl) rfl rfl ?_
      show AW l (pI pg 139) P (kc + 1) (ks + 6) 29 _ _ SHF _
      refine fw_get (dq rfl) (pg_ok.2.1 139 _ _ _ _ rfl) rfl (v := .ref 4) (isTA_ok rfl (rgR_ok hJ rfl)) ?_
      show AW l (pI pg 139) P (kc + 1) (ks + 6) 32 _ _ SHF _
      refine fw_get (dq rfl) (pg_ok.2.1 139 _ _ _ _ rfl) rfl (v := .int (M.1 4 0)) rfl ?_
      show AW l (pI pg 139) P (kc + 1) (ks + 6) 35 _ _ SHF _
      refine AW.ialdF (dq rfl) (o16 b1 h4 h15) ?_
      show AW l (pI pg 139) P (kc + 1) (ks + 6) 36 _ _ SHF _
      refine AW.istore_n (dq rfl) (by decide +kernel) ?_
      show AW l (pI pg 139) P (kc + 1) (ks + 6) 37 [(3, .int (aFact.getD (M.1 4 0).toNatClampNeg 0)), (0, .ref 0), (1, .int (x)), (2, .int (y))] [] SHF _
      refine AW.aload_n (dq rfl) rfl rfl ?_
      show AW l (pI pg 139) P (kc + 1) (ks + 6) 38 _ _ SHF _
      refine AW.iload_n (dq rfl) rfl ?_
      show AW l (pI pg 139) P (kc + 1) (ks + 6) 39 _ _ SHF _
      refine fw_callVI (as := [.int (x)]) (dq rfl) (pg_ok.2.2.1 139 _ _ _ _ rfl) rfl (by decide +kernel) rfl rfl (c18 b1 h4 h15) (fun y17 M17 e17 q17 => ?_)
      have hJ17 : ∀ e ∈ RR.2, M17.2.2 e.1 e.2.1 = e.2.2 := fun e he => by rw [e17]; exact hJ e he
      show AW l (pI pg 139) P (kc + 1) (ks + 6) 42 [(3, .int (aFact.getD (M.1 4 0).toNatClampNeg 0)), (0, .ref 0), (1, .int (x)), (2, .int (y))] [.int (y17)] SHF _
      refine AW.istore (dq rfl) (by decide +kernel) ?_
      show AW l (pI pg 139) P (kc + 1) (ks + 6) 44 [(4, .int (y17)), (3, .int (aFact.getD (M.1 4 0).toNatClampNeg 0)), (0, .ref 0), (1, .int (x)), (2, .int (y))] [] SHF _
      refine AW.iload_n (dq rfl) rfl ?_
      show AW l (pI pg 139) P (kc + 1) (ks + 6) 45 _ _ SHF _
      refine AW.iload (dq rfl) rfl ?_
      show AW l (pI pg 139) P (kc + 1) (ks + 6) 47 _ _ SHF _
      refine fw_callSI (as := [.int (aFact.getD (M.1 4 0).toNatClampNeg 0), .int (y17)]) (dq rfl) (pg_ok.2.2.1 139 _ _ _ _ rfl) (by decide +kernel) rfl rfl (c20 b1 h4 h15 y17 M17 e17 q17) (fun y19 M19 e19 q19 => ?_)
      have hJ19 : ∀ e ∈ RR.2, M19.2.2 e.1 e.2.1 = e.2.2 := fun e he => by rw [e19]; exact hJ17 e he
      show AW l (pI pg 139) P (kc + 1) (ks + 6) 50 [(4, .int (y17)), (3, .int (aFact.getD (M.1 4 0).toNatClampNeg 0)), (0, .ref 0), (1, .int (x)), (2, .int (y))] [.int (y19)] SHF _
      refine AW.istore (dq rfl) (by decide +kernel) ?_
      show AW l (pI pg 139) P (kc + 1) (ks + 6) 52 [(5, .int (y19)), (4, .int (y17)), (3, .int (aFact.getD (M.1 4 0).toNatClampNeg 0)), (0, .ref 0), (1, .int (x)), (2, .int (y))] [] SHF _
      refine AW.iload_n (dq rfl) rfl ?_
      show AW l (pI pg 139) P (kc + 1) (ks + 6) 53 _ _ SHF _
      refine AW.if_ne (dq rfl) (tgt := 61) (by decide) (fun h21 => ?_) (fun h21 => ?_)
      · have _ := h21
        refine AW.iload_n (dq rfl) rfl ?_
        show AW l (pI pg 139) P (kc + 1) (ks + 6) 62 _ _ SHF _
        refine AW.iload (dq rfl) rfl ?_
        show AW l (pI pg 139) P (kc + 1) (ks + 6) 64 _ _ SHF _
        refine AW.idiv (dq rfl) (d22 b1 h4 h15 y17 M17 e17 q17 y19 M19 e19 q19 h21) ?_
        show AW l (pI pg 139) P (kc + 1) (ks + 6) 65 _ _ SHF _
        refine AW.iret (dq rfl) rfl ?_
        exact r23 b1 h4 h15 y17 M17 e17 q17 y19 M19 e19 q19 h21
      · have _ := h21
        refine AW.iload (dq rfl) rfl ?_
        show AW l (pI pg 139) P (kc + 1) (ks + 6) 58 _ _ SHF _
        refine AW.goto (dq rfl) (tgt := 62) (by decide) ?_
        refine AW.iload (dq rfl) rfl ?_
        show AW l (pI pg 139) P (kc + 1) (ks + 6) 64 _ _ SHF _
        refine AW.idiv (dq rfl) (d24 b1 h4 h15 y17 M17 e17 q17 y19 M19 e19 q19 h21) ?_
        show AW l (pI pg 139) P (kc + 1) (ks + 6) 65 _ _ SHF _
        refine AW.iret (dq rfl) rfl ?_
        exact r25 b1 h4 h15 y17 M17 e17 q17 y19 M19 e19 q19 h21
    · have _ := h15
      refine pg_ok.2.2.2.2.2.2.2.1 139 _ _ rfl _ _ _ _ _ _ _ ?_
      exact x26 b1 h4 h15

theorem wrtb_0 {l : aL} {P : aP} {kc ks : Nat} {x y : Int32} {M : aM} (hJ : ∀ e ∈ RRS.2, M.2.2 e.1 e.2.1 = e.2.2) (hl0 : l.1.stackTraces = false) (B1 : Prop) (c2 : AC l (pI pg 90) (tcV "java/util/NoSuchElementException" M B1) 1 6 [.ref 0, .int (x)] SHF M) (x3 : B1 → P (.inr "java/util/NoSuchElementException") SHF M) (o5 : ∀ (b1 : ¬ B1), ∀ (h4 : (y : Int32) = 0), vp_in (M.1 17 0) 7) (Q6 : Int32 → aM → Prop) (c7 : ∀ (b1 : ¬ B1), ∀ (h4 : (y : Int32) = 0), AC l (pI pg 140) (fcI M Q6) 0 0 [.ref 0, .int (x)] SHF M) (Q8 : Int32 → aM → Int32 → aM → Prop) (c9 : ∀ (b1 : ¬ B1), ∀ (h4 : (y : Int32) = 0), ∀ (y6 : Int32), ∀ (M6 : aM), ∀ (e6 : M6.2.2 = M.2.2), ∀ (q6 : Q6 y6 M6), AC l (pI pg 141) (fcI M6 (Q8 y6 M6)) 0 0 [.int (aFact.getD (M.1 17 0).toNatClampNeg 0), .int (y6)] SHF M6) (d11 : ∀ (b1 : ¬ B1), ∀ (h4 : (y : Int32) = 0), ∀ (y6 : Int32), ∀ (M6 : aM), ∀ (e6 : M6.2.2 = M.2.2), ∀ (q6 : Q6 y6 M6), ∀ (y8 : Int32), ∀ (M8 : aM), ∀ (e8 : M8.2.2 = M6.2.2), ∀ (q8 : (Q8 y6 M6) y8 M8), ∀ (h10 : ¬ (y : Int32) = 0), ¬ (y8) = (0 : Int32)) (r12 : ∀ (b1 : ¬ B1), ∀ (h4 : (y : Int32) = 0), ∀ (y6 : Int32), ∀ (M6 : aM), ∀ (e6 : M6.2.2 = M.2.2), ∀ (q6 : Q6 y6 M6), ∀ (y8 : Int32), ∀ (M8 : aM), ∀ (e8 : M8.2.2 = M6.2.2), ∀ (q8 : (Q8 y6 M6) y8 M8), ∀ (h10 : ¬ (y : Int32) = 0), P (.inl (some (.int ((aFact.getD (M.1 17 0).toNatClampNeg 0) / (y8))))) SHF M8) (d13 : ∀ (b1 : ¬ B1), ∀ (h4 : (y : Int32) = 0), ∀ (y6 : Int32), ∀ (M6 : aM), ∀ (e6 : M6.2.2 = M.2.2), ∀ (q6 : Q6 y6 M6), ∀ (y8 : Int32), ∀ (M8 : aM), ∀ (e8 : M8.2.2 = M6.2.2), ∀ (q8 : (Q8 y6 M6) y8 M8), ∀ (h10 : (y : Int32) = 0), ¬ (y8) = (0 : Int32)) (r14 : ∀ (b1 : ¬ B1), ∀ (h4 : (y : Int32) = 0), ∀ (y6 : Int32), ∀ (M6 : aM), ∀ (e6 : M6.2.2 = M.2.2), ∀ (q6 : Q6 y6 M6), ∀ (y8 : Int32), ∀ (M8 : aM), ∀ (e8 : M8.2.2 = M6.2.2), ∀ (q8 : (Q8 y6 M6) y8 M8), ∀ (h10 : (y : Int32) = 0), P (.inl (some (.int ((y6) / (y8))))) SHF M8) (o16 : ∀ (b1 : ¬ B1), ∀ (h4 : ¬ ((y : Int32) = 0)), ∀ (h15 : (y : Int32) = (Int32.ofInt 1 : Int32)), vp_in (M.1 17 0) 7) (Q17 : Int32 → aM → Prop) (c18 : ∀ (b1 : ¬ B1), ∀ (h4 : ¬ ((y : Int32) = 0)), ∀ (h15 : (y : Int32) = (Int32.ofInt 1 : Int32)), AC l (pI pg 140) (fcI M Q17) 0 0 [.ref 0, .int (x)] SHF M) (Q19 : Int32 → aM → Int32 → aM → Prop) (c20 : ∀ (b1 : ¬ B1), ∀ (h4 : ¬ ((y : Int32) = 0)), ∀ (h15 : (y : Int32) = (Int32.ofInt 1 : Int32)), ∀ (y17 : Int32), ∀ (M17 : aM), ∀ (e17 : M17.2.2 = M.2.2), ∀ (q17 : Q17 y17 M17), AC l (pI pg 141) (fcI M17 (Q19 y17 M17)) 0 0 [.int (aFact.getD (M.1 17 0).toNatClampNeg 0), .int (y17)] SHF M17) (d22 : ∀ (b1 : ¬ B1), ∀ (h4 : ¬ ((y : Int32) = 0)), ∀ (h15 : (y : Int32) = (Int32.ofInt 1 : Int32)), ∀ (y17 : Int32), ∀ (M17 : aM), ∀ (e17 : M17.2.2 = M.2.2), ∀ (q17 : Q17 y17 M17), ∀ (y19 : Int32), ∀ (M19 : aM), ∀ (e19 : M19.2.2 = M17.2.2), ∀ (q19 : (Q19 y17 M17) y19 M19), ∀ (h21 : ¬ (y : Int32) = 0), ¬ (y19) = (0 : Int32)) (r23 : ∀ (b1 : ¬ B1), ∀ (h4 : ¬ ((y : Int32) = 0)), ∀ (h15 : (y : Int32) = (Int32.ofInt 1 : Int32)), ∀ (y17 : Int32), ∀ (M17 : aM), ∀ (e17 : M17.2.2 = M.2.2), ∀ (q17 : Q17 y17 M17), ∀ (y19 : Int32), ∀ (M19 : aM), ∀ (e19 : M19.2.2 = M17.2.2), ∀ (q19 : (Q19 y17 M17) y19 M19), ∀ (h21 : ¬ (y : Int32) = 0), P (.inl (some (.int ((aFact.getD (M.1 17 0).toNatClampNeg 0) / (y19))))) SHF M19) (d24 : ∀ (b1 : ¬ B1), ∀ (h4 : ¬ ((y : Int32) = 0)), ∀ (h15 : (y : Int32) = (Int32.ofInt 1 : Int32)), ∀ (y17 : Int32), ∀ (M17 : aM), ∀ (e17 : M17.2.2 = M.2.2), ∀ (q17 : Q17 y17 M17), ∀ (y19 : Int32), ∀ (M19 : aM), ∀ (e19 : M19.2.2 = M17.2.2), ∀ (q19 : (Q19 y17 M17) y19 M19), ∀ (h21 : (y : Int32) = 0), ¬ (y19) = (0 : Int32)) (r25 : ∀ (b1 : ¬ B1), ∀ (h4 : ¬ ((y : Int32) = 0)), ∀ (h15 : (y : Int32) = (Int32.ofInt 1 : Int32)), ∀ (y17 : Int32), ∀ (M17 : aM), ∀ (e17 : M17.2.2 = M.2.2), ∀ (q17 : Q17 y17 M17), ∀ (y19 : Int32), ∀ (M19 : aM), ∀ (e19 : M19.2.2 = M17.2.2), ∀ (q19 : (Q19 y17 M17) y19 M19), ∀ (h21 : (y : Int32) = 0), P (.inl (some (.int ((y17) / (y19))))) SHF M19) (x26 : ∀ (b1 : ¬ B1), ∀ (h4 : ¬ ((y : Int32) = 0)), ∀ (h15 : ¬ ((y : Int32) = (Int32.ofInt 1 : Int32))), P (.inr "java/util/NoSuchElementException") SHF M) : AW l (pI pg 139) P (kc + 1 + 1) (ks + 6 + 6) 0 [(0, .ref 0), (1, .int (x)), (2, .int (y))] [] SHF M := by
  refine AW.aload_n (dq rfl) rfl rfl ?_
  show AW l (pI pg 139) P (kc + 1 + 1) (ks + 6 + 6) 1 _ _ SHF _
  refine AW.iload_n (dq rfl) rfl ?_
  show AW l (pI pg 139) P (kc + 1 + 1) (ks + 6 + 6) 2 _ _ SHF _
  refine fw_tcV (as := [.int (x)]) (dq rfl) (pg_ok.2.2.1 139 _ _ _ _ rfl) rfl (by decide +kernel) rfl rfl (c2) (by decide +kernel) (x3) (fun b1 => ?_)
  show AW l (pI pg 139) P (kc + 1) (ks + 6) 5 [(0, .ref 0), (1, .int (x)), (2, .int (y))] [] SHF _
  refine AW.iload_n (dq rfl) rfl ?_
  show AW l (pI pg 139) P (kc + 1) (ks + 6) 6 _ _ SHF _
  refine AW.if_eq (dq rfl) (tgt := 25) (by decide) (fun h4 => ?_) (fun h4 => ?_)
  · have _ := h4
    refine AW.getsF (dq rfl) gw_946 ?_
    show AW l (pI pg 139) P (kc + 1) (ks + 6) 28 _ _ SHF _
    refine AW.aload_n (dq rfl) rfl rfl ?_
    show AW l (pI pg 139) P (kc + 1) (ks + 6) 29 _ _ SHF _
    refine fw_get (dq rfl) (pg_ok.2.1 139 _ _ _ _ rfl) rfl (v := .ref 17) (isTA_ok rfl (rgR_ok hJ rfl)) ?_
    show AW l (pI pg 139) P (kc + 1) (ks + 6) 32 _ _ SHF _
    refine fw_get (dq rfl) (pg_ok.2.1 139 _ _ _ _ rfl) rfl (v := .int (M.1 17 0)) rfl ?_
    show AW l (pI pg 139) P (kc + 1) (ks + 6) 35 _ _ SHF _
    refine AW.ialdF (dq rfl) (o5 b1 h4) ?_
    show AW l (pI pg 139) P (kc + 1) (ks + 6) 36 _ _ SHF _
    refine AW.istore_n (dq rfl) (by decide +kernel) ?_
    show AW l (pI pg 139) P (kc + 1) (ks + 6) 37 [(3, .int (aFact.getD (M.1 17 0).toNatClampNeg 0)), (0, .ref 0), (1, .int (x)), (2, .int (y))] [] SHF _
    refine AW.aload_n (dq rfl) rfl rfl ?_
    show AW l (pI pg 139) P (kc + 1) (ks + 6) 38 _ _ SHF _
    refine AW.iload_n (dq rfl) rfl ?_
    show AW l (pI pg 139) P (kc + 1) (ks + 6) 39 _ _ SHF _
    refine fw_callVI (as := [.int (x)]) (dq rfl) (pg_ok.2.2.1 139 _ _ _ _ rfl) rfl (by decide +kernel) rfl rfl (c7 b1 h4) (fun y6 M6 e6 q6 => ?_)
    have hJ6 : ∀ e ∈ RRS.2, M6.2.2 e.1 e.2.1 = e.2.2 := fun e he => by rw [e6]; exact hJ e he
    show AW l (pI pg 139) P (kc + 1) (ks + 6) 42 [(3, .int (aFact.getD (M.1 17 0).toNatClampNeg 0)), (0, .ref 0), (1, .int (x)), (2, .int (y))] [.int (y6)] SHF _
    refine AW.istore (dq rfl) (by decide +kernel) ?_
    show AW l (pI pg 139) P (kc + 1) (ks + 6) 44 [(4, .int (y6)), (3, .int (aFact.getD (M.1 17 0).toNatClampNeg 0)), (0, .ref 0), (1, .int (x)), (2, .int (y))] [] SHF _
    refine AW.iload_n (dq rfl) rfl ?_
    show AW l (pI pg 139) P (kc + 1) (ks + 6) 45 _ _ SHF _
    refine AW.iload (dq rfl) rfl ?_
    show AW l (pI pg 139) P (kc + 1) (ks + 6) 47 _ _ SHF _
    refine fw_callSI (as := [.int (aFact.getD (M.1 17 0).toNatClampNeg 0), .int (y6)]) (dq rfl) (pg_ok.2.2.1 139 _ _ _ _ rfl) (by decide +kernel) rfl rfl (c9 b1 h4 y6 M6 e6 q6) (fun y8 M8 e8 q8 => ?_)
    have hJ8 : ∀ e ∈ RRS.2, M8.2.2 e.1 e.2.1 = e.2.2 := fun e he => by rw [e8]; exact hJ6 e he
    show AW l (pI pg 139) P (kc + 1) (ks + 6) 50 [(4, .int (y6)), (3, .int (aFact.getD (M.1 17 0).toNatClampNeg 0)), (0, .ref 0), (1, .int (x)), (2, .int (y))] [.int (y8)] SHF _
    refine AW.istore (dq rfl) (by decide +kernel) ?_
    show AW l (pI pg 139) P (kc + 1) (ks + 6) 52 [(5, .int (y8)), (4, .int (y6)), (3, .int (aFact.getD (M.1 17 0).toNatClampNeg 0)), (0, .ref 0), (1, .int (x)), (2, .int (y))] [] SHF _
    refine AW.iload_n (dq rfl) rfl ?_
    show AW l (pI pg 139) P (kc + 1) (ks + 6) 53 _ _ SHF _
    refine AW.if_ne (dq rfl) (tgt := 61) (by decide) (fun h10 => ?_) (fun h10 => ?_)
    · have _ := h10
      refine AW.iload_n (dq rfl) rfl ?_
      show AW l (pI pg 139) P (kc + 1) (ks + 6) 62 _ _ SHF _
      refine AW.iload (dq rfl) rfl ?_
      show AW l (pI pg 139) P (kc + 1) (ks + 6) 64 _ _ SHF _
      refine AW.idiv (dq rfl) (d11 b1 h4 y6 M6 e6 q6 y8 M8 e8 q8 h10) ?_
      show AW l (pI pg 139) P (kc + 1) (ks + 6) 65 _ _ SHF _
      refine AW.iret (dq rfl) rfl ?_
      exact r12 b1 h4 y6 M6 e6 q6 y8 M8 e8 q8 h10
    · have _ := h10
      refine AW.iload (dq rfl) rfl ?_
      show AW l (pI pg 139) P (kc + 1) (ks + 6) 58 _ _ SHF _
      refine AW.goto (dq rfl) (tgt := 62) (by decide) ?_
      refine AW.iload (dq rfl) rfl ?_
      show AW l (pI pg 139) P (kc + 1) (ks + 6) 64 _ _ SHF _
      refine AW.idiv (dq rfl) (d13 b1 h4 y6 M6 e6 q6 y8 M8 e8 q8 h10) ?_
      show AW l (pI pg 139) P (kc + 1) (ks + 6) 65 _ _ SHF _
      refine AW.iret (dq rfl) rfl ?_
      exact r14 b1 h4 y6 M6 e6 q6 y8 M8 e8 q8 h10
  · have _ := h4
    refine AW.iload_n (dq rfl) rfl ?_
    show AW l (pI pg 139) P (kc + 1) (ks + 6) 10 _ _ SHF _
    refine AW.iconst (dq rfl) ?_
    show AW l (pI pg 139) P (kc + 1) (ks + 6) 11 _ _ SHF _
    refine AW.icmp_eq (dq rfl) (tgt := 25) (by decide) (fun h15 => ?_) (fun h15 => ?_)
    · have _ := h15
      refine AW.getsF (dq rfl) gw_946 ?_
      show AW l (pI pg 139) P (kc + 1) (ks + 6) 28 _ _ SHF _
      refine AW.aload_n (dq rfl) rfl rfl ?_
      show AW l (pI pg 139) P (kc + 1) (ks + 6) 29 _ _ SHF _
      refine fw_get (dq rfl) (pg_ok.2.1 139 _ _ _ _ rfl) rfl (v := .ref 17) (isTA_ok rfl (rgR_ok hJ rfl)) ?_
      show AW l (pI pg 139) P (kc + 1) (ks + 6) 32 _ _ SHF _
      refine fw_get (dq rfl) (pg_ok.2.1 139 _ _ _ _ rfl) rfl (v := .int (M.1 17 0)) rfl ?_
      show AW l (pI pg 139) P (kc + 1) (ks + 6) 35 _ _ SHF _
      refine AW.ialdF (dq rfl) (o16 b1 h4 h15) ?_
      show AW l (pI pg 139) P (kc + 1) (ks + 6) 36 _ _ SHF _
      refine AW.istore_n (dq rfl) (by decide +kernel) ?_
      show AW l (pI pg 139) P (kc + 1) (ks + 6) 37 [(3, .int (aFact.getD (M.1 17 0).toNatClampNeg 0)), (0, .ref 0), (1, .int (x)), (2, .int (y))] [] SHF _
      refine AW.aload_n (dq rfl) rfl rfl ?_
      show AW l (pI pg 139) P (kc + 1) (ks + 6) 38 _ _ SHF _
      refine AW.iload_n (dq rfl) rfl ?_
      show AW l (pI pg 139) P (kc + 1) (ks + 6) 39 _ _ SHF _
      refine fw_callVI (as := [.int (x)]) (dq rfl) (pg_ok.2.2.1 139 _ _ _ _ rfl) rfl (by decide +kernel) rfl rfl (c18 b1 h4 h15) (fun y17 M17 e17 q17 => ?_)
      have hJ17 : ∀ e ∈ RRS.2, M17.2.2 e.1 e.2.1 = e.2.2 := fun e he => by rw [e17]; exact hJ e he
      show AW l (pI pg 139) P (kc + 1) (ks + 6) 42 [(3, .int (aFact.getD (M.1 17 0).toNatClampNeg 0)), (0, .ref 0), (1, .int (x)), (2, .int (y))] [.int (y17)] SHF _
      refine AW.istore (dq rfl) (by decide +kernel) ?_
      show AW l (pI pg 139) P (kc + 1) (ks + 6) 44 [(4, .int (y17)), (3, .int (aFact.getD (M.1 17 0).toNatClampNeg 0)), (0, .ref 0), (1, .int (x)), (2, .int (y))] [] SHF _
      refine AW.iload_n (dq rfl) rfl ?_
      show AW l (pI pg 139) P (kc + 1) (ks + 6) 45 _ _ SHF _
      refine AW.iload (dq rfl) rfl ?_
      show AW l (pI pg 139) P (kc + 1) (ks + 6) 47 _ _ SHF _
      refine fw_callSI (as := [.int (aFact.getD (M.1 17 0).toNatClampNeg 0), .int (y17)]) (dq rfl) (pg_ok.2.2.1 139 _ _ _ _ rfl) (by decide +kernel) rfl rfl (c20 b1 h4 h15 y17 M17 e17 q17) (fun y19 M19 e19 q19 => ?_)
      have hJ19 : ∀ e ∈ RRS.2, M19.2.2 e.1 e.2.1 = e.2.2 := fun e he => by rw [e19]; exact hJ17 e he
      show AW l (pI pg 139) P (kc + 1) (ks + 6) 50 [(4, .int (y17)), (3, .int (aFact.getD (M.1 17 0).toNatClampNeg 0)), (0, .ref 0), (1, .int (x)), (2, .int (y))] [.int (y19)] SHF _
      refine AW.istore (dq rfl) (by decide +kernel) ?_
      show AW l (pI pg 139) P (kc + 1) (ks + 6) 52 [(5, .int (y19)), (4, .int (y17)), (3, .int (aFact.getD (M.1 17 0).toNatClampNeg 0)), (0, .ref 0), (1, .int (x)), (2, .int (y))] [] SHF _
      refine AW.iload_n (dq rfl) rfl ?_
      show AW l (pI pg 139) P (kc + 1) (ks + 6) 53 _ _ SHF _
      refine AW.if_ne (dq rfl) (tgt := 61) (by decide) (fun h21 => ?_) (fun h21 => ?_)
      · have _ := h21
        refine AW.iload_n (dq rfl) rfl ?_
        show AW l (pI pg 139) P (kc + 1) (ks + 6) 62 _ _ SHF _
        refine AW.iload (dq rfl) rfl ?_
        show AW l (pI pg 139) P (kc + 1) (ks + 6) 64 _ _ SHF _
        refine AW.idiv (dq rfl) (d22 b1 h4 h15 y17 M17 e17 q17 y19 M19 e19 q19 h21) ?_
        show AW l (pI pg 139) P (kc + 1) (ks + 6) 65 _ _ SHF _
        refine AW.iret (dq rfl) rfl ?_
        exact r23 b1 h4 h15 y17 M17 e17 q17 y19 M19 e19 q19 h21
      · have _ := h21
        refine AW.iload (dq rfl) rfl ?_
        show AW l (pI pg 139) P (kc + 1) (ks + 6) 58 _ _ SHF _
        refine AW.goto (dq rfl) (tgt := 62) (by decide) ?_
        refine AW.iload (dq rfl) rfl ?_
        show AW l (pI pg 139) P (kc + 1) (ks + 6) 64 _ _ SHF _
        refine AW.idiv (dq rfl) (d24 b1 h4 h15 y17 M17 e17 q17 y19 M19 e19 q19 h21) ?_
        show AW l (pI pg 139) P (kc + 1) (ks + 6) 65 _ _ SHF _
        refine AW.iret (dq rfl) rfl ?_
        exact r25 b1 h4 h15 y17 M17 e17 q17 y19 M19 e19 q19 h21
    · have _ := h15
      refine pg_ok.2.2.2.2.2.2.2.1 139 _ _ rfl _ _ _ _ _ _ _ ?_
      exact x26 b1 h4 h15

theorem mwr_0 {l : aL} {P : aP} {kc ks : Nat} {x y : Int32} {M : aM} (hJ : ∀ e ∈ RM, M.2.2 e.1 e.2.1 = e.2.2) (hl0 : l.1.stackTraces = false) (Q1 : Int32 → aM → Prop) (c2 : AC l (pI pg 197) (fcI (aset M 58 0 (.int (Int32.ofInt 0))) Q1) 0 0 [.ref 58, .int (x)] SHF (aset M 58 0 (.int (Int32.ofInt 0)))) (r4 : ∀ (y1 : Int32), ∀ (M1 : aM), ∀ (e1 : M1.2.2 = (aset M 58 0 (.int (Int32.ofInt 0))).2.2), ∀ (q1 : Q1 y1 M1), ∀ (h3 : (y1 : Int32) = 0), P (.inl (some (.int (Int32.ofInt 0)))) SHF M1) (Q6 : Int32 → aM → Int32 → aM → Prop) (c7 : ∀ (y1 : Int32), ∀ (M1 : aM), ∀ (e1 : M1.2.2 = (aset M 58 0 (.int (Int32.ofInt 0))).2.2), ∀ (q1 : Q1 y1 M1), ∀ (h3 : ¬ ((y1 : Int32) = 0)), ∀ (h5 : (y : Int32) = 0), AC l (pI pg 175) (fcI M1 (Q6 y1 M1)) 0 0 [.ref 58, .int (Int32.ofInt 1), .int (Int32.ofInt 1)] SHF M1) (Q9 : Int32 → aM → Int32 → aM → aM → Prop) (c10 : ∀ (y1 : Int32), ∀ (M1 : aM), ∀ (e1 : M1.2.2 = (aset M 58 0 (.int (Int32.ofInt 0))).2.2), ∀ (q1 : Q1 y1 M1), ∀ (h3 : ¬ ((y1 : Int32) = 0)), ∀ (h5 : (y : Int32) = 0), ∀ (y6 : Int32), ∀ (M6 : aM), ∀ (e6 : M6.2.2 = M1.2.2), ∀ (q6 : (Q6 y1 M1) y6 M6), ∀ (h8 : ¬ (y6 : Int32) = 0), AC l (pI pg 204) (fcV M6 (Q9 y1 M1 y6 M6)) 0 0 [.ref 58, .int (Int32.ofInt 0)] SHF M6) (k11 : ∀ (y1 : Int32), ∀ (M1 : aM), ∀ (e1 : M1.2.2 = (aset M 58 0 (.int (Int32.ofInt 0))).2.2), ∀ (q1 : Q1 y1 M1), ∀ (h3 : ¬ ((y1 : Int32) = 0)), ∀ (h5 : (y : Int32) = 0), ∀ (y6 : Int32), ∀ (M6 : aM), ∀ (e6 : M6.2.2 = M1.2.2), ∀ (q6 : (Q6 y1 M1) y6 M6), ∀ (h8 : ¬ (y6 : Int32) = 0), ∀ (M9 : aM), ∀ (e9 : M9.2.2 = M6.2.2), ∀ (q9 : (Q9 y1 M1 y6 M6) M9), AW l (pI pg 228) P kc ks 44 [(3, .int (Int32.ofInt 0)), (2, .int (y)), (1, .int (x)), (0, .ref 58)] [] SHF M9) (r12 : ∀ (y1 : Int32), ∀ (M1 : aM), ∀ (e1 : M1.2.2 = (aset M 58 0 (.int (Int32.ofInt 0))).2.2), ∀ (q1 : Q1 y1 M1), ∀ (h3 : ¬ ((y1 : Int32) = 0)), ∀ (h5 : (y : Int32) = 0), ∀ (y6 : Int32), ∀ (M6 : aM), ∀ (e6 : M6.2.2 = M1.2.2), ∀ (q6 : (Q6 y1 M1) y6 M6), ∀ (h8 : (y6 : Int32) = 0), P (.inl (some (.int (Int32.ofInt 0)))) SHF M6) (Q14 : Int32 → aM → Int32 → aM → Prop) (c15 : ∀ (y1 : Int32), ∀ (M1 : aM), ∀ (e1 : M1.2.2 = (aset M 58 0 (.int (Int32.ofInt 0))).2.2), ∀ (q1 : Q1 y1 M1), ∀ (h3 : ¬ ((y1 : Int32) = 0)), ∀ (h5 : ¬ ((y : Int32) = 0)), ∀ (h13 : ¬ (y : Int32) = (Int32.ofInt 1 : Int32)), AC l (pI pg 175) (fcI M1 (Q14 y1 M1)) 0 0 [.ref 58, .int (Int32.ofInt 0), .int (Int32.ofInt 1)] SHF M1) (Q17 : Int32 → aM → Int32 → aM → aM → Prop) (c18 : ∀ (y1 : Int32), ∀ (M1 : aM), ∀ (e1 : M1.2.2 = (aset M 58 0 (.int (Int32.ofInt 0))).2.2), ∀ (q1 : Q1 y1 M1), ∀ (h3 : ¬ ((y1 : Int32) = 0)), ∀ (h5 : ¬ ((y : Int32) = 0)), ∀ (h13 : ¬ (y : Int32) = (Int32.ofInt 1 : Int32)), ∀ (y14 : Int32), ∀ (M14 : aM), ∀ (e14 : M14.2.2 = M1.2.2), ∀ (q14 : (Q14 y1 M1) y14 M14), ∀ (h16 : ¬ (y14 : Int32) = 0), AC l (pI pg 204) (fcV M14 (Q17 y1 M1 y14 M14)) 0 0 [.ref 58, .int (Int32.ofInt 0)] SHF M14) (k19 : ∀ (y1 : Int32), ∀ (M1 : aM), ∀ (e1 : M1.2.2 = (aset M 58 0 (.int (Int32.ofInt 0))).2.2), ∀ (q1 : Q1 y1 M1), ∀ (h3 : ¬ ((y1 : Int32) = 0)), ∀ (h5 : ¬ ((y : Int32) = 0)), ∀ (h13 : ¬ (y : Int32) = (Int32.ofInt 1 : Int32)), ∀ (y14 : Int32), ∀ (M14 : aM), ∀ (e14 : M14.2.2 = M1.2.2), ∀ (q14 : (Q14 y1 M1) y14 M14), ∀ (h16 : ¬ (y14 : Int32) = 0), ∀ (M17 : aM), ∀ (e17 : M17.2.2 = M14.2.2), ∀ (q17 : (Q17 y1 M1 y14 M14) M17), AW l (pI pg 228) P kc ks 44 [(3, .int (Int32.ofInt 0)), (2, .int (y)), (1, .int (x)), (0, .ref 58)] [] SHF M17) (r20 : ∀ (y1 : Int32), ∀ (M1 : aM), ∀ (e1 : M1.2.2 = (aset M 58 0 (.int (Int32.ofInt 0))).2.2), ∀ (q1 : Q1 y1 M1), ∀ (h3 : ¬ ((y1 : Int32) = 0)), ∀ (h5 : ¬ ((y : Int32) = 0)), ∀ (h13 : ¬ (y : Int32) = (Int32.ofInt 1 : Int32)), ∀ (y14 : Int32), ∀ (M14 : aM), ∀ (e14 : M14.2.2 = M1.2.2), ∀ (q14 : (Q14 y1 M1) y14 M14), ∀ (h16 : (y14 : Int32) = 0), P (.inl (some (.int (Int32.ofInt 0)))) SHF M14) (Q21 : Int32 → aM → Int32 → aM → Prop) (c22 : ∀ (y1 : Int32), ∀ (M1 : aM), ∀ (e1 : M1.2.2 = (aset M 58 0 (.int (Int32.ofInt 0))).2.2), ∀ (q1 : Q1 y1 M1), ∀ (h3 : ¬ ((y1 : Int32) = 0)), ∀ (h5 : ¬ ((y : Int32) = 0)), ∀ (h13 : (y : Int32) = (Int32.ofInt 1 : Int32)), AC l (pI pg 175) (fcI M1 (Q21 y1 M1)) 0 0 [.ref 58, .int (Int32.ofInt 1), .int (Int32.ofInt 1)] SHF M1) (Q24 : Int32 → aM → Int32 → aM → aM → Prop) (c25 : ∀ (y1 : Int32), ∀ (M1 : aM), ∀ (e1 : M1.2.2 = (aset M 58 0 (.int (Int32.ofInt 0))).2.2), ∀ (q1 : Q1 y1 M1), ∀ (h3 : ¬ ((y1 : Int32) = 0)), ∀ (h5 : ¬ ((y : Int32) = 0)), ∀ (h13 : (y : Int32) = (Int32.ofInt 1 : Int32)), ∀ (y21 : Int32), ∀ (M21 : aM), ∀ (e21 : M21.2.2 = M1.2.2), ∀ (q21 : (Q21 y1 M1) y21 M21), ∀ (h23 : ¬ (y21 : Int32) = 0), AC l (pI pg 204) (fcV M21 (Q24 y1 M1 y21 M21)) 0 0 [.ref 58, .int (Int32.ofInt 0)] SHF M21) (k26 : ∀ (y1 : Int32), ∀ (M1 : aM), ∀ (e1 : M1.2.2 = (aset M 58 0 (.int (Int32.ofInt 0))).2.2), ∀ (q1 : Q1 y1 M1), ∀ (h3 : ¬ ((y1 : Int32) = 0)), ∀ (h5 : ¬ ((y : Int32) = 0)), ∀ (h13 : (y : Int32) = (Int32.ofInt 1 : Int32)), ∀ (y21 : Int32), ∀ (M21 : aM), ∀ (e21 : M21.2.2 = M1.2.2), ∀ (q21 : (Q21 y1 M1) y21 M21), ∀ (h23 : ¬ (y21 : Int32) = 0), ∀ (M24 : aM), ∀ (e24 : M24.2.2 = M21.2.2), ∀ (q24 : (Q24 y1 M1 y21 M21) M24), AW l (pI pg 228) P kc ks 44 [(3, .int (Int32.ofInt 0)), (2, .int (y)), (1, .int (x)), (0, .ref 58)] [] SHF M24) (r27 : ∀ (y1 : Int32), ∀ (M1 : aM), ∀ (e1 : M1.2.2 = (aset M 58 0 (.int (Int32.ofInt 0))).2.2), ∀ (q1 : Q1 y1 M1), ∀ (h3 : ¬ ((y1 : Int32) = 0)), ∀ (h5 : ¬ ((y : Int32) = 0)), ∀ (h13 : (y : Int32) = (Int32.ofInt 1 : Int32)), ∀ (y21 : Int32), ∀ (M21 : aM), ∀ (e21 : M21.2.2 = M1.2.2), ∀ (q21 : (Q21 y1 M1) y21 M21), ∀ (h23 : (y21 : Int32) = 0), P (.inl (some (.int (Int32.ofInt 0)))) SHF M21) : AW l (pI pg 228) P kc ks 0 [(0, .ref 58), (1, .int (x)), (2, .int (y))] [] SHF M := by
  refine AW.aload_n (dq rfl) rfl rfl ?_
  show AW l (pI pg 228) P kc ks 1 _ _ SHF _
  refine AW.iconst (dq rfl) ?_
  show AW l (pI pg 228) P kc ks 2 _ _ SHF _
  refine fw_putI (dq rfl) (pg_ok.2.1 228 _ _ _ _ rfl) rfl rfl rfl ?_
  show AW l (pI pg 228) P kc ks 5 _ _ SHF _
  refine AW.aload_n (dq rfl) rfl rfl ?_
  show AW l (pI pg 228) P kc ks 6 _ _ SHF _
  refine AW.iload_n (dq rfl) rfl ?_
  show AW l (pI pg 228) P kc ks 7 _ _ SHF _
  refine fw_callVI (as := [.int (x)]) (dq rfl) (pg_ok.2.2.1 228 _ _ _ _ rfl) rfl (by decide +kernel) rfl rfl (c2) (fun y1 M1 e1 q1 => ?_)
  have hJ1 : ∀ e ∈ RM, M1.2.2 e.1 e.2.1 = e.2.2 := fun e he => by rw [e1]; exact hJ e he
  show AW l (pI pg 228) P kc ks 10 [(0, .ref 58), (1, .int (x)), (2, .int (y))] [.int (y1)] SHF _
  refine AW.if_eq (dq rfl) (tgt := 35) (by decide) (fun h3 => ?_) (fun h3 => ?_)
  · have _ := h3
    refine AW.iconst (dq rfl) ?_
    show AW l (pI pg 228) P kc ks 36 _ _ SHF _
    refine AW.iret (dq rfl) rfl ?_
    exact r4 y1 M1 e1 q1 h3
  · have _ := h3
    refine AW.aload_n (dq rfl) rfl rfl ?_
    show AW l (pI pg 228) P kc ks 14 _ _ SHF _
    refine AW.iload_n (dq rfl) rfl ?_
    show AW l (pI pg 228) P kc ks 15 _ _ SHF _
    refine AW.if_eq (dq rfl) (tgt := 23) (by decide) (fun h5 => ?_) (fun h5 => ?_)
    · have _ := h5
      refine AW.iconst (dq rfl) ?_
      show AW l (pI pg 228) P kc ks 24 _ _ SHF _
      refine AW.goto (dq rfl) (tgt := 28) (by decide) ?_
      refine AW.iconst (dq rfl) ?_
      show AW l (pI pg 228) P kc ks 29 _ _ SHF _
      refine fw_callVI (as := [.int (Int32.ofInt 1), .int (Int32.ofInt 1)]) (dq rfl) (pg_ok.2.2.1 228 _ _ _ _ rfl) rfl (by decide +kernel) rfl rfl (c7 y1 M1 e1 q1 h3 h5) (fun y6 M6 e6 q6 => ?_)
      have hJ6 : ∀ e ∈ RM, M6.2.2 e.1 e.2.1 = e.2.2 := fun e he => by rw [e6]; exact hJ1 e he
      show AW l (pI pg 228) P kc ks 32 [(0, .ref 58), (1, .int (x)), (2, .int (y))] [.int (y6)] SHF _
      refine AW.if_ne (dq rfl) (tgt := 37) (by decide) (fun h8 => ?_) (fun h8 => ?_)
      · have _ := h8
        refine AW.aload_n (dq rfl) rfl rfl ?_
        show AW l (pI pg 228) P kc ks 38 _ _ SHF _
        refine AW.iconst (dq rfl) ?_
        show AW l (pI pg 228) P kc ks 39 _ _ SHF _
        refine fw_callVV (as := [.int (Int32.ofInt 0)]) (dq rfl) (pg_ok.2.2.1 228 _ _ _ _ rfl) rfl (by decide +kernel) rfl rfl (c10 y1 M1 e1 q1 h3 h5 y6 M6 e6 q6 h8) (fun M9 e9 q9 => ?_)
        have hJ9 : ∀ e ∈ RM, M9.2.2 e.1 e.2.1 = e.2.2 := fun e he => by rw [e9]; exact hJ6 e he
        show AW l (pI pg 228) P kc ks 42 [(0, .ref 58), (1, .int (x)), (2, .int (y))] [] SHF _
        refine AW.iconst (dq rfl) ?_
        show AW l (pI pg 228) P kc ks 43 _ _ SHF _
        refine AW.istore_n (dq rfl) (by decide +kernel) ?_
        show AW l (pI pg 228) P kc ks 44 [(3, .int (Int32.ofInt 0)), (0, .ref 58), (1, .int (x)), (2, .int (y))] [] SHF _
        refine AW.drop (lv' := [(3, .int (Int32.ofInt 0)), (2, .int (y)), (1, .int (x)), (0, .ref 58)]) (List.forall_mem_cons.mpr ⟨List.mem_of_getElem? (i := 0) rfl, List.forall_mem_cons.mpr ⟨List.mem_of_getElem? (i := 3) rfl, List.forall_mem_cons.mpr ⟨List.mem_of_getElem? (i := 2) rfl, List.forall_mem_cons.mpr ⟨List.mem_of_getElem? (i := 1) rfl, fun _ h => absurd h List.not_mem_nil⟩⟩⟩⟩) ?_
        exact k11 y1 M1 e1 q1 h3 h5 y6 M6 e6 q6 h8 M9 e9 q9
      · have _ := h8
        refine AW.iconst (dq rfl) ?_
        show AW l (pI pg 228) P kc ks 36 _ _ SHF _
        refine AW.iret (dq rfl) rfl ?_
        exact r12 y1 M1 e1 q1 h3 h5 y6 M6 e6 q6 h8
    · have _ := h5
      refine AW.iload_n (dq rfl) rfl ?_
      show AW l (pI pg 228) P kc ks 19 _ _ SHF _
      refine AW.iconst (dq rfl) ?_
      show AW l (pI pg 228) P kc ks 20 _ _ SHF _
      refine AW.icmp_ne (dq rfl) (tgt := 27) (by decide) (fun h13 => ?_) (fun h13 => ?_)
      · have _ := h13
        refine AW.iconst (dq rfl) ?_
        show AW l (pI pg 228) P kc ks 28 _ _ SHF _
        refine AW.iconst (dq rfl) ?_
        show AW l (pI pg 228) P kc ks 29 _ _ SHF _
        refine fw_callVI (as := [.int (Int32.ofInt 0), .int (Int32.ofInt 1)]) (dq rfl) (pg_ok.2.2.1 228 _ _ _ _ rfl) rfl (by decide +kernel) rfl rfl (c15 y1 M1 e1 q1 h3 h5 h13) (fun y14 M14 e14 q14 => ?_)
        have hJ14 : ∀ e ∈ RM, M14.2.2 e.1 e.2.1 = e.2.2 := fun e he => by rw [e14]; exact hJ1 e he
        show AW l (pI pg 228) P kc ks 32 [(0, .ref 58), (1, .int (x)), (2, .int (y))] [.int (y14)] SHF _
        refine AW.if_ne (dq rfl) (tgt := 37) (by decide) (fun h16 => ?_) (fun h16 => ?_)
        · have _ := h16
          refine AW.aload_n (dq rfl) rfl rfl ?_
          show AW l (pI pg 228) P kc ks 38 _ _ SHF _
          refine AW.iconst (dq rfl) ?_
          show AW l (pI pg 228) P kc ks 39 _ _ SHF _
          refine fw_callVV (as := [.int (Int32.ofInt 0)]) (dq rfl) (pg_ok.2.2.1 228 _ _ _ _ rfl) rfl (by decide +kernel) rfl rfl (c18 y1 M1 e1 q1 h3 h5 h13 y14 M14 e14 q14 h16) (fun M17 e17 q17 => ?_)
          have hJ17 : ∀ e ∈ RM, M17.2.2 e.1 e.2.1 = e.2.2 := fun e he => by rw [e17]; exact hJ14 e he
          show AW l (pI pg 228) P kc ks 42 [(0, .ref 58), (1, .int (x)), (2, .int (y))] [] SHF _
          refine AW.iconst (dq rfl) ?_
          show AW l (pI pg 228) P kc ks 43 _ _ SHF _
          refine AW.istore_n (dq rfl) (by decide +kernel) ?_
          show AW l (pI pg 228) P kc ks 44 [(3, .int (Int32.ofInt 0)), (0, .ref 58), (1, .int (x)), (2, .int (y))] [] SHF _
          refine AW.drop (lv' := [(3, .int (Int32.ofInt 0)), (2, .int (y)), (1, .int (x)), (0, .ref 58)]) (List.forall_mem_cons.mpr ⟨List.mem_of_getElem? (i := 0) rfl, List.forall_mem_cons.mpr ⟨List.mem_of_getElem? (i := 3) rfl, List.forall_mem_cons.mpr ⟨List.mem_of_getElem? (i := 2) rfl, List.forall_mem_cons.mpr ⟨List.mem_of_getElem? (i := 1) rfl, fun _ h => absurd h List.not_mem_nil⟩⟩⟩⟩) ?_
          exact k19 y1 M1 e1 q1 h3 h5 h13 y14 M14 e14 q14 h16 M17 e17 q17
        · have _ := h16
          refine AW.iconst (dq rfl) ?_
          show AW l (pI pg 228) P kc ks 36 _ _ SHF _
          refine AW.iret (dq rfl) rfl ?_
          exact r20 y1 M1 e1 q1 h3 h5 h13 y14 M14 e14 q14 h16
      · have _ := h13
        refine AW.iconst (dq rfl) ?_
        show AW l (pI pg 228) P kc ks 24 _ _ SHF _
        refine AW.goto (dq rfl) (tgt := 28) (by decide) ?_
        refine AW.iconst (dq rfl) ?_
        show AW l (pI pg 228) P kc ks 29 _ _ SHF _
        refine fw_callVI (as := [.int (Int32.ofInt 1), .int (Int32.ofInt 1)]) (dq rfl) (pg_ok.2.2.1 228 _ _ _ _ rfl) rfl (by decide +kernel) rfl rfl (c22 y1 M1 e1 q1 h3 h5 h13) (fun y21 M21 e21 q21 => ?_)
        have hJ21 : ∀ e ∈ RM, M21.2.2 e.1 e.2.1 = e.2.2 := fun e he => by rw [e21]; exact hJ1 e he
        show AW l (pI pg 228) P kc ks 32 [(0, .ref 58), (1, .int (x)), (2, .int (y))] [.int (y21)] SHF _
        refine AW.if_ne (dq rfl) (tgt := 37) (by decide) (fun h23 => ?_) (fun h23 => ?_)
        · have _ := h23
          refine AW.aload_n (dq rfl) rfl rfl ?_
          show AW l (pI pg 228) P kc ks 38 _ _ SHF _
          refine AW.iconst (dq rfl) ?_
          show AW l (pI pg 228) P kc ks 39 _ _ SHF _
          refine fw_callVV (as := [.int (Int32.ofInt 0)]) (dq rfl) (pg_ok.2.2.1 228 _ _ _ _ rfl) rfl (by decide +kernel) rfl rfl (c25 y1 M1 e1 q1 h3 h5 h13 y21 M21 e21 q21 h23) (fun M24 e24 q24 => ?_)
          have hJ24 : ∀ e ∈ RM, M24.2.2 e.1 e.2.1 = e.2.2 := fun e he => by rw [e24]; exact hJ21 e he
          show AW l (pI pg 228) P kc ks 42 [(0, .ref 58), (1, .int (x)), (2, .int (y))] [] SHF _
          refine AW.iconst (dq rfl) ?_
          show AW l (pI pg 228) P kc ks 43 _ _ SHF _
          refine AW.istore_n (dq rfl) (by decide +kernel) ?_
          show AW l (pI pg 228) P kc ks 44 [(3, .int (Int32.ofInt 0)), (0, .ref 58), (1, .int (x)), (2, .int (y))] [] SHF _
          refine AW.drop (lv' := [(3, .int (Int32.ofInt 0)), (2, .int (y)), (1, .int (x)), (0, .ref 58)]) (List.forall_mem_cons.mpr ⟨List.mem_of_getElem? (i := 0) rfl, List.forall_mem_cons.mpr ⟨List.mem_of_getElem? (i := 3) rfl, List.forall_mem_cons.mpr ⟨List.mem_of_getElem? (i := 2) rfl, List.forall_mem_cons.mpr ⟨List.mem_of_getElem? (i := 1) rfl, fun _ h => absurd h List.not_mem_nil⟩⟩⟩⟩) ?_
          exact k26 y1 M1 e1 q1 h3 h5 h13 y21 M21 e21 q21 h23 M24 e24 q24
        · have _ := h23
          refine AW.iconst (dq rfl) ?_
          show AW l (pI pg 228) P kc ks 36 _ _ SHF _
          refine AW.iret (dq rfl) rfl ?_
          exact r27 y1 M1 e1 q1 h3 h5 h13 y21 M21 e21 q21 h23

theorem mwr_44 {l : aL} {P : aP} {kc ks : Nat} {s p : Nat} {y : Int32} {M : aM} (hJ : ∀ e ∈ RM, M.2.2 e.1 e.2.1 = e.2.2) (hl0 : l.1.stackTraces = false) (k2 : ∀ (h1 : ((Int32.ofInt 1) <<< ((M.1 58 1) &&& 31) : Int32) ≤ (nI s : Int32)), AW l (pI pg 228) P kc ks 76 [(4, .int (Int32.ofInt 0)), (3, .int (Int32.ofInt 0)), (2, .int (y)), (1, .int (nI p)), (0, .ref 58)] [] SHF M) (Q3 : Int32 → aM → Prop) (c4 : ∀ (h1 : ¬ (((Int32.ofInt 1) <<< ((M.1 58 1) &&& 31) : Int32) ≤ (nI s : Int32))), AC l (pI pg 216) (fcI M Q3) 0 0 [.ref 58, .int (nI s)] SHF M) (o5 : ∀ (h1 : ¬ (((Int32.ofInt 1) <<< ((M.1 58 1) &&& 31) : Int32) ≤ (nI s : Int32))), ∀ (y3 : Int32), ∀ (M3 : aM), ∀ (e3 : M3.2.2 = M.2.2), ∀ (q3 : Q3 y3 M3), vp_in (nI s) 64) (k6 : ∀ (h1 : ¬ (((Int32.ofInt 1) <<< ((M.1 58 1) &&& 31) : Int32) ≤ (nI s : Int32))), ∀ (y3 : Int32), ∀ (M3 : aM), ∀ (e3 : M3.2.2 = M.2.2), ∀ (q3 : Q3 y3 M3), AW l (pI pg 228) P kc ks 44 [(3, .int ((nI s) + Int32.ofInt 1)), (2, .int (y)), (1, .int (nI p)), (0, .ref 58)] [] SHF (aset M3 83 (nI s).toNatClampNeg (.int (y3)))) : AW l (pI pg 228) P kc ks 44 [(3, .int (nI s)), (2, .int (y)), (1, .int (nI p)), (0, .ref 58)] [] SHF M := by
  refine AW.iload_n (dq rfl) rfl ?_
  show AW l (pI pg 228) P kc ks 45 _ _ SHF _
  refine AW.iconst (dq rfl) ?_
  show AW l (pI pg 228) P kc ks 46 _ _ SHF _
  refine AW.aload_n (dq rfl) rfl rfl ?_
  show AW l (pI pg 228) P kc ks 47 _ _ SHF _
  refine fw_get (dq rfl) (pg_ok.2.1 228 _ _ _ _ rfl) rfl (v := .int (M.1 58 1)) rfl ?_
  show AW l (pI pg 228) P kc ks 50 _ _ SHF _
  refine AW.ishl (dq rfl) ?_
  show AW l (pI pg 228) P kc ks 51 _ _ SHF _
  refine AW.icmp_ge (dq rfl) (tgt := 71) (by decide) (fun h1 => ?_) (fun h1 => ?_)
  · have _ := h1
    refine AW.iconst (dq rfl) ?_
    show AW l (pI pg 228) P kc ks 72 _ _ SHF _
    refine AW.istore_n (dq rfl) (by decide +kernel) ?_
    show AW l (pI pg 228) P kc ks 73 [(3, .int (Int32.ofInt 0)), (2, .int (y)), (1, .int (nI p)), (0, .ref 58)] [] SHF _
    refine AW.iconst (dq rfl) ?_
    show AW l (pI pg 228) P kc ks 74 _ _ SHF _
    refine AW.istore (dq rfl) (by decide +kernel) ?_
    show AW l (pI pg 228) P kc ks 76 [(4, .int (Int32.ofInt 0)), (3, .int (Int32.ofInt 0)), (2, .int (y)), (1, .int (nI p)), (0, .ref 58)] [] SHF _
    refine AW.drop (lv' := [(4, .int (Int32.ofInt 0)), (3, .int (Int32.ofInt 0)), (2, .int (y)), (1, .int (nI p)), (0, .ref 58)]) (List.forall_mem_cons.mpr ⟨List.mem_of_getElem? (i := 0) rfl, List.forall_mem_cons.mpr ⟨List.mem_of_getElem? (i := 1) rfl, List.forall_mem_cons.mpr ⟨List.mem_of_getElem? (i := 2) rfl, List.forall_mem_cons.mpr ⟨List.mem_of_getElem? (i := 3) rfl, List.forall_mem_cons.mpr ⟨List.mem_of_getElem? (i := 4) rfl, fun _ h => absurd h List.not_mem_nil⟩⟩⟩⟩⟩) ?_
    exact k2 h1
  · have _ := h1
    refine AW.aload_n (dq rfl) rfl rfl ?_
    show AW l (pI pg 228) P kc ks 55 _ _ SHF _
    refine fw_get (dq rfl) (pg_ok.2.1 228 _ _ _ _ rfl) rfl (v := .ref 83) (isTA_ok rfl (rgR_ok hJ rfl)) ?_
    show AW l (pI pg 228) P kc ks 58 _ _ SHF _
    refine AW.iload_n (dq rfl) rfl ?_
    show AW l (pI pg 228) P kc ks 59 _ _ SHF _
    refine AW.aload_n (dq rfl) rfl rfl ?_
    show AW l (pI pg 228) P kc ks 60 _ _ SHF _
    refine AW.iload_n (dq rfl) rfl ?_
    show AW l (pI pg 228) P kc ks 61 _ _ SHF _
    refine fw_callVI (as := [.int (nI s)]) (dq rfl) (pg_ok.2.2.1 228 _ _ _ _ rfl) rfl (by decide +kernel) rfl rfl (c4 h1) (fun y3 M3 e3 q3 => ?_)
    have hJ3 : ∀ e ∈ RM, M3.2.2 e.1 e.2.1 = e.2.2 := fun e he => by rw [e3]; exact hJ e he
    show AW l (pI pg 228) P kc ks 64 [(3, .int (nI s)), (2, .int (y)), (1, .int (nI p)), (0, .ref 58)] [.int (y3), .int (nI s), .ref 83] SHF _
    refine AW.iast (dq rfl) rfl (o5 h1 y3 M3 e3 q3) ?_
    show AW l (pI pg 228) P kc ks 65 _ _ SHF _
    refine AW.iinc (dq rfl) rfl (by decide +kernel) ?_
    show AW l (pI pg 228) P kc ks 68 [(3, .int ((nI s) + Int32.ofInt 1)), (2, .int (y)), (1, .int (nI p)), (0, .ref 58)] [] SHF _
    refine AW.goto (dq rfl) (tgt := 44) (by decide) ?_
    refine AW.drop (lv' := [(3, .int ((nI s) + Int32.ofInt 1)), (2, .int (y)), (1, .int (nI p)), (0, .ref 58)]) (List.forall_mem_cons.mpr ⟨List.mem_of_getElem? (i := 0) rfl, List.forall_mem_cons.mpr ⟨List.mem_of_getElem? (i := 1) rfl, List.forall_mem_cons.mpr ⟨List.mem_of_getElem? (i := 2) rfl, List.forall_mem_cons.mpr ⟨List.mem_of_getElem? (i := 3) rfl, fun _ h => absurd h List.not_mem_nil⟩⟩⟩⟩) ?_
    exact k6 h1 y3 M3 e3 q3

theorem mwr_76 {l : aL} {P : aP} {kc ks : Nat} {s p : Nat} {v y : Int32} {M : aM} (hJ : ∀ e ∈ RM, M.2.2 e.1 e.2.1 = e.2.2) (hl0 : l.1.stackTraces = false) (Q2 : Int32 → aM → Prop) (c3 : ∀ (h1 : ((Int32.ofInt 1) <<< ((M.1 58 1) &&& 31) : Int32) ≤ (nI s : Int32)), AC l (pI pg 229) (fcI M Q2) 0 0 [.int (M.1 58 1)] SHF M) (k4 : ∀ (h1 : ((Int32.ofInt 1) <<< ((M.1 58 1) &&& 31) : Int32) ≤ (nI s : Int32)), ∀ (y2 : Int32), ∀ (M2 : aM), ∀ (e2 : M2.2.2 = M.2.2), ∀ (q2 : Q2 y2 M2), AW l (pI pg 228) P kc ks 169 [(6, .int (v)), (5, .int (y2)), (4, .int (y2)), (3, .int (v)), (2, .int (y))] [] SHF M2) (Q6 : Int32 → aM → Prop) (c7 : ∀ (h1 : ¬ (((Int32.ofInt 1) <<< ((M.1 58 1) &&& 31) : Int32) ≤ (nI s : Int32))), ∀ (h5 : ¬ (((nI s) >>> ((nI p) &&& 31)) &&& (Int32.ofInt 1) : Int32) = (Int32.ofInt 1 : Int32)), AC l (pI pg 217) (fcI M Q6) 0 0 [.int (nI s)] SHF M) (Q8 : Int32 → aM → Int32 → aM → Prop) (c9 : ∀ (h1 : ¬ (((Int32.ofInt 1) <<< ((M.1 58 1) &&& 31) : Int32) ≤ (nI s : Int32))), ∀ (h5 : ¬ (((nI s) >>> ((nI p) &&& 31)) &&& (Int32.ofInt 1) : Int32) = (Int32.ofInt 1 : Int32)), ∀ (y6 : Int32), ∀ (M6 : aM), ∀ (e6 : M6.2.2 = M.2.2), ∀ (q6 : Q6 y6 M6), AC l (pI pg 229) (fcI M6 (Q8 y6 M6)) 0 0 [.int (y6)] SHF M6) (Q10 : Int32 → aM → Int32 → aM → Int32 → aM → Prop) (c11 : ∀ (h1 : ¬ (((Int32.ofInt 1) <<< ((M.1 58 1) &&& 31) : Int32) ≤ (nI s : Int32))), ∀ (h5 : ¬ (((nI s) >>> ((nI p) &&& 31)) &&& (Int32.ofInt 1) : Int32) = (Int32.ofInt 1 : Int32)), ∀ (y6 : Int32), ∀ (M6 : aM), ∀ (e6 : M6.2.2 = M.2.2), ∀ (q6 : Q6 y6 M6), ∀ (y8 : Int32), ∀ (M8 : aM), ∀ (e8 : M8.2.2 = M6.2.2), ∀ (q8 : (Q8 y6 M6) y8 M8), AC l (pI pg 217) (fcI M8 (Q10 y6 M6 y8 M8)) 0 0 [.int (nI s)] SHF M8) (Q12 : Int32 → aM → Int32 → aM → Int32 → aM → Int32 → aM → Prop) (c13 : ∀ (h1 : ¬ (((Int32.ofInt 1) <<< ((M.1 58 1) &&& 31) : Int32) ≤ (nI s : Int32))), ∀ (h5 : ¬ (((nI s) >>> ((nI p) &&& 31)) &&& (Int32.ofInt 1) : Int32) = (Int32.ofInt 1 : Int32)), ∀ (y6 : Int32), ∀ (M6 : aM), ∀ (e6 : M6.2.2 = M.2.2), ∀ (q6 : Q6 y6 M6), ∀ (y8 : Int32), ∀ (M8 : aM), ∀ (e8 : M8.2.2 = M6.2.2), ∀ (q8 : (Q8 y6 M6) y8 M8), ∀ (y10 : Int32), ∀ (M10 : aM), ∀ (e10 : M10.2.2 = M8.2.2), ∀ (q10 : (Q10 y6 M6 y8 M8) y10 M10), AC l (pI pg 229) (fcI M10 (Q12 y6 M6 y8 M8 y10 M10)) 0 0 [.int (((M8.1 58 1) - (y10)) - (Int32.ofInt 1))] SHF M10) (o14 : ∀ (h1 : ¬ (((Int32.ofInt 1) <<< ((M.1 58 1) &&& 31) : Int32) ≤ (nI s : Int32))), ∀ (h5 : ¬ (((nI s) >>> ((nI p) &&& 31)) &&& (Int32.ofInt 1) : Int32) = (Int32.ofInt 1 : Int32)), ∀ (y6 : Int32), ∀ (M6 : aM), ∀ (e6 : M6.2.2 = M.2.2), ∀ (q6 : Q6 y6 M6), ∀ (y8 : Int32), ∀ (M8 : aM), ∀ (e8 : M8.2.2 = M6.2.2), ∀ (q8 : (Q8 y6 M6) y8 M8), ∀ (y10 : Int32), ∀ (M10 : aM), ∀ (e10 : M10.2.2 = M8.2.2), ∀ (q10 : (Q10 y6 M6 y8 M8) y10 M10), ∀ (y12 : Int32), ∀ (M12 : aM), ∀ (e12 : M12.2.2 = M10.2.2), ∀ (q12 : (Q12 y6 M6 y8 M8 y10 M10) y12 M12), vp_in ((nI s) ||| ((Int32.ofInt 1) <<< ((nI p) &&& 31))) 64) (o15 : ∀ (h1 : ¬ (((Int32.ofInt 1) <<< ((M.1 58 1) &&& 31) : Int32) ≤ (nI s : Int32))), ∀ (h5 : ¬ (((nI s) >>> ((nI p) &&& 31)) &&& (Int32.ofInt 1) : Int32) = (Int32.ofInt 1 : Int32)), ∀ (y6 : Int32), ∀ (M6 : aM), ∀ (e6 : M6.2.2 = M.2.2), ∀ (q6 : Q6 y6 M6), ∀ (y8 : Int32), ∀ (M8 : aM), ∀ (e8 : M8.2.2 = M6.2.2), ∀ (q8 : (Q8 y6 M6) y8 M8), ∀ (y10 : Int32), ∀ (M10 : aM), ∀ (e10 : M10.2.2 = M8.2.2), ∀ (q10 : (Q10 y6 M6 y8 M8) y10 M10), ∀ (y12 : Int32), ∀ (M12 : aM), ∀ (e12 : M12.2.2 = M10.2.2), ∀ (q12 : (Q12 y6 M6 y8 M8 y10 M10) y12 M12), vp_in (nI s) 64) (k16 : ∀ (h1 : ¬ (((Int32.ofInt 1) <<< ((M.1 58 1) &&& 31) : Int32) ≤ (nI s : Int32))), ∀ (h5 : ¬ (((nI s) >>> ((nI p) &&& 31)) &&& (Int32.ofInt 1) : Int32) = (Int32.ofInt 1 : Int32)), ∀ (y6 : Int32), ∀ (M6 : aM), ∀ (e6 : M6.2.2 = M.2.2), ∀ (q6 : Q6 y6 M6), ∀ (y8 : Int32), ∀ (M8 : aM), ∀ (e8 : M8.2.2 = M6.2.2), ∀ (q8 : (Q8 y6 M6) y8 M8), ∀ (y10 : Int32), ∀ (M10 : aM), ∀ (e10 : M10.2.2 = M8.2.2), ∀ (q10 : (Q10 y6 M6 y8 M8) y10 M10), ∀ (y12 : Int32), ∀ (M12 : aM), ∀ (e12 : M12.2.2 = M10.2.2), ∀ (q12 : (Q12 y6 M6 y8 M8 y10 M10) y12 M12), AW l (pI pg 228) P kc ks 76 [(4, .int ((nI s) + Int32.ofInt 1)), (3, .int ((v) + (((y8) * (y12)) * ((M12.1 83 ((nI s) ||| ((Int32.ofInt 1) <<< ((nI p) &&& 31))).toNatClampNeg) - (M12.1 83 (nI s).toNatClampNeg))))), (2, .int (y)), (1, .int (nI p)), (0, .ref 58)] [] SHF M12) (k17 : ∀ (h1 : ¬ (((Int32.ofInt 1) <<< ((M.1 58 1) &&& 31) : Int32) ≤ (nI s : Int32))), ∀ (h5 : (((nI s) >>> ((nI p) &&& 31)) &&& (Int32.ofInt 1) : Int32) = (Int32.ofInt 1 : Int32)), AW l (pI pg 228) P kc ks 76 [(4, .int ((nI s) + Int32.ofInt 1)), (3, .int (v)), (2, .int (y)), (1, .int (nI p)), (0, .ref 58)] [] SHF M) : AW l (pI pg 228) P kc ks 76 [(4, .int (nI s)), (3, .int (v)), (2, .int (y)), (1, .int (nI p)), (0, .ref 58)] [] SHF M := by
  refine AW.iload (dq rfl) rfl ?_
  show AW l (pI pg 228) P kc ks 78 _ _ SHF _
  refine AW.iconst (dq rfl) ?_
  show AW l (pI pg 228) P kc ks 79 _ _ SHF _
  refine AW.aload_n (dq rfl) rfl rfl ?_
  show AW l (pI pg 228) P kc ks 80 _ _ SHF _
  refine fw_get (dq rfl) (pg_ok.2.1 228 _ _ _ _ rfl) rfl (v := .int (M.1 58 1)) rfl ?_
  show AW l (pI pg 228) P kc ks 83 _ _ SHF _
  refine AW.ishl (dq rfl) ?_
  show AW l (pI pg 228) P kc ks 84 _ _ SHF _
  refine AW.icmp_ge (dq rfl) (tgt := 153) (by decide) (fun h1 => ?_) (fun h1 => ?_)
  · have _ := h1
    refine AW.aload_n (dq rfl) rfl rfl ?_
    show AW l (pI pg 228) P kc ks 154 _ _ SHF _
    refine fw_get (dq rfl) (pg_ok.2.1 228 _ _ _ _ rfl) rfl (v := .int (M.1 58 1)) rfl ?_
    show AW l (pI pg 228) P kc ks 157 _ _ SHF _
    refine fw_callSI (as := [.int (M.1 58 1)]) (dq rfl) (pg_ok.2.2.1 228 _ _ _ _ rfl) (by decide +kernel) rfl rfl (c3 h1) (fun y2 M2 e2 q2 => ?_)
    have hJ2 : ∀ e ∈ RM, M2.2.2 e.1 e.2.1 = e.2.2 := fun e he => by rw [e2]; exact hJ e he
    show AW l (pI pg 228) P kc ks 160 [(4, .int (nI s)), (3, .int (v)), (2, .int (y)), (1, .int (nI p)), (0, .ref 58)] [.int (y2)] SHF _
    refine AW.istore (dq rfl) (by decide +kernel) ?_
    show AW l (pI pg 228) P kc ks 162 [(4, .int (y2)), (3, .int (v)), (2, .int (y)), (1, .int (nI p)), (0, .ref 58)] [] SHF _
    refine AW.iload (dq rfl) rfl ?_
    show AW l (pI pg 228) P kc ks 164 _ _ SHF _
    refine AW.istore (dq rfl) (by decide +kernel) ?_
    show AW l (pI pg 228) P kc ks 166 [(5, .int (y2)), (4, .int (y2)), (3, .int (v)), (2, .int (y)), (1, .int (nI p)), (0, .ref 58)] [] SHF _
    refine AW.iload_n (dq rfl) rfl ?_
    show AW l (pI pg 228) P kc ks 167 _ _ SHF _
    refine AW.istore (dq rfl) (by decide +kernel) ?_
    show AW l (pI pg 228) P kc ks 169 [(6, .int (v)), (5, .int (y2)), (4, .int (y2)), (3, .int (v)), (2, .int (y)), (1, .int (nI p)), (0, .ref 58)] [] SHF _
    refine AW.drop (lv' := [(6, .int (v)), (5, .int (y2)), (4, .int (y2)), (3, .int (v)), (2, .int (y))]) (List.forall_mem_cons.mpr ⟨List.mem_of_getElem? (i := 0) rfl, List.forall_mem_cons.mpr ⟨List.mem_of_getElem? (i := 1) rfl, List.forall_mem_cons.mpr ⟨List.mem_of_getElem? (i := 2) rfl, List.forall_mem_cons.mpr ⟨List.mem_of_getElem? (i := 3) rfl, List.forall_mem_cons.mpr ⟨List.mem_of_getElem? (i := 4) rfl, fun _ h => absurd h List.not_mem_nil⟩⟩⟩⟩⟩) ?_
    exact k4 h1 y2 M2 e2 q2
  · have _ := h1
    refine AW.iload (dq rfl) rfl ?_
    show AW l (pI pg 228) P kc ks 89 _ _ SHF _
    refine AW.iload_n (dq rfl) rfl ?_
    show AW l (pI pg 228) P kc ks 90 _ _ SHF _
    refine AW.ishr (dq rfl) ?_
    show AW l (pI pg 228) P kc ks 91 _ _ SHF _
    refine AW.iconst (dq rfl) ?_
    show AW l (pI pg 228) P kc ks 92 _ _ SHF _
    refine AW.iand (dq rfl) ?_
    show AW l (pI pg 228) P kc ks 93 _ _ SHF _
    refine AW.iconst (dq rfl) ?_
    show AW l (pI pg 228) P kc ks 94 _ _ SHF _
    refine AW.icmp_ne (dq rfl) (tgt := 100) (by decide) (fun h5 => ?_) (fun h5 => ?_)
    · have _ := h5
      refine AW.iload_n (dq rfl) rfl ?_
      show AW l (pI pg 228) P kc ks 101 _ _ SHF _
      refine AW.iload (dq rfl) rfl ?_
      show AW l (pI pg 228) P kc ks 103 _ _ SHF _
      refine fw_callSI (as := [.int (nI s)]) (dq rfl) (pg_ok.2.2.1 228 _ _ _ _ rfl) (by decide +kernel) rfl rfl (c7 h1 h5) (fun y6 M6 e6 q6 => ?_)
      have hJ6 : ∀ e ∈ RM, M6.2.2 e.1 e.2.1 = e.2.2 := fun e he => by rw [e6]; exact hJ e he
      show AW l (pI pg 228) P kc ks 106 [(4, .int (nI s)), (3, .int (v)), (2, .int (y)), (1, .int (nI p)), (0, .ref 58)] [.int (y6), .int (v)] SHF _
      refine fw_callSI (as := [.int (y6)]) (dq rfl) (pg_ok.2.2.1 228 _ _ _ _ rfl) (by decide +kernel) rfl rfl (c9 h1 h5 y6 M6 e6 q6) (fun y8 M8 e8 q8 => ?_)
      have hJ8 : ∀ e ∈ RM, M8.2.2 e.1 e.2.1 = e.2.2 := fun e he => by rw [e8]; exact hJ6 e he
      show AW l (pI pg 228) P kc ks 109 [(4, .int (nI s)), (3, .int (v)), (2, .int (y)), (1, .int (nI p)), (0, .ref 58)] [.int (y8), .int (v)] SHF _
      refine AW.aload_n (dq rfl) rfl rfl ?_
      show AW l (pI pg 228) P kc ks 110 _ _ SHF _
      refine fw_get (dq rfl) (pg_ok.2.1 228 _ _ _ _ rfl) rfl (v := .int (M8.1 58 1)) rfl ?_
      show AW l (pI pg 228) P kc ks 113 _ _ SHF _
      refine AW.iload (dq rfl) rfl ?_
      show AW l (pI pg 228) P kc ks 115 _ _ SHF _
      refine fw_callSI (as := [.int (nI s)]) (dq rfl) (pg_ok.2.2.1 228 _ _ _ _ rfl) (by decide +kernel) rfl rfl (c11 h1 h5 y6 M6 e6 q6 y8 M8 e8 q8) (fun y10 M10 e10 q10 => ?_)
      have hJ10 : ∀ e ∈ RM, M10.2.2 e.1 e.2.1 = e.2.2 := fun e he => by rw [e10]; exact hJ8 e he
      show AW l (pI pg 228) P kc ks 118 [(4, .int (nI s)), (3, .int (v)), (2, .int (y)), (1, .int (nI p)), (0, .ref 58)] [.int (y10), .int (M8.1 58 1), .int (y8), .int (v)] SHF _
      refine AW.isub (dq rfl) ?_
      show AW l (pI pg 228) P kc ks 119 _ _ SHF _
      refine AW.iconst (dq rfl) ?_
      show AW l (pI pg 228) P kc ks 120 _ _ SHF _
      refine AW.isub (dq rfl) ?_
      show AW l (pI pg 228) P kc ks 121 _ _ SHF _
      refine fw_callSI (as := [.int (((M8.1 58 1) - (y10)) - (Int32.ofInt 1))]) (dq rfl) (pg_ok.2.2.1 228 _ _ _ _ rfl) (by decide +kernel) rfl rfl (c13 h1 h5 y6 M6 e6 q6 y8 M8 e8 q8 y10 M10 e10 q10) (fun y12 M12 e12 q12 => ?_)
      have hJ12 : ∀ e ∈ RM, M12.2.2 e.1 e.2.1 = e.2.2 := fun e he => by rw [e12]; exact hJ10 e he
      show AW l (pI pg 228) P kc ks 124 [(4, .int (nI s)), (3, .int (v)), (2, .int (y)), (1, .int (nI p)), (0, .ref 58)] [.int (y12), .int (y8), .int (v)] SHF _
      refine AW.imul (dq rfl) ?_
      show AW l (pI pg 228) P kc ks 125 _ _ SHF _
      refine AW.aload_n (dq rfl) rfl rfl ?_
      show AW l (pI pg 228) P kc ks 126 _ _ SHF _
      refine fw_get (dq rfl) (pg_ok.2.1 228 _ _ _ _ rfl) rfl (v := .ref 83) (isTA_ok rfl (rgR_ok hJ12 rfl)) ?_
      show AW l (pI pg 228) P kc ks 129 _ _ SHF _
      refine AW.iload (dq rfl) rfl ?_
      show AW l (pI pg 228) P kc ks 131 _ _ SHF _
      refine AW.iconst (dq rfl) ?_
      show AW l (pI pg 228) P kc ks 132 _ _ SHF _
      refine AW.iload_n (dq rfl) rfl ?_
      show AW l (pI pg 228) P kc ks 133 _ _ SHF _
      refine AW.ishl (dq rfl) ?_
      show AW l (pI pg 228) P kc ks 134 _ _ SHF _
      refine AW.ior (dq rfl) ?_
      show AW l (pI pg 228) P kc ks 135 _ _ SHF _
      refine AW.iald (dq rfl) rfl (o14 h1 h5 y6 M6 e6 q6 y8 M8 e8 q8 y10 M10 e10 q10 y12 M12 e12 q12) ?_
      show AW l (pI pg 228) P kc ks 136 _ _ SHF _
      refine AW.aload_n (dq rfl) rfl rfl ?_
      show AW l (pI pg 228) P kc ks 137 _ _ SHF _
      refine fw_get (dq rfl) (pg_ok.2.1 228 _ _ _ _ rfl) rfl (v := .ref 83) (isTA_ok rfl (rgR_ok hJ12 rfl)) ?_
      show AW l (pI pg 228) P kc ks 140 _ _ SHF _
      refine AW.iload (dq rfl) rfl ?_
      show AW l (pI pg 228) P kc ks 142 _ _ SHF _
      refine AW.iald (dq rfl) rfl (o15 h1 h5 y6 M6 e6 q6 y8 M8 e8 q8 y10 M10 e10 q10 y12 M12 e12 q12) ?_
      show AW l (pI pg 228) P kc ks 143 _ _ SHF _
      refine AW.isub (dq rfl) ?_
      show AW l (pI pg 228) P kc ks 144 _ _ SHF _
      refine AW.imul (dq rfl) ?_
      show AW l (pI pg 228) P kc ks 145 _ _ SHF _
      refine AW.iadd (dq rfl) ?_
      show AW l (pI pg 228) P kc ks 146 _ _ SHF _
      refine AW.istore_n (dq rfl) (by decide +kernel) ?_
      show AW l (pI pg 228) P kc ks 147 [(3, .int ((v) + (((y8) * (y12)) * ((M12.1 83 ((nI s) ||| ((Int32.ofInt 1) <<< ((nI p) &&& 31))).toNatClampNeg) - (M12.1 83 (nI s).toNatClampNeg))))), (4, .int (nI s)), (2, .int (y)), (1, .int (nI p)), (0, .ref 58)] [] SHF _
      refine AW.iinc (dq rfl) rfl (by decide +kernel) ?_
      show AW l (pI pg 228) P kc ks 150 [(4, .int ((nI s) + Int32.ofInt 1)), (3, .int ((v) + (((y8) * (y12)) * ((M12.1 83 ((nI s) ||| ((Int32.ofInt 1) <<< ((nI p) &&& 31))).toNatClampNeg) - (M12.1 83 (nI s).toNatClampNeg))))), (2, .int (y)), (1, .int (nI p)), (0, .ref 58)] [] SHF _
      refine AW.goto (dq rfl) (tgt := 76) (by decide) ?_
      refine AW.drop (lv' := [(4, .int ((nI s) + Int32.ofInt 1)), (3, .int ((v) + (((y8) * (y12)) * ((M12.1 83 ((nI s) ||| ((Int32.ofInt 1) <<< ((nI p) &&& 31))).toNatClampNeg) - (M12.1 83 (nI s).toNatClampNeg))))), (2, .int (y)), (1, .int (nI p)), (0, .ref 58)]) (List.forall_mem_cons.mpr ⟨List.mem_of_getElem? (i := 0) rfl, List.forall_mem_cons.mpr ⟨List.mem_of_getElem? (i := 1) rfl, List.forall_mem_cons.mpr ⟨List.mem_of_getElem? (i := 2) rfl, List.forall_mem_cons.mpr ⟨List.mem_of_getElem? (i := 3) rfl, List.forall_mem_cons.mpr ⟨List.mem_of_getElem? (i := 4) rfl, fun _ h => absurd h List.not_mem_nil⟩⟩⟩⟩⟩) ?_
      exact k16 h1 h5 y6 M6 e6 q6 y8 M8 e8 q8 y10 M10 e10 q10 y12 M12 e12 q12
    · have _ := h5
      refine AW.goto (dq rfl) (tgt := 147) (by decide) ?_
      refine AW.iinc (dq rfl) rfl (by decide +kernel) ?_
      show AW l (pI pg 228) P kc ks 150 [(4, .int ((nI s) + Int32.ofInt 1)), (3, .int (v)), (2, .int (y)), (1, .int (nI p)), (0, .ref 58)] [] SHF _
      refine AW.goto (dq rfl) (tgt := 76) (by decide) ?_
      refine AW.drop (lv' := [(4, .int ((nI s) + Int32.ofInt 1)), (3, .int (v)), (2, .int (y)), (1, .int (nI p)), (0, .ref 58)]) (List.forall_mem_cons.mpr ⟨List.mem_of_getElem? (i := 0) rfl, List.forall_mem_cons.mpr ⟨List.mem_of_getElem? (i := 1) rfl, List.forall_mem_cons.mpr ⟨List.mem_of_getElem? (i := 2) rfl, List.forall_mem_cons.mpr ⟨List.mem_of_getElem? (i := 3) rfl, List.forall_mem_cons.mpr ⟨List.mem_of_getElem? (i := 4) rfl, fun _ h => absurd h List.not_mem_nil⟩⟩⟩⟩⟩) ?_
      exact k17 h1 h5

theorem mwr_169 {l : aL} {P : aP} {kc ks : Nat} {a b al v y : Int32} {M : aM} (hJ : ∀ e ∈ RM, M.2.2 e.1 e.2.1 = e.2.2) (hl0 : l.1.stackTraces = false) (d3 : ∀ (h1 : (b : Int32) = 0), ∀ (h2 : ¬ (y : Int32) = 0), ¬ (a) = (0 : Int32)) (r4 : ∀ (h1 : (b : Int32) = 0), ∀ (h2 : ¬ (y : Int32) = 0), P (.inl (some (.int ((al) / (a))))) SHF M) (d5 : ∀ (h1 : (b : Int32) = 0), ∀ (h2 : (y : Int32) = 0), ¬ (a) = (0 : Int32)) (r6 : ∀ (h1 : (b : Int32) = 0), ∀ (h2 : (y : Int32) = 0), P (.inl (some (.int ((v) / (a))))) SHF M) (d7 : ∀ (h1 : ¬ ((b : Int32) = 0)), ¬ (b) = (0 : Int32)) (k8 : ∀ (h1 : ¬ ((b : Int32) = 0)), AW l (pI pg 228) P kc ks 169 [(6, .int ((a) - (a) / (b) * (b))), (5, .int (b)), (4, .int (al)), (3, .int (v)), (2, .int (y))] [] SHF M) : AW l (pI pg 228) P kc ks 169 [(6, .int (b)), (5, .int (a)), (4, .int (al)), (3, .int (v)), (2, .int (y))] [] SHF M := by
  refine AW.iload (dq rfl) rfl ?_
  show AW l (pI pg 228) P kc ks 171 _ _ SHF _
  refine AW.if_eq (dq rfl) (tgt := 192) (by decide) (fun h1 => ?_) (fun h1 => ?_)
  · have _ := h1
    refine AW.iload_n (dq rfl) rfl ?_
    show AW l (pI pg 228) P kc ks 193 _ _ SHF _
    refine AW.if_ne (dq rfl) (tgt := 203) (by decide) (fun h2 => ?_) (fun h2 => ?_)
    · have _ := h2
      refine AW.iload (dq rfl) rfl ?_
      show AW l (pI pg 228) P kc ks 205 _ _ SHF _
      refine AW.iload (dq rfl) rfl ?_
      show AW l (pI pg 228) P kc ks 207 _ _ SHF _
      refine AW.idiv (dq rfl) (d3 h1 h2) ?_
      show AW l (pI pg 228) P kc ks 208 _ _ SHF _
      refine AW.iret (dq rfl) rfl ?_
      exact r4 h1 h2
    · have _ := h2
      refine AW.iload_n (dq rfl) rfl ?_
      show AW l (pI pg 228) P kc ks 197 _ _ SHF _
      refine AW.iload (dq rfl) rfl ?_
      show AW l (pI pg 228) P kc ks 199 _ _ SHF _
      refine AW.idiv (dq rfl) (d5 h1 h2) ?_
      show AW l (pI pg 228) P kc ks 200 _ _ SHF _
      refine AW.goto (dq rfl) (tgt := 208) (by decide) ?_
      refine AW.iret (dq rfl) rfl ?_
      exact r6 h1 h2
  · have _ := h1
    refine AW.iload (dq rfl) rfl ?_
    show AW l (pI pg 228) P kc ks 176 _ _ SHF _
    refine AW.iload (dq rfl) rfl ?_
    show AW l (pI pg 228) P kc ks 178 _ _ SHF _
    refine AW.irem (dq rfl) (d7 h1) ?_
    show AW l (pI pg 228) P kc ks 179 _ _ SHF _
    refine AW.istore (dq rfl) (by decide +kernel) ?_
    show AW l (pI pg 228) P kc ks 181 [(7, .int ((a) - (a) / (b) * (b))), (6, .int (b)), (5, .int (a)), (4, .int (al)), (3, .int (v)), (2, .int (y))] [] SHF _
    refine AW.iload (dq rfl) rfl ?_
    show AW l (pI pg 228) P kc ks 183 _ _ SHF _
    refine AW.istore (dq rfl) (by decide +kernel) ?_
    show AW l (pI pg 228) P kc ks 185 [(5, .int (b)), (7, .int ((a) - (a) / (b) * (b))), (6, .int (b)), (4, .int (al)), (3, .int (v)), (2, .int (y))] [] SHF _
    refine AW.iload (dq rfl) rfl ?_
    show AW l (pI pg 228) P kc ks 187 _ _ SHF _
    refine AW.istore (dq rfl) (by decide +kernel) ?_
    show AW l (pI pg 228) P kc ks 189 [(6, .int ((a) - (a) / (b) * (b))), (5, .int (b)), (7, .int ((a) - (a) / (b) * (b))), (4, .int (al)), (3, .int (v)), (2, .int (y))] [] SHF _
    refine AW.goto (dq rfl) (tgt := 169) (by decide) ?_
    refine AW.drop (lv' := [(6, .int ((a) - (a) / (b) * (b))), (5, .int (b)), (4, .int (al)), (3, .int (v)), (2, .int (y))]) (List.forall_mem_cons.mpr ⟨List.mem_of_getElem? (i := 0) rfl, List.forall_mem_cons.mpr ⟨List.mem_of_getElem? (i := 1) rfl, List.forall_mem_cons.mpr ⟨List.mem_of_getElem? (i := 3) rfl, List.forall_mem_cons.mpr ⟨List.mem_of_getElem? (i := 4) rfl, List.forall_mem_cons.mpr ⟨List.mem_of_getElem? (i := 5) rfl, fun _ h => absurd h List.not_mem_nil⟩⟩⟩⟩⟩) ?_
    exact k8 h1

