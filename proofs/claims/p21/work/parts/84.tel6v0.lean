/-! stretches of does, printed by wip/gen/segs_ds.py -/
theorem dosa_0 {l : aL} {P : aP} {kc ks : Nat} {x : Int32} {M : aM} (hJ : ∀ e ∈ RR.2, M.2.2 e.1 e.2.1 = e.2.2) (hl0 : l.1.stackTraces = false) (B1 : Prop) (c2 : AC l (pI pg 93) (tcV "java/util/NoSuchElementException" M B1) 1 6 [.ref 0, .int (x)] SHF M) (x3 : B1 → P (.inr "java/util/NoSuchElementException") SHF M) (Q5 : Int32 → aM → Prop) (c6 : ∀ (b1 : ¬ B1), ∀ (h4 : ¬ (M.1 0 9 : Int32) = (Int32.ofInt (-1) : Int32)), AC l (pI pg 112) (fcI M Q5) 0 0 [.int (M.1 0 9), .int (x)] SHF M) (r7 : ∀ (b1 : ¬ B1), ∀ (h4 : ¬ (M.1 0 9 : Int32) = (Int32.ofInt (-1) : Int32)), ∀ (y5 : Int32), ∀ (M5 : aM), ∀ (e5 : M5.2.2 = M.2.2), ∀ (q5 : Q5 y5 M5), P (.inl (some (.int (y5)))) SHF M5) (x8 : ∀ (b1 : ¬ B1), ∀ (h4 : (M.1 0 9 : Int32) = (Int32.ofInt (-1) : Int32)), P (.inr "java/util/NoSuchElementException") SHF M) : AW l (pI pg 111) P (kc + 1 + 1) (ks + 6 + 6) 0 [(0, .ref 0), (1, .int (x))] [] SHF M := by
  refine AW.aload_n (dq rfl) rfl rfl ?_
  show AW l (pI pg 111) P (kc + 1 + 1) (ks + 6 + 6) 1 _ _ SHF _
  refine AW.iload_n (dq rfl) rfl ?_
  show AW l (pI pg 111) P (kc + 1 + 1) (ks + 6 + 6) 2 _ _ SHF _
  refine fw_tcV (as := [.int (x)]) (dq rfl) (pg_ok.2.2.1 111 _ _ _ _ rfl) rfl (by decide +kernel) rfl rfl (c2) (by decide +kernel) (x3) (fun b1 => ?_)
  show AW l (pI pg 111) P (kc + 1) (ks + 6) 5 [(0, .ref 0), (1, .int (x))] [] SHF _
  refine AW.aload_n (dq rfl) rfl rfl ?_
  show AW l (pI pg 111) P (kc + 1) (ks + 6) 6 _ _ SHF _
  refine fw_get (dq rfl) (pg_ok.2.1 111 _ _ _ _ rfl) rfl (v := .int (M.1 0 9)) rfl ?_
  show AW l (pI pg 111) P (kc + 1) (ks + 6) 9 _ _ SHF _
  refine AW.iconst (dq rfl) ?_
  show AW l (pI pg 111) P (kc + 1) (ks + 6) 10 _ _ SHF _
  refine AW.icmp_ne (dq rfl) (tgt := 23) (by decide) (fun h4 => ?_) (fun h4 => ?_)
  · have _ := h4
    refine AW.aload_n (dq rfl) rfl rfl ?_
    show AW l (pI pg 111) P (kc + 1) (ks + 6) 24 _ _ SHF _
    refine fw_get (dq rfl) (pg_ok.2.1 111 _ _ _ _ rfl) rfl (v := .int (M.1 0 9)) rfl ?_
    show AW l (pI pg 111) P (kc + 1) (ks + 6) 27 _ _ SHF _
    refine AW.iload_n (dq rfl) rfl ?_
    show AW l (pI pg 111) P (kc + 1) (ks + 6) 28 _ _ SHF _
    refine fw_callSI (as := [.int (M.1 0 9), .int (x)]) (dq rfl) (pg_ok.2.2.1 111 _ _ _ _ rfl) (by decide +kernel) rfl rfl (c6 b1 h4) (fun y5 M5 e5 q5 => ?_)
    have hJ5 : ∀ e ∈ RR.2, M5.2.2 e.1 e.2.1 = e.2.2 := fun e he => by rw [e5]; exact hJ e he
    show AW l (pI pg 111) P (kc + 1) (ks + 6) 31 [(0, .ref 0), (1, .int (x))] [.int (y5)] SHF _
    refine AW.iret (dq rfl) rfl ?_
    exact r7 b1 h4 y5 M5 e5 q5
  · have _ := h4
    refine pg_ok.2.2.2.2.2.2.2.1 111 _ _ rfl _ _ _ _ _ _ _ ?_
    exact x8 b1 h4

theorem dosb_0 {l : aL} {P : aP} {kc ks : Nat} {x : Int32} {M : aM} (hJ : ∀ e ∈ RRS.2, M.2.2 e.1 e.2.1 = e.2.2) (hl0 : l.1.stackTraces = false) (B1 : Prop) (c2 : AC l (pI pg 93) (tcV "java/util/NoSuchElementException" M B1) 1 6 [.ref 0, .int (x)] SHF M) (x3 : B1 → P (.inr "java/util/NoSuchElementException") SHF M) (Q5 : Int32 → aM → Prop) (c6 : ∀ (b1 : ¬ B1), ∀ (h4 : ¬ (M.1 0 9 : Int32) = (Int32.ofInt (-1) : Int32)), AC l (pI pg 112) (fcI M Q5) 0 0 [.int (M.1 0 9), .int (x)] SHF M) (r7 : ∀ (b1 : ¬ B1), ∀ (h4 : ¬ (M.1 0 9 : Int32) = (Int32.ofInt (-1) : Int32)), ∀ (y5 : Int32), ∀ (M5 : aM), ∀ (e5 : M5.2.2 = M.2.2), ∀ (q5 : Q5 y5 M5), P (.inl (some (.int (y5)))) SHF M5) (x8 : ∀ (b1 : ¬ B1), ∀ (h4 : (M.1 0 9 : Int32) = (Int32.ofInt (-1) : Int32)), P (.inr "java/util/NoSuchElementException") SHF M) : AW l (pI pg 111) P (kc + 1 + 1) (ks + 6 + 6) 0 [(0, .ref 0), (1, .int (x))] [] SHF M := by
  refine AW.aload_n (dq rfl) rfl rfl ?_
  show AW l (pI pg 111) P (kc + 1 + 1) (ks + 6 + 6) 1 _ _ SHF _
  refine AW.iload_n (dq rfl) rfl ?_
  show AW l (pI pg 111) P (kc + 1 + 1) (ks + 6 + 6) 2 _ _ SHF _
  refine fw_tcV (as := [.int (x)]) (dq rfl) (pg_ok.2.2.1 111 _ _ _ _ rfl) rfl (by decide +kernel) rfl rfl (c2) (by decide +kernel) (x3) (fun b1 => ?_)
  show AW l (pI pg 111) P (kc + 1) (ks + 6) 5 [(0, .ref 0), (1, .int (x))] [] SHF _
  refine AW.aload_n (dq rfl) rfl rfl ?_
  show AW l (pI pg 111) P (kc + 1) (ks + 6) 6 _ _ SHF _
  refine fw_get (dq rfl) (pg_ok.2.1 111 _ _ _ _ rfl) rfl (v := .int (M.1 0 9)) rfl ?_
  show AW l (pI pg 111) P (kc + 1) (ks + 6) 9 _ _ SHF _
  refine AW.iconst (dq rfl) ?_
  show AW l (pI pg 111) P (kc + 1) (ks + 6) 10 _ _ SHF _
  refine AW.icmp_ne (dq rfl) (tgt := 23) (by decide) (fun h4 => ?_) (fun h4 => ?_)
  · have _ := h4
    refine AW.aload_n (dq rfl) rfl rfl ?_
    show AW l (pI pg 111) P (kc + 1) (ks + 6) 24 _ _ SHF _
    refine fw_get (dq rfl) (pg_ok.2.1 111 _ _ _ _ rfl) rfl (v := .int (M.1 0 9)) rfl ?_
    show AW l (pI pg 111) P (kc + 1) (ks + 6) 27 _ _ SHF _
    refine AW.iload_n (dq rfl) rfl ?_
    show AW l (pI pg 111) P (kc + 1) (ks + 6) 28 _ _ SHF _
    refine fw_callSI (as := [.int (M.1 0 9), .int (x)]) (dq rfl) (pg_ok.2.2.1 111 _ _ _ _ rfl) (by decide +kernel) rfl rfl (c6 b1 h4) (fun y5 M5 e5 q5 => ?_)
    have hJ5 : ∀ e ∈ RRS.2, M5.2.2 e.1 e.2.1 = e.2.2 := fun e he => by rw [e5]; exact hJ e he
    show AW l (pI pg 111) P (kc + 1) (ks + 6) 31 [(0, .ref 0), (1, .int (x))] [.int (y5)] SHF _
    refine AW.iret (dq rfl) rfl ?_
    exact r7 b1 h4 y5 M5 e5 q5
  · have _ := h4
    refine pg_ok.2.2.2.2.2.2.2.1 111 _ _ rfl _ _ _ _ _ _ _ ?_
    exact x8 b1 h4

theorem mds_0 {l : aL} {P : aP} {kc ks : Nat} {x : Int32} {M : aM} (hJ : ∀ e ∈ RM, M.2.2 e.1 e.2.1 = e.2.2) (hl0 : l.1.stackTraces = false) (Q1 : Int32 → aM → Prop) (c2 : AC l (pI pg 199) (fcI (aset M 58 0 (.int (Int32.ofInt 0))) Q1) 0 0 [.ref 58, .int (x)] SHF (aset M 58 0 (.int (Int32.ofInt 0)))) (r4 : ∀ (y1 : Int32), ∀ (M1 : aM), ∀ (e1 : M1.2.2 = (aset M 58 0 (.int (Int32.ofInt 0))).2.2), ∀ (q1 : Q1 y1 M1), ∀ (h3 : (y1 : Int32) = 0), P (.inl (some (.int (Int32.ofInt 0)))) SHF M1) (Q5 : Int32 → aM → Int32 → aM → Prop) (c6 : ∀ (y1 : Int32), ∀ (M1 : aM), ∀ (e1 : M1.2.2 = (aset M 58 0 (.int (Int32.ofInt 0))).2.2), ∀ (q1 : Q1 y1 M1), ∀ (h3 : ¬ ((y1 : Int32) = 0)), AC l (pI pg 175) (fcI M1 (Q5 y1 M1)) 0 0 [.ref 58, .int (M1.1 58 45), .int (Int32.ofInt 1)] SHF M1) (r8 : ∀ (y1 : Int32), ∀ (M1 : aM), ∀ (e1 : M1.2.2 = (aset M 58 0 (.int (Int32.ofInt 0))).2.2), ∀ (q1 : Q1 y1 M1), ∀ (h3 : ¬ ((y1 : Int32) = 0)), ∀ (y5 : Int32), ∀ (M5 : aM), ∀ (e5 : M5.2.2 = M1.2.2), ∀ (q5 : (Q5 y1 M1) y5 M5), ∀ (h7 : (y5 : Int32) = 0), P (.inl (some (.int (Int32.ofInt 0)))) SHF M5) (o9 : ∀ (y1 : Int32), ∀ (M1 : aM), ∀ (e1 : M1.2.2 = (aset M 58 0 (.int (Int32.ofInt 0))).2.2), ∀ (q1 : Q1 y1 M1), ∀ (h3 : ¬ ((y1 : Int32) = 0)), ∀ (y5 : Int32), ∀ (M5 : aM), ∀ (e5 : M5.2.2 = M1.2.2), ∀ (q5 : (Q5 y1 M1) y5 M5), ∀ (h7 : ¬ ((y5 : Int32) = 0)), vp_in (x) 8) (r10 : ∀ (y1 : Int32), ∀ (M1 : aM), ∀ (e1 : M1.2.2 = (aset M 58 0 (.int (Int32.ofInt 0))).2.2), ∀ (q1 : Q1 y1 M1), ∀ (h3 : ¬ ((y1 : Int32) = 0)), ∀ (y5 : Int32), ∀ (M5 : aM), ∀ (e5 : M5.2.2 = M1.2.2), ∀ (q5 : (Q5 y1 M1) y5 M5), ∀ (h7 : ¬ ((y5 : Int32) = 0)), P (.inl (some (.int (M5.1 79 (x).toNatClampNeg)))) SHF M5) : AW l (pI pg 214) P kc ks 0 [(0, .ref 58), (1, .int (x))] [] SHF M := by
  refine AW.aload_n (dq rfl) rfl rfl ?_
  show AW l (pI pg 214) P kc ks 1 _ _ SHF _
  refine AW.iconst (dq rfl) ?_
  show AW l (pI pg 214) P kc ks 2 _ _ SHF _
  refine fw_putI (dq rfl) (pg_ok.2.1 214 _ _ _ _ rfl) rfl rfl rfl ?_
  show AW l (pI pg 214) P kc ks 5 _ _ SHF _
  refine AW.aload_n (dq rfl) rfl rfl ?_
  show AW l (pI pg 214) P kc ks 6 _ _ SHF _
  refine AW.iload_n (dq rfl) rfl ?_
  show AW l (pI pg 214) P kc ks 7 _ _ SHF _
  refine fw_callVI (as := [.int (x)]) (dq rfl) (pg_ok.2.2.1 214 _ _ _ _ rfl) rfl (by decide +kernel) rfl rfl (c2) (fun y1 M1 e1 q1 => ?_)
  have hJ1 : ∀ e ∈ RM, M1.2.2 e.1 e.2.1 = e.2.2 := fun e he => by rw [e1]; exact hJ e he
  show AW l (pI pg 214) P kc ks 10 [(0, .ref 58), (1, .int (x))] [.int (y1)] SHF _
  refine AW.if_eq (dq rfl) (tgt := 34) (by decide) (fun h3 => ?_) (fun h3 => ?_)
  · have _ := h3
    refine AW.iconst (dq rfl) ?_
    show AW l (pI pg 214) P kc ks 35 _ _ SHF _
    refine AW.iret (dq rfl) rfl ?_
    exact r4 y1 M1 e1 q1 h3
  · have _ := h3
    refine AW.aload_n (dq rfl) rfl rfl ?_
    show AW l (pI pg 214) P kc ks 14 _ _ SHF _
    refine AW.aload_n (dq rfl) rfl rfl ?_
    show AW l (pI pg 214) P kc ks 15 _ _ SHF _
    refine fw_get (dq rfl) (pg_ok.2.1 214 _ _ _ _ rfl) rfl (v := .int (M1.1 58 45)) rfl ?_
    show AW l (pI pg 214) P kc ks 18 _ _ SHF _
    refine AW.iconst (dq rfl) ?_
    show AW l (pI pg 214) P kc ks 19 _ _ SHF _
    refine fw_callVI (as := [.int (M1.1 58 45), .int (Int32.ofInt 1)]) (dq rfl) (pg_ok.2.2.1 214 _ _ _ _ rfl) rfl (by decide +kernel) rfl rfl (c6 y1 M1 e1 q1 h3) (fun y5 M5 e5 q5 => ?_)
    have hJ5 : ∀ e ∈ RM, M5.2.2 e.1 e.2.1 = e.2.2 := fun e he => by rw [e5]; exact hJ1 e he
    show AW l (pI pg 214) P kc ks 22 [(0, .ref 58), (1, .int (x))] [.int (y5)] SHF _
    refine AW.if_eq (dq rfl) (tgt := 34) (by decide) (fun h7 => ?_) (fun h7 => ?_)
    · have _ := h7
      refine AW.iconst (dq rfl) ?_
      show AW l (pI pg 214) P kc ks 35 _ _ SHF _
      refine AW.iret (dq rfl) rfl ?_
      exact r8 y1 M1 e1 q1 h3 y5 M5 e5 q5 h7
    · have _ := h7
      refine AW.aload_n (dq rfl) rfl rfl ?_
      show AW l (pI pg 214) P kc ks 26 _ _ SHF _
      refine fw_get (dq rfl) (pg_ok.2.1 214 _ _ _ _ rfl) rfl (v := .ref 79) (isTA_ok rfl (rgR_ok hJ5 rfl)) ?_
      show AW l (pI pg 214) P kc ks 29 _ _ SHF _
      refine AW.iload_n (dq rfl) rfl ?_
      show AW l (pI pg 214) P kc ks 30 _ _ SHF _
      refine AW.iald (dq rfl) rfl (o9 y1 M1 e1 q1 h3 y5 M5 e5 q5 h7) ?_
      show AW l (pI pg 214) P kc ks 31 _ _ SHF _
      refine AW.goto (dq rfl) (tgt := 35) (by decide) ?_
      refine AW.iret (dq rfl) rfl ?_
      exact r10 y1 M1 e1 q1 h3 y5 M5 e5 q5 h7

