/-! stretches of tell, often, seldom, printed by wip/gen/segs_q2.py -/
theorem tela_0 {l : aL} {P : aP} {kc ks : Nat} {x y : Int32} {M : aM} (hJ : ∀ e ∈ RR.2, M.2.2 e.1 e.2.1 = e.2.2) (hl0 : l.1.stackTraces = false) (o4 : ∀ (h3 : (hpV (M.1 4 1) (x) : Int32) = 0), vp_in (Int32.ofInt 1) 3) (r5 : ∀ (h3 : (hpV (M.1 4 1) (x) : Int32) = 0), P (.inl (some (.int (Int32.ofInt 0)))) SHF (aset M 57 (Int32.ofInt 1).toNatClampNeg (.int ((M.1 57 (Int32.ofInt 1).toNatClampNeg) + (Int32.ofInt 1))))) (o7 : ∀ (h3 : ¬ ((hpV (M.1 4 1) (x) : Int32) = 0)), ∀ (h6 : ¬ (hpV (M.1 4 0) (y) : Int32) = 0), vp_in (x) 8) (r8 : ∀ (h3 : ¬ ((hpV (M.1 4 1) (x) : Int32) = 0)), ∀ (h6 : ¬ (hpV (M.1 4 0) (y) : Int32) = 0), P (.inl (some (.int (Int32.ofInt 1)))) SHF (aset M 48 (x).toNatClampNeg (.int (y)))) (o10 : ∀ (h3 : ¬ ((hpV (M.1 4 1) (x) : Int32) = 0)), ∀ (h6 : (hpV (M.1 4 0) (y) : Int32) = 0), ∀ (h9 : (y : Int32) = (Int32.ofInt (-1) : Int32)), vp_in (x) 8) (r11 : ∀ (h3 : ¬ ((hpV (M.1 4 1) (x) : Int32) = 0)), ∀ (h6 : (hpV (M.1 4 0) (y) : Int32) = 0), ∀ (h9 : (y : Int32) = (Int32.ofInt (-1) : Int32)), P (.inl (some (.int (Int32.ofInt 1)))) SHF (aset M 48 (x).toNatClampNeg (.int (y)))) (o12 : ∀ (h3 : ¬ ((hpV (M.1 4 1) (x) : Int32) = 0)), ∀ (h6 : (hpV (M.1 4 0) (y) : Int32) = 0), ∀ (h9 : ¬ ((y : Int32) = (Int32.ofInt (-1) : Int32))), vp_in (Int32.ofInt 1) 3) (r13 : ∀ (h3 : ¬ ((hpV (M.1 4 1) (x) : Int32) = 0)), ∀ (h6 : (hpV (M.1 4 0) (y) : Int32) = 0), ∀ (h9 : ¬ ((y : Int32) = (Int32.ofInt (-1) : Int32))), P (.inl (some (.int (Int32.ofInt 0)))) SHF (aset M 57 (Int32.ofInt 1).toNatClampNeg (.int ((M.1 57 (Int32.ofInt 1).toNatClampNeg) + (Int32.ofInt 1))))) : AW l (pI pg 27) P kc ks 0 [(0, .ref 0), (1, .int (x)), (2, .int (y))] [] SHF M := by
  refine AW.aload_n (dq rfl) rfl rfl ?_
  show AW l (pI pg 27) P kc ks 1 _ _ SHF _
  refine fw_get (dq rfl) (pg_ok.2.1 27 _ _ _ _ rfl) rfl (v := .ref 4) (isTA_ok rfl (rgR_ok hJ rfl)) ?_
  show AW l (pI pg 27) P kc ks 4 _ _ SHF _
  refine AW.iload_n (dq rfl) rfl ?_
  show AW l (pI pg 27) P kc ks 5 _ _ SHF _
  refine fw_callVI (as := [.int (y)]) (dq rfl) (pg_ok.2.2.1 27 _ _ _ _ rfl) rfl (by decide +kernel) rfl rfl (hpeA_c hl0 (fun e he => hJ e (rk_RR e he))) (fun y1 M1 e1 q1 => ?_)
  obtain ⟨rfl, rfl⟩ := q1
  show AW l (pI pg 27) P kc ks 8 [(0, .ref 0), (1, .int (x)), (2, .int (y))] [.int (hpV (M.1 4 0) (y))] SHF _
  refine AW.istore_n (dq rfl) (by decide +kernel) ?_
  show AW l (pI pg 27) P kc ks 9 [(3, .int (hpV (M.1 4 0) (y))), (0, .ref 0), (1, .int (x)), (2, .int (y))] [] SHF _
  refine AW.aload_n (dq rfl) rfl rfl ?_
  show AW l (pI pg 27) P kc ks 10 _ _ SHF _
  refine fw_get (dq rfl) (pg_ok.2.1 27 _ _ _ _ rfl) rfl (v := .ref 4) (isTA_ok rfl (rgR_ok hJ rfl)) ?_
  show AW l (pI pg 27) P kc ks 13 _ _ SHF _
  refine AW.iload_n (dq rfl) rfl ?_
  show AW l (pI pg 27) P kc ks 14 _ _ SHF _
  refine fw_callVI (as := [.int (x)]) (dq rfl) (pg_ok.2.2.1 27 _ _ _ _ rfl) rfl (by decide +kernel) rfl rfl (hwoA_c hl0 (fun e he => hJ e (rk_RR e he))) (fun y2 M2 e2 q2 => ?_)
  obtain ⟨rfl, rfl⟩ := q2
  show AW l (pI pg 27) P kc ks 17 [(3, .int (hpV (M.1 4 0) (y))), (0, .ref 0), (1, .int (x)), (2, .int (y))] [.int (hpV (M.1 4 1) (x))] SHF _
  refine AW.if_eq (dq rfl) (tgt := 29) (by decide) (fun h3 => ?_) (fun h3 => ?_)
  · have _ := h3
    refine AW.aload_n (dq rfl) rfl rfl ?_
    show AW l (pI pg 27) P kc ks 30 _ _ SHF _
    refine fw_get (dq rfl) (pg_ok.2.1 27 _ _ _ _ rfl) rfl (v := .ref 57) (isTA_ok rfl (rgR_ok hJ rfl)) ?_
    show AW l (pI pg 27) P kc ks 33 _ _ SHF _
    refine AW.iconst (dq rfl) ?_
    show AW l (pI pg 27) P kc ks 34 _ _ SHF _
    refine AW.dup2_11 (dq rfl) rfl rfl ?_
    show AW l (pI pg 27) P kc ks 35 _ _ SHF _
    refine AW.iald (dq rfl) rfl (o4 h3) ?_
    show AW l (pI pg 27) P kc ks 36 _ _ SHF _
    refine AW.iconst (dq rfl) ?_
    show AW l (pI pg 27) P kc ks 37 _ _ SHF _
    refine AW.iadd (dq rfl) ?_
    show AW l (pI pg 27) P kc ks 38 _ _ SHF _
    refine AW.iast (dq rfl) rfl (o4 h3) ?_
    show AW l (pI pg 27) P kc ks 39 _ _ SHF _
    refine AW.iconst (dq rfl) ?_
    show AW l (pI pg 27) P kc ks 40 _ _ SHF _
    refine AW.zret (dq rfl) rfl (by decide) ?_
    exact r5 h3
  · have _ := h3
    refine AW.iload_n (dq rfl) rfl ?_
    show AW l (pI pg 27) P kc ks 21 _ _ SHF _
    refine AW.if_ne (dq rfl) (tgt := 41) (by decide) (fun h6 => ?_) (fun h6 => ?_)
    · have _ := h6
      refine AW.aload_n (dq rfl) rfl rfl ?_
      show AW l (pI pg 27) P kc ks 42 _ _ SHF _
      refine fw_get (dq rfl) (pg_ok.2.1 27 _ _ _ _ rfl) rfl (v := .ref 48) (isTA_ok rfl (rgR_ok hJ rfl)) ?_
      show AW l (pI pg 27) P kc ks 45 _ _ SHF _
      refine AW.iload_n (dq rfl) rfl ?_
      show AW l (pI pg 27) P kc ks 46 _ _ SHF _
      refine AW.iload_n (dq rfl) rfl ?_
      show AW l (pI pg 27) P kc ks 47 _ _ SHF _
      refine AW.iast (dq rfl) rfl (o7 h3 h6) ?_
      show AW l (pI pg 27) P kc ks 48 _ _ SHF _
      refine AW.iconst (dq rfl) ?_
      show AW l (pI pg 27) P kc ks 49 _ _ SHF _
      refine AW.zret (dq rfl) rfl (by decide) ?_
      exact r8 h3 h6
    · have _ := h6
      refine AW.iload_n (dq rfl) rfl ?_
      show AW l (pI pg 27) P kc ks 25 _ _ SHF _
      refine AW.iconst (dq rfl) ?_
      show AW l (pI pg 27) P kc ks 26 _ _ SHF _
      refine AW.icmp_eq (dq rfl) (tgt := 41) (by decide) (fun h9 => ?_) (fun h9 => ?_)
      · have _ := h9
        refine AW.aload_n (dq rfl) rfl rfl ?_
        show AW l (pI pg 27) P kc ks 42 _ _ SHF _
        refine fw_get (dq rfl) (pg_ok.2.1 27 _ _ _ _ rfl) rfl (v := .ref 48) (isTA_ok rfl (rgR_ok hJ rfl)) ?_
        show AW l (pI pg 27) P kc ks 45 _ _ SHF _
        refine AW.iload_n (dq rfl) rfl ?_
        show AW l (pI pg 27) P kc ks 46 _ _ SHF _
        refine AW.iload_n (dq rfl) rfl ?_
        show AW l (pI pg 27) P kc ks 47 _ _ SHF _
        refine AW.iast (dq rfl) rfl (o10 h3 h6 h9) ?_
        show AW l (pI pg 27) P kc ks 48 _ _ SHF _
        refine AW.iconst (dq rfl) ?_
        show AW l (pI pg 27) P kc ks 49 _ _ SHF _
        refine AW.zret (dq rfl) rfl (by decide) ?_
        exact r11 h3 h6 h9
      · have _ := h9
        refine AW.aload_n (dq rfl) rfl rfl ?_
        show AW l (pI pg 27) P kc ks 30 _ _ SHF _
        refine fw_get (dq rfl) (pg_ok.2.1 27 _ _ _ _ rfl) rfl (v := .ref 57) (isTA_ok rfl (rgR_ok hJ rfl)) ?_
        show AW l (pI pg 27) P kc ks 33 _ _ SHF _
        refine AW.iconst (dq rfl) ?_
        show AW l (pI pg 27) P kc ks 34 _ _ SHF _
        refine AW.dup2_11 (dq rfl) rfl rfl ?_
        show AW l (pI pg 27) P kc ks 35 _ _ SHF _
        refine AW.iald (dq rfl) rfl (o12 h3 h6 h9) ?_
        show AW l (pI pg 27) P kc ks 36 _ _ SHF _
        refine AW.iconst (dq rfl) ?_
        show AW l (pI pg 27) P kc ks 37 _ _ SHF _
        refine AW.iadd (dq rfl) ?_
        show AW l (pI pg 27) P kc ks 38 _ _ SHF _
        refine AW.iast (dq rfl) rfl (o12 h3 h6 h9) ?_
        show AW l (pI pg 27) P kc ks 39 _ _ SHF _
        refine AW.iconst (dq rfl) ?_
        show AW l (pI pg 27) P kc ks 40 _ _ SHF _
        refine AW.zret (dq rfl) rfl (by decide) ?_
        exact r13 h3 h6 h9

theorem ofta_0 {l : aL} {P : aP} {kc ks : Nat} {x y : Int32} {M : aM} (hJ : ∀ e ∈ RR.2, M.2.2 e.1 e.2.1 = e.2.2) (hl0 : l.1.stackTraces = false) (B1 : Prop) (c2 : AC l (pI pg 90) (tcV "java/util/NoSuchElementException" M B1) 1 6 [.ref 0, .int (x)] SHF M) (x3 : B1 → P (.inr "java/util/NoSuchElementException") SHF M) (x5 : ∀ (b1 : ¬ B1), ∀ (h4 : (y : Int32) < 0), P (.inr "java/lang/IllegalArgumentException") SHF M) (o7 : ∀ (b1 : ¬ B1), ∀ (h4 : ¬ ((y : Int32) < 0)), ∀ (h6 : (y : Int32) ≤ ((Int16.ofInt 1000).toInt32 : Int32)), vp_in (x) 6) (k9 : ∀ (b1 : ¬ B1), ∀ (h4 : ¬ ((y : Int32) < 0)), ∀ (h6 : (y : Int32) ≤ ((Int16.ofInt 1000).toInt32 : Int32)), ∀ (h8 : ¬ (M.1 6 (x).toNatClampNeg : Int32) = 0), AW l (pI pg 152) P (kc + 1) (ks + 6) 53 [(5, .int (Int32.ofInt 0)), (4, .int ((M.1 6 (x).toNatClampNeg) * ((Int16.ofInt 1000).toInt32))), (3, .int (M.1 6 (x).toNatClampNeg)), (2, .int (y)), (1, .int (x)), (0, .ref 0)] [] SHF M) (r10 : ∀ (b1 : ¬ B1), ∀ (h4 : ¬ ((y : Int32) < 0)), ∀ (h6 : (y : Int32) ≤ ((Int16.ofInt 1000).toInt32 : Int32)), ∀ (h8 : (M.1 6 (x).toNatClampNeg : Int32) = 0), P (.inl (some (.int (Int32.ofInt 0)))) SHF M) (x11 : ∀ (b1 : ¬ B1), ∀ (h4 : ¬ ((y : Int32) < 0)), ∀ (h6 : ¬ ((y : Int32) ≤ ((Int16.ofInt 1000).toInt32 : Int32))), P (.inr "java/lang/IllegalArgumentException") SHF M) : AW l (pI pg 152) P (kc + 1 + 1) (ks + 6 + 6) 0 [(0, .ref 0), (1, .int (x)), (2, .int (y))] [] SHF M := by
  refine AW.aload_n (dq rfl) rfl rfl ?_
  show AW l (pI pg 152) P (kc + 1 + 1) (ks + 6 + 6) 1 _ _ SHF _
  refine AW.iload_n (dq rfl) rfl ?_
  show AW l (pI pg 152) P (kc + 1 + 1) (ks + 6 + 6) 2 _ _ SHF _
  refine fw_tcV (as := [.int (x)]) (dq rfl) (pg_ok.2.2.1 152 _ _ _ _ rfl) rfl (by decide +kernel) rfl rfl (c2) (by decide +kernel) (x3) (fun b1 => ?_)
  show AW l (pI pg 152) P (kc + 1) (ks + 6) 5 [(0, .ref 0), (1, .int (x)), (2, .int (y))] [] SHF _
  refine AW.iload_n (dq rfl) rfl ?_
  show AW l (pI pg 152) P (kc + 1) (ks + 6) 6 _ _ SHF _
  refine AW.if_lt (dq rfl) (tgt := 16) (by decide) (fun h4 => ?_) (fun h4 => ?_)
  · have _ := h4
    refine pg_ok.2.2.2.2.2.2.2.1 152 _ _ rfl _ _ _ _ _ _ _ ?_
    exact x5 b1 h4
  · have _ := h4
    refine AW.iload_n (dq rfl) rfl ?_
    show AW l (pI pg 152) P (kc + 1) (ks + 6) 10 _ _ SHF _
    refine AW.sipush (dq rfl) ?_
    show AW l (pI pg 152) P (kc + 1) (ks + 6) 13 _ _ SHF _
    refine AW.icmp_le (dq rfl) (tgt := 27) (by decide) (fun h6 => ?_) (fun h6 => ?_)
    · have _ := h6
      refine AW.aload_n (dq rfl) rfl rfl ?_
      show AW l (pI pg 152) P (kc + 1) (ks + 6) 28 _ _ SHF _
      refine fw_get (dq rfl) (pg_ok.2.1 152 _ _ _ _ rfl) rfl (v := .ref 4) (isTA_ok rfl (rgR_ok hJ rfl)) ?_
      show AW l (pI pg 152) P (kc + 1) (ks + 6) 31 _ _ SHF _
      refine fw_get (dq rfl) (pg_ok.2.1 152 _ _ _ _ rfl) rfl (v := .ref 6) (isTA_ok rfl (rgR_ok hJ rfl)) ?_
      show AW l (pI pg 152) P (kc + 1) (ks + 6) 34 _ _ SHF _
      refine AW.iload_n (dq rfl) rfl ?_
      show AW l (pI pg 152) P (kc + 1) (ks + 6) 35 _ _ SHF _
      refine AW.iald (dq rfl) rfl (o7 b1 h4 h6) ?_
      show AW l (pI pg 152) P (kc + 1) (ks + 6) 36 _ _ SHF _
      refine AW.istore_n (dq rfl) (by decide +kernel) ?_
      show AW l (pI pg 152) P (kc + 1) (ks + 6) 37 [(3, .int (M.1 6 (x).toNatClampNeg)), (0, .ref 0), (1, .int (x)), (2, .int (y))] [] SHF _
      refine AW.iload_n (dq rfl) rfl ?_
      show AW l (pI pg 152) P (kc + 1) (ks + 6) 38 _ _ SHF _
      refine AW.if_ne (dq rfl) (tgt := 43) (by decide) (fun h8 => ?_) (fun h8 => ?_)
      · have _ := h8
        refine AW.iload_n (dq rfl) rfl ?_
        show AW l (pI pg 152) P (kc + 1) (ks + 6) 44 _ _ SHF _
        refine AW.sipush (dq rfl) ?_
        show AW l (pI pg 152) P (kc + 1) (ks + 6) 47 _ _ SHF _
        refine AW.imul (dq rfl) ?_
        show AW l (pI pg 152) P (kc + 1) (ks + 6) 48 _ _ SHF _
        refine AW.istore (dq rfl) (by decide +kernel) ?_
        show AW l (pI pg 152) P (kc + 1) (ks + 6) 50 [(4, .int ((M.1 6 (x).toNatClampNeg) * ((Int16.ofInt 1000).toInt32))), (3, .int (M.1 6 (x).toNatClampNeg)), (0, .ref 0), (1, .int (x)), (2, .int (y))] [] SHF _
        refine AW.iconst (dq rfl) ?_
        show AW l (pI pg 152) P (kc + 1) (ks + 6) 51 _ _ SHF _
        refine AW.istore (dq rfl) (by decide +kernel) ?_
        show AW l (pI pg 152) P (kc + 1) (ks + 6) 53 [(5, .int (Int32.ofInt 0)), (4, .int ((M.1 6 (x).toNatClampNeg) * ((Int16.ofInt 1000).toInt32))), (3, .int (M.1 6 (x).toNatClampNeg)), (0, .ref 0), (1, .int (x)), (2, .int (y))] [] SHF _
        refine AW.drop (lv' := [(5, .int (Int32.ofInt 0)), (4, .int ((M.1 6 (x).toNatClampNeg) * ((Int16.ofInt 1000).toInt32))), (3, .int (M.1 6 (x).toNatClampNeg)), (2, .int (y)), (1, .int (x)), (0, .ref 0)]) (List.forall_mem_cons.mpr ⟨List.mem_of_getElem? (i := 0) rfl, List.forall_mem_cons.mpr ⟨List.mem_of_getElem? (i := 1) rfl, List.forall_mem_cons.mpr ⟨List.mem_of_getElem? (i := 2) rfl, List.forall_mem_cons.mpr ⟨List.mem_of_getElem? (i := 5) rfl, List.forall_mem_cons.mpr ⟨List.mem_of_getElem? (i := 4) rfl, List.forall_mem_cons.mpr ⟨List.mem_of_getElem? (i := 3) rfl, fun _ h => absurd h List.not_mem_nil⟩⟩⟩⟩⟩⟩) ?_
        exact k9 b1 h4 h6 h8
      · have _ := h8
        refine AW.iconst (dq rfl) ?_
        show AW l (pI pg 152) P (kc + 1) (ks + 6) 42 _ _ SHF _
        refine AW.iret (dq rfl) rfl ?_
        exact r10 b1 h4 h6 h8
    · have _ := h6
      refine pg_ok.2.2.2.2.2.2.2.1 152 _ _ rfl _ _ _ _ _ _ _ ?_
      exact x11 b1 h4 h6

theorem ofta_53 {l : aL} {P : aP} {kc ks : Nat} {v w z x y : Int32} {M : aM} (hJ : ∀ e ∈ RR.2, M.2.2 e.1 e.2.1 = e.2.2) (hl0 : l.1.stackTraces = false) (r2 : ∀ (h1 : ((Int16.ofInt 1000).toInt32 : Int32) < (v : Int32)), P (.inl (some (.int (Int32.ofInt (-1))))) SHF M) (k4 : ∀ (h1 : ¬ (((Int16.ofInt 1000).toInt32 : Int32) < (v : Int32))), ∀ (h3 : ((y) * ((w) + ((((Int16.ofInt 1000).toInt32) - (z)) * (v))) : Int32) < ((w) * ((Int16.ofInt 1000).toInt32) : Int32)), AW l (pI pg 152) P kc ks 53 [(5, .int ((v) + Int32.ofInt 1)), (4, .int (w)), (3, .int (z)), (2, .int (y)), (1, .int (x)), (0, .ref 0)] [] SHF M) (r5 : ∀ (h1 : ¬ (((Int16.ofInt 1000).toInt32 : Int32) < (v : Int32))), ∀ (h3 : ¬ (((y) * ((w) + ((((Int16.ofInt 1000).toInt32) - (z)) * (v))) : Int32) < ((w) * ((Int16.ofInt 1000).toInt32) : Int32))), P (.inl (some (.int (v)))) SHF M) : AW l (pI pg 152) P kc ks 53 [(5, .int (v)), (4, .int (w)), (3, .int (z)), (2, .int (y)), (1, .int (x)), (0, .ref 0)] [] SHF M := by
  refine AW.iload (dq rfl) rfl ?_
  show AW l (pI pg 152) P kc ks 55 _ _ SHF _
  refine AW.sipush (dq rfl) ?_
  show AW l (pI pg 152) P kc ks 58 _ _ SHF _
  refine AW.icmp_gt (dq rfl) (tgt := 96) (by decide) (fun h1 => ?_) (fun h1 => ?_)
  · have _ := h1
    refine AW.iconst (dq rfl) ?_
    show AW l (pI pg 152) P kc ks 97 _ _ SHF _
    refine AW.iret (dq rfl) rfl ?_
    exact r2 h1
  · have _ := h1
    refine AW.iload (dq rfl) rfl ?_
    show AW l (pI pg 152) P kc ks 63 _ _ SHF _
    refine AW.sipush (dq rfl) ?_
    show AW l (pI pg 152) P kc ks 66 _ _ SHF _
    refine AW.iload_n (dq rfl) rfl ?_
    show AW l (pI pg 152) P kc ks 67 _ _ SHF _
    refine AW.isub (dq rfl) ?_
    show AW l (pI pg 152) P kc ks 68 _ _ SHF _
    refine AW.iload (dq rfl) rfl ?_
    show AW l (pI pg 152) P kc ks 70 _ _ SHF _
    refine AW.imul (dq rfl) ?_
    show AW l (pI pg 152) P kc ks 71 _ _ SHF _
    refine AW.iadd (dq rfl) ?_
    show AW l (pI pg 152) P kc ks 72 _ _ SHF _
    refine AW.istore (dq rfl) (by decide +kernel) ?_
    show AW l (pI pg 152) P kc ks 74 [(6, .int ((w) + ((((Int16.ofInt 1000).toInt32) - (z)) * (v)))), (5, .int (v)), (4, .int (w)), (3, .int (z)), (2, .int (y)), (1, .int (x)), (0, .ref 0)] [] SHF _
    refine AW.iload (dq rfl) rfl ?_
    show AW l (pI pg 152) P kc ks 76 _ _ SHF _
    refine AW.sipush (dq rfl) ?_
    show AW l (pI pg 152) P kc ks 79 _ _ SHF _
    refine AW.imul (dq rfl) ?_
    show AW l (pI pg 152) P kc ks 80 _ _ SHF _
    refine AW.iload_n (dq rfl) rfl ?_
    show AW l (pI pg 152) P kc ks 81 _ _ SHF _
    refine AW.iload (dq rfl) rfl ?_
    show AW l (pI pg 152) P kc ks 83 _ _ SHF _
    refine AW.imul (dq rfl) ?_
    show AW l (pI pg 152) P kc ks 84 _ _ SHF _
    refine AW.icmp_gt (dq rfl) (tgt := 90) (by decide) (fun h3 => ?_) (fun h3 => ?_)
    · have _ := h3
      refine AW.iinc (dq rfl) rfl (by decide +kernel) ?_
      show AW l (pI pg 152) P kc ks 93 [(5, .int ((v) + Int32.ofInt 1)), (6, .int ((w) + ((((Int16.ofInt 1000).toInt32) - (z)) * (v)))), (4, .int (w)), (3, .int (z)), (2, .int (y)), (1, .int (x)), (0, .ref 0)] [] SHF _
      refine AW.goto (dq rfl) (tgt := 53) (by decide) ?_
      refine AW.drop (lv' := [(5, .int ((v) + Int32.ofInt 1)), (4, .int (w)), (3, .int (z)), (2, .int (y)), (1, .int (x)), (0, .ref 0)]) (List.forall_mem_cons.mpr ⟨List.mem_of_getElem? (i := 0) rfl, List.forall_mem_cons.mpr ⟨List.mem_of_getElem? (i := 2) rfl, List.forall_mem_cons.mpr ⟨List.mem_of_getElem? (i := 3) rfl, List.forall_mem_cons.mpr ⟨List.mem_of_getElem? (i := 4) rfl, List.forall_mem_cons.mpr ⟨List.mem_of_getElem? (i := 5) rfl, List.forall_mem_cons.mpr ⟨List.mem_of_getElem? (i := 6) rfl, fun _ h => absurd h List.not_mem_nil⟩⟩⟩⟩⟩⟩) ?_
      exact k4 h1 h3
    · have _ := h3
      refine AW.iload (dq rfl) rfl ?_
      show AW l (pI pg 152) P kc ks 89 _ _ SHF _
      refine AW.iret (dq rfl) rfl ?_
      exact r5 h1 h3

theorem sela_0 {l : aL} {P : aP} {kc ks : Nat} {x y : Int32} {M : aM} (hJ : ∀ e ∈ RR.2, M.2.2 e.1 e.2.1 = e.2.2) (hl0 : l.1.stackTraces = false) (B1 : Prop) (c2 : AC l (pI pg 90) (tcV "java/util/NoSuchElementException" M B1) 1 6 [.ref 0, .int (x)] SHF M) (x3 : B1 → P (.inr "java/util/NoSuchElementException") SHF M) (x5 : ∀ (b1 : ¬ B1), ∀ (h4 : (y : Int32) < 0), P (.inr "java/lang/IllegalArgumentException") SHF M) (k7 : ∀ (b1 : ¬ B1), ∀ (h4 : ¬ ((y : Int32) < 0)), ∀ (h6 : (y : Int32) ≤ ((Int16.ofInt 5000).toInt32 : Int32)), AW l (pI pg 154) P (kc + 1) (ks + 6) 34 [(5, .int (Int32.ofInt 0)), (3, .long (1000000000)), (2, .int (y)), (1, .int (x)), (0, .ref 0)] [] SHF M) (x8 : ∀ (b1 : ¬ B1), ∀ (h4 : ¬ ((y : Int32) < 0)), ∀ (h6 : ¬ ((y : Int32) ≤ ((Int16.ofInt 5000).toInt32 : Int32))), P (.inr "java/lang/IllegalArgumentException") SHF M) : AW l (pI pg 154) P (kc + 1 + 1) (ks + 6 + 6) 0 [(0, .ref 0), (1, .int (x)), (2, .int (y))] [] SHF M := by
  refine AW.aload_n (dq rfl) rfl rfl ?_
  show AW l (pI pg 154) P (kc + 1 + 1) (ks + 6 + 6) 1 _ _ SHF _
  refine AW.iload_n (dq rfl) rfl ?_
  show AW l (pI pg 154) P (kc + 1 + 1) (ks + 6 + 6) 2 _ _ SHF _
  refine fw_tcV (as := [.int (x)]) (dq rfl) (pg_ok.2.2.1 154 _ _ _ _ rfl) rfl (by decide +kernel) rfl rfl (c2) (by decide +kernel) (x3) (fun b1 => ?_)
  show AW l (pI pg 154) P (kc + 1) (ks + 6) 5 [(0, .ref 0), (1, .int (x)), (2, .int (y))] [] SHF _
  refine AW.iload_n (dq rfl) rfl ?_
  show AW l (pI pg 154) P (kc + 1) (ks + 6) 6 _ _ SHF _
  refine AW.if_lt (dq rfl) (tgt := 16) (by decide) (fun h4 => ?_) (fun h4 => ?_)
  · have _ := h4
    refine pg_ok.2.2.2.2.2.2.2.1 154 _ _ rfl _ _ _ _ _ _ _ ?_
    exact x5 b1 h4
  · have _ := h4
    refine AW.iload_n (dq rfl) rfl ?_
    show AW l (pI pg 154) P (kc + 1) (ks + 6) 10 _ _ SHF _
    refine AW.sipush (dq rfl) ?_
    show AW l (pI pg 154) P (kc + 1) (ks + 6) 13 _ _ SHF _
    refine AW.icmp_le (dq rfl) (tgt := 27) (by decide) (fun h6 => ?_) (fun h6 => ?_)
    · have _ := h6
      refine AW.ldc2 (dq rfl) (pg_ok.2.2.2.2.2.1 154 _ 1000000000 rfl) ?_
      show AW l (pI pg 154) P (kc + 1) (ks + 6) 30 _ _ SHF _
      refine AW.lstore_n (dq rfl) (by decide +kernel) ?_
      show AW l (pI pg 154) P (kc + 1) (ks + 6) 31 [(3, .long (1000000000)), (0, .ref 0), (1, .int (x)), (2, .int (y))] [] SHF _
      refine AW.iconst (dq rfl) ?_
      show AW l (pI pg 154) P (kc + 1) (ks + 6) 32 _ _ SHF _
      refine AW.istore (dq rfl) (by decide +kernel) ?_
      show AW l (pI pg 154) P (kc + 1) (ks + 6) 34 [(5, .int (Int32.ofInt 0)), (3, .long (1000000000)), (0, .ref 0), (1, .int (x)), (2, .int (y))] [] SHF _
      refine AW.drop (lv' := [(5, .int (Int32.ofInt 0)), (3, .long (1000000000)), (2, .int (y)), (1, .int (x)), (0, .ref 0)]) (List.forall_mem_cons.mpr ⟨List.mem_of_getElem? (i := 0) rfl, List.forall_mem_cons.mpr ⟨List.mem_of_getElem? (i := 1) rfl, List.forall_mem_cons.mpr ⟨List.mem_of_getElem? (i := 4) rfl, List.forall_mem_cons.mpr ⟨List.mem_of_getElem? (i := 3) rfl, List.forall_mem_cons.mpr ⟨List.mem_of_getElem? (i := 2) rfl, fun _ h => absurd h List.not_mem_nil⟩⟩⟩⟩⟩) ?_
      exact k7 b1 h4 h6
    · have _ := h6
      refine pg_ok.2.2.2.2.2.2.2.1 154 _ _ rfl _ _ _ _ _ _ _ ?_
      exact x8 b1 h4 h6

theorem sela_34 {l : aL} {P : aP} {kc ks : Nat} {v x y : Int32} {w : Int64} {M : aM} (hJ : ∀ e ∈ RR.2, M.2.2 e.1 e.2.1 = e.2.2) (hl0 : l.1.stackTraces = false) (r2 : ∀ (h1 : (y : Int32) ≤ (v : Int32)), P (.inl (some (.int ((w).toInt32)))) SHF M) (o3 : ∀ (h1 : ¬ ((y : Int32) ≤ (v : Int32))), vp_in (x) 6) (d4 : ∀ (h1 : ¬ ((y : Int32) ≤ (v : Int32))), ¬ (1000) = (0 : Int64)) (k5 : ∀ (h1 : ¬ ((y : Int32) ≤ (v : Int32))), AW l (pI pg 154) P kc ks 34 [(5, .int ((v) + Int32.ofInt 1)), (3, .long (((w) * ((((Int16.ofInt 1000).toInt32) - (M.1 6 (x).toNatClampNeg)).toInt64)) / (1000))), (2, .int (y)), (1, .int (x)), (0, .ref 0)] [] SHF M) : AW l (pI pg 154) P kc ks 34 [(5, .int (v)), (3, .long (w)), (2, .int (y)), (1, .int (x)), (0, .ref 0)] [] SHF M := by
  refine AW.iload (dq rfl) rfl ?_
  show AW l (pI pg 154) P kc ks 36 _ _ SHF _
  refine AW.iload_n (dq rfl) rfl ?_
  show AW l (pI pg 154) P kc ks 37 _ _ SHF _
  refine AW.icmp_ge (dq rfl) (tgt := 67) (by decide) (fun h1 => ?_) (fun h1 => ?_)
  · have _ := h1
    refine AW.lload_n (dq rfl) rfl ?_
    show AW l (pI pg 154) P kc ks 68 _ _ SHF _
    refine AW.l2i (dq rfl) ?_
    show AW l (pI pg 154) P kc ks 69 _ _ SHF _
    refine AW.iret (dq rfl) rfl ?_
    exact r2 h1
  · have _ := h1
    refine AW.lload_n (dq rfl) rfl ?_
    show AW l (pI pg 154) P kc ks 41 _ _ SHF _
    refine AW.sipush (dq rfl) ?_
    show AW l (pI pg 154) P kc ks 44 _ _ SHF _
    refine AW.aload_n (dq rfl) rfl rfl ?_
    show AW l (pI pg 154) P kc ks 45 _ _ SHF _
    refine fw_get (dq rfl) (pg_ok.2.1 154 _ _ _ _ rfl) rfl (v := .ref 4) (isTA_ok rfl (rgR_ok hJ rfl)) ?_
    show AW l (pI pg 154) P kc ks 48 _ _ SHF _
    refine fw_get (dq rfl) (pg_ok.2.1 154 _ _ _ _ rfl) rfl (v := .ref 6) (isTA_ok rfl (rgR_ok hJ rfl)) ?_
    show AW l (pI pg 154) P kc ks 51 _ _ SHF _
    refine AW.iload_n (dq rfl) rfl ?_
    show AW l (pI pg 154) P kc ks 52 _ _ SHF _
    refine AW.iald (dq rfl) rfl (o3 h1) ?_
    show AW l (pI pg 154) P kc ks 53 _ _ SHF _
    refine AW.isub (dq rfl) ?_
    show AW l (pI pg 154) P kc ks 54 _ _ SHF _
    refine AW.i2l (dq rfl) ?_
    show AW l (pI pg 154) P kc ks 55 _ _ SHF _
    refine AW.lmul (dq rfl) ?_
    show AW l (pI pg 154) P kc ks 56 _ _ SHF _
    refine AW.ldc2 (dq rfl) (pg_ok.2.2.2.2.2.1 154 _ 1000 rfl) ?_
    show AW l (pI pg 154) P kc ks 59 _ _ SHF _
    refine AW.ldiv (dq rfl) (d4 h1) ?_
    show AW l (pI pg 154) P kc ks 60 _ _ SHF _
    refine AW.lstore_n (dq rfl) (by decide +kernel) ?_
    show AW l (pI pg 154) P kc ks 61 [(3, .long (((w) * ((((Int16.ofInt 1000).toInt32) - (M.1 6 (x).toNatClampNeg)).toInt64)) / (1000))), (5, .int (v)), (2, .int (y)), (1, .int (x)), (0, .ref 0)] [] SHF _
    refine AW.iinc (dq rfl) rfl (by decide +kernel) ?_
    show AW l (pI pg 154) P kc ks 64 [(5, .int ((v) + Int32.ofInt 1)), (3, .long (((w) * ((((Int16.ofInt 1000).toInt32) - (M.1 6 (x).toNatClampNeg)).toInt64)) / (1000))), (2, .int (y)), (1, .int (x)), (0, .ref 0)] [] SHF _
    refine AW.goto (dq rfl) (tgt := 34) (by decide) ?_
    refine AW.drop (lv' := [(5, .int ((v) + Int32.ofInt 1)), (3, .long (((w) * ((((Int16.ofInt 1000).toInt32) - (M.1 6 (x).toNatClampNeg)).toInt64)) / (1000))), (2, .int (y)), (1, .int (x)), (0, .ref 0)]) (List.forall_mem_cons.mpr ⟨List.mem_of_getElem? (i := 0) rfl, List.forall_mem_cons.mpr ⟨List.mem_of_getElem? (i := 1) rfl, List.forall_mem_cons.mpr ⟨List.mem_of_getElem? (i := 2) rfl, List.forall_mem_cons.mpr ⟨List.mem_of_getElem? (i := 3) rfl, List.forall_mem_cons.mpr ⟨List.mem_of_getElem? (i := 4) rfl, fun _ h => absurd h List.not_mem_nil⟩⟩⟩⟩⟩) ?_
    exact k5 h1

theorem telb_0 {l : aL} {P : aP} {kc ks : Nat} {x y : Int32} {M : aM} (hJ : ∀ e ∈ RRS.2, M.2.2 e.1 e.2.1 = e.2.2) (hl0 : l.1.stackTraces = false) (o4 : ∀ (h3 : (hpV (M.1 17 1) (x) : Int32) = 0), vp_in (Int32.ofInt 1) 3) (r5 : ∀ (h3 : (hpV (M.1 17 1) (x) : Int32) = 0), P (.inl (some (.int (Int32.ofInt 0)))) SHF (aset M 57 (Int32.ofInt 1).toNatClampNeg (.int ((M.1 57 (Int32.ofInt 1).toNatClampNeg) + (Int32.ofInt 1))))) (o7 : ∀ (h3 : ¬ ((hpV (M.1 17 1) (x) : Int32) = 0)), ∀ (h6 : ¬ (hpV (M.1 17 0) (y) : Int32) = 0), vp_in (x) 8) (r8 : ∀ (h3 : ¬ ((hpV (M.1 17 1) (x) : Int32) = 0)), ∀ (h6 : ¬ (hpV (M.1 17 0) (y) : Int32) = 0), P (.inl (some (.int (Int32.ofInt 1)))) SHF (aset M 48 (x).toNatClampNeg (.int (y)))) (o10 : ∀ (h3 : ¬ ((hpV (M.1 17 1) (x) : Int32) = 0)), ∀ (h6 : (hpV (M.1 17 0) (y) : Int32) = 0), ∀ (h9 : (y : Int32) = (Int32.ofInt (-1) : Int32)), vp_in (x) 8) (r11 : ∀ (h3 : ¬ ((hpV (M.1 17 1) (x) : Int32) = 0)), ∀ (h6 : (hpV (M.1 17 0) (y) : Int32) = 0), ∀ (h9 : (y : Int32) = (Int32.ofInt (-1) : Int32)), P (.inl (some (.int (Int32.ofInt 1)))) SHF (aset M 48 (x).toNatClampNeg (.int (y)))) (o12 : ∀ (h3 : ¬ ((hpV (M.1 17 1) (x) : Int32) = 0)), ∀ (h6 : (hpV (M.1 17 0) (y) : Int32) = 0), ∀ (h9 : ¬ ((y : Int32) = (Int32.ofInt (-1) : Int32))), vp_in (Int32.ofInt 1) 3) (r13 : ∀ (h3 : ¬ ((hpV (M.1 17 1) (x) : Int32) = 0)), ∀ (h6 : (hpV (M.1 17 0) (y) : Int32) = 0), ∀ (h9 : ¬ ((y : Int32) = (Int32.ofInt (-1) : Int32))), P (.inl (some (.int (Int32.ofInt 0)))) SHF (aset M 57 (Int32.ofInt 1).toNatClampNeg (.int ((M.1 57 (Int32.ofInt 1).toNatClampNeg) + (Int32.ofInt 1))))) : AW l (pI pg 27) P kc ks 0 [(0, .ref 0), (1, .int (x)), (2, .int (y))] [] SHF M := by
  refine AW.aload_n (dq rfl) rfl rfl ?_
  show AW l (pI pg 27) P kc ks 1 _ _ SHF _
  refine fw_get (dq rfl) (pg_ok.2.1 27 _ _ _ _ rfl) rfl (v := .ref 17) (isTA_ok rfl (rgR_ok hJ rfl)) ?_
  show AW l (pI pg 27) P kc ks 4 _ _ SHF _
  refine AW.iload_n (dq rfl) rfl ?_
  show AW l (pI pg 27) P kc ks 5 _ _ SHF _
  refine fw_callVI (as := [.int (y)]) (dq rfl) (pg_ok.2.2.1 27 _ _ _ _ rfl) rfl (by decide +kernel) rfl rfl (hpeB_c hl0 (fun e he => hJ e (rk_RRS e he))) (fun y1 M1 e1 q1 => ?_)
  obtain ⟨rfl, rfl⟩ := q1
  show AW l (pI pg 27) P kc ks 8 [(0, .ref 0), (1, .int (x)), (2, .int (y))] [.int (hpV (M.1 17 0) (y))] SHF _
  refine AW.istore_n (dq rfl) (by decide +kernel) ?_
  show AW l (pI pg 27) P kc ks 9 [(3, .int (hpV (M.1 17 0) (y))), (0, .ref 0), (1, .int (x)), (2, .int (y))] [] SHF _
  refine AW.aload_n (dq rfl) rfl rfl ?_
  show AW l (pI pg 27) P kc ks 10 _ _ SHF _
  refine fw_get (dq rfl) (pg_ok.2.1 27 _ _ _ _ rfl) rfl (v := .ref 17) (isTA_ok rfl (rgR_ok hJ rfl)) ?_
  show AW l (pI pg 27) P kc ks 13 _ _ SHF _
  refine AW.iload_n (dq rfl) rfl ?_
  show AW l (pI pg 27) P kc ks 14 _ _ SHF _
  refine fw_callVI (as := [.int (x)]) (dq rfl) (pg_ok.2.2.1 27 _ _ _ _ rfl) rfl (by decide +kernel) rfl rfl (hwoB_c hl0 (fun e he => hJ e (rk_RRS e he))) (fun y2 M2 e2 q2 => ?_)
  obtain ⟨rfl, rfl⟩ := q2
  show AW l (pI pg 27) P kc ks 17 [(3, .int (hpV (M.1 17 0) (y))), (0, .ref 0), (1, .int (x)), (2, .int (y))] [.int (hpV (M.1 17 1) (x))] SHF _
  refine AW.if_eq (dq rfl) (tgt := 29) (by decide) (fun h3 => ?_) (fun h3 => ?_)
  · have _ := h3
    refine AW.aload_n (dq rfl) rfl rfl ?_
    show AW l (pI pg 27) P kc ks 30 _ _ SHF _
    refine fw_get (dq rfl) (pg_ok.2.1 27 _ _ _ _ rfl) rfl (v := .ref 57) (isTA_ok rfl (rgR_ok hJ rfl)) ?_
    show AW l (pI pg 27) P kc ks 33 _ _ SHF _
    refine AW.iconst (dq rfl) ?_
    show AW l (pI pg 27) P kc ks 34 _ _ SHF _
    refine AW.dup2_11 (dq rfl) rfl rfl ?_
    show AW l (pI pg 27) P kc ks 35 _ _ SHF _
    refine AW.iald (dq rfl) rfl (o4 h3) ?_
    show AW l (pI pg 27) P kc ks 36 _ _ SHF _
    refine AW.iconst (dq rfl) ?_
    show AW l (pI pg 27) P kc ks 37 _ _ SHF _
    refine AW.iadd (dq rfl) ?_
    show AW l (pI pg 27) P kc ks 38 _ _ SHF _
    refine AW.iast (dq rfl) rfl (o4 h3) ?_
    show AW l (pI pg 27) P kc ks 39 _ _ SHF _
    refine AW.iconst (dq rfl) ?_
    show AW l (pI pg 27) P kc ks 40 _ _ SHF _
    refine AW.zret (dq rfl) rfl (by decide) ?_
    exact r5 h3
  · have _ := h3
    refine AW.iload_n (dq rfl) rfl ?_
    show AW l (pI pg 27) P kc ks 21 _ _ SHF _
    refine AW.if_ne (dq rfl) (tgt := 41) (by decide) (fun h6 => ?_) (fun h6 => ?_)
    · have _ := h6
      refine AW.aload_n (dq rfl) rfl rfl ?_
      show AW l (pI pg 27) P kc ks 42 _ _ SHF _
      refine fw_get (dq rfl) (pg_ok.2.1 27 _ _ _ _ rfl) rfl (v := .ref 48) (isTA_ok rfl (rgR_ok hJ rfl)) ?_
      show AW l (pI pg 27) P kc ks 45 _ _ SHF _
      refine AW.iload_n (dq rfl) rfl ?_
      show AW l (pI pg 27) P kc ks 46 _ _ SHF _
      refine AW.iload_n (dq rfl) rfl ?_
      show AW l (pI pg 27) P kc ks 47 _ _ SHF _
      refine AW.iast (dq rfl) rfl (o7 h3 h6) ?_
      show AW l (pI pg 27) P kc ks 48 _ _ SHF _
      refine AW.iconst (dq rfl) ?_
      show AW l (pI pg 27) P kc ks 49 _ _ SHF _
      refine AW.zret (dq rfl) rfl (by decide) ?_
      exact r8 h3 h6
    · have _ := h6
      refine AW.iload_n (dq rfl) rfl ?_
      show AW l (pI pg 27) P kc ks 25 _ _ SHF _
      refine AW.iconst (dq rfl) ?_
      show AW l (pI pg 27) P kc ks 26 _ _ SHF _
      refine AW.icmp_eq (dq rfl) (tgt := 41) (by decide) (fun h9 => ?_) (fun h9 => ?_)
      · have _ := h9
        refine AW.aload_n (dq rfl) rfl rfl ?_
        show AW l (pI pg 27) P kc ks 42 _ _ SHF _
        refine fw_get (dq rfl) (pg_ok.2.1 27 _ _ _ _ rfl) rfl (v := .ref 48) (isTA_ok rfl (rgR_ok hJ rfl)) ?_
        show AW l (pI pg 27) P kc ks 45 _ _ SHF _
        refine AW.iload_n (dq rfl) rfl ?_
        show AW l (pI pg 27) P kc ks 46 _ _ SHF _
        refine AW.iload_n (dq rfl) rfl ?_
        show AW l (pI pg 27) P kc ks 47 _ _ SHF _
        refine AW.iast (dq rfl) rfl (o10 h3 h6 h9) ?_
        show AW l (pI pg 27) P kc ks 48 _ _ SHF _
        refine AW.iconst (dq rfl) ?_
        show AW l (pI pg 27) P kc ks 49 _ _ SHF _
        refine AW.zret (dq rfl) rfl (by decide) ?_
        exact r11 h3 h6 h9
      · have _ := h9
        refine AW.aload_n (dq rfl) rfl rfl ?_
        show AW l (pI pg 27) P kc ks 30 _ _ SHF _
        refine fw_get (dq rfl) (pg_ok.2.1 27 _ _ _ _ rfl) rfl (v := .ref 57) (isTA_ok rfl (rgR_ok hJ rfl)) ?_
        show AW l (pI pg 27) P kc ks 33 _ _ SHF _
        refine AW.iconst (dq rfl) ?_
        show AW l (pI pg 27) P kc ks 34 _ _ SHF _
        refine AW.dup2_11 (dq rfl) rfl rfl ?_
        show AW l (pI pg 27) P kc ks 35 _ _ SHF _
        refine AW.iald (dq rfl) rfl (o12 h3 h6 h9) ?_
        show AW l (pI pg 27) P kc ks 36 _ _ SHF _
        refine AW.iconst (dq rfl) ?_
        show AW l (pI pg 27) P kc ks 37 _ _ SHF _
        refine AW.iadd (dq rfl) ?_
        show AW l (pI pg 27) P kc ks 38 _ _ SHF _
        refine AW.iast (dq rfl) rfl (o12 h3 h6 h9) ?_
        show AW l (pI pg 27) P kc ks 39 _ _ SHF _
        refine AW.iconst (dq rfl) ?_
        show AW l (pI pg 27) P kc ks 40 _ _ SHF _
        refine AW.zret (dq rfl) rfl (by decide) ?_
        exact r13 h3 h6 h9

theorem oftb_0 {l : aL} {P : aP} {kc ks : Nat} {x y : Int32} {M : aM} (hJ : ∀ e ∈ RRS.2, M.2.2 e.1 e.2.1 = e.2.2) (hl0 : l.1.stackTraces = false) (B1 : Prop) (c2 : AC l (pI pg 90) (tcV "java/util/NoSuchElementException" M B1) 1 6 [.ref 0, .int (x)] SHF M) (x3 : B1 → P (.inr "java/util/NoSuchElementException") SHF M) (x5 : ∀ (b1 : ¬ B1), ∀ (h4 : (y : Int32) < 0), P (.inr "java/lang/IllegalArgumentException") SHF M) (o7 : ∀ (b1 : ¬ B1), ∀ (h4 : ¬ ((y : Int32) < 0)), ∀ (h6 : (y : Int32) ≤ ((Int16.ofInt 1000).toInt32 : Int32)), vp_in (x) 6) (k9 : ∀ (b1 : ¬ B1), ∀ (h4 : ¬ ((y : Int32) < 0)), ∀ (h6 : (y : Int32) ≤ ((Int16.ofInt 1000).toInt32 : Int32)), ∀ (h8 : ¬ (M.1 19 (x).toNatClampNeg : Int32) = 0), AW l (pI pg 152) P (kc + 1) (ks + 6) 53 [(5, .int (Int32.ofInt 0)), (4, .int ((M.1 19 (x).toNatClampNeg) * ((Int16.ofInt 1000).toInt32))), (3, .int (M.1 19 (x).toNatClampNeg)), (2, .int (y)), (1, .int (x)), (0, .ref 0)] [] SHF M) (r10 : ∀ (b1 : ¬ B1), ∀ (h4 : ¬ ((y : Int32) < 0)), ∀ (h6 : (y : Int32) ≤ ((Int16.ofInt 1000).toInt32 : Int32)), ∀ (h8 : (M.1 19 (x).toNatClampNeg : Int32) = 0), P (.inl (some (.int (Int32.ofInt 0)))) SHF M) (x11 : ∀ (b1 : ¬ B1), ∀ (h4 : ¬ ((y : Int32) < 0)), ∀ (h6 : ¬ ((y : Int32) ≤ ((Int16.ofInt 1000).toInt32 : Int32))), P (.inr "java/lang/IllegalArgumentException") SHF M) : AW l (pI pg 152) P (kc + 1 + 1) (ks + 6 + 6) 0 [(0, .ref 0), (1, .int (x)), (2, .int (y))] [] SHF M := by
  refine AW.aload_n (dq rfl) rfl rfl ?_
  show AW l (pI pg 152) P (kc + 1 + 1) (ks + 6 + 6) 1 _ _ SHF _
  refine AW.iload_n (dq rfl) rfl ?_
  show AW l (pI pg 152) P (kc + 1 + 1) (ks + 6 + 6) 2 _ _ SHF _
  refine fw_tcV (as := [.int (x)]) (dq rfl) (pg_ok.2.2.1 152 _ _ _ _ rfl) rfl (by decide +kernel) rfl rfl (c2) (by decide +kernel) (x3) (fun b1 => ?_)
  show AW l (pI pg 152) P (kc + 1) (ks + 6) 5 [(0, .ref 0), (1, .int (x)), (2, .int (y))] [] SHF _
  refine AW.iload_n (dq rfl) rfl ?_
  show AW l (pI pg 152) P (kc + 1) (ks + 6) 6 _ _ SHF _
  refine AW.if_lt (dq rfl) (tgt := 16) (by decide) (fun h4 => ?_) (fun h4 => ?_)
  · have _ := h4
    refine pg_ok.2.2.2.2.2.2.2.1 152 _ _ rfl _ _ _ _ _ _ _ ?_
    exact x5 b1 h4
  · have _ := h4
    refine AW.iload_n (dq rfl) rfl ?_
    show AW l (pI pg 152) P (kc + 1) (ks + 6) 10 _ _ SHF _
    refine AW.sipush (dq rfl) ?_
    show AW l (pI pg 152) P (kc + 1) (ks + 6) 13 _ _ SHF _
    refine AW.icmp_le (dq rfl) (tgt := 27) (by decide) (fun h6 => ?_) (fun h6 => ?_)
    · have _ := h6
      refine AW.aload_n (dq rfl) rfl rfl ?_
      show AW l (pI pg 152) P (kc + 1) (ks + 6) 28 _ _ SHF _
      refine fw_get (dq rfl) (pg_ok.2.1 152 _ _ _ _ rfl) rfl (v := .ref 17) (isTA_ok rfl (rgR_ok hJ rfl)) ?_
      show AW l (pI pg 152) P (kc + 1) (ks + 6) 31 _ _ SHF _
      refine fw_get (dq rfl) (pg_ok.2.1 152 _ _ _ _ rfl) rfl (v := .ref 19) (isTA_ok rfl (rgR_ok hJ rfl)) ?_
      show AW l (pI pg 152) P (kc + 1) (ks + 6) 34 _ _ SHF _
      refine AW.iload_n (dq rfl) rfl ?_
      show AW l (pI pg 152) P (kc + 1) (ks + 6) 35 _ _ SHF _
      refine AW.iald (dq rfl) rfl (o7 b1 h4 h6) ?_
      show AW l (pI pg 152) P (kc + 1) (ks + 6) 36 _ _ SHF _
      refine AW.istore_n (dq rfl) (by decide +kernel) ?_
      show AW l (pI pg 152) P (kc + 1) (ks + 6) 37 [(3, .int (M.1 19 (x).toNatClampNeg)), (0, .ref 0), (1, .int (x)), (2, .int (y))] [] SHF _
      refine AW.iload_n (dq rfl) rfl ?_
      show AW l (pI pg 152) P (kc + 1) (ks + 6) 38 _ _ SHF _
      refine AW.if_ne (dq rfl) (tgt := 43) (by decide) (fun h8 => ?_) (fun h8 => ?_)
      · have _ := h8
        refine AW.iload_n (dq rfl) rfl ?_
        show AW l (pI pg 152) P (kc + 1) (ks + 6) 44 _ _ SHF _
        refine AW.sipush (dq rfl) ?_
        show AW l (pI pg 152) P (kc + 1) (ks + 6) 47 _ _ SHF _
        refine AW.imul (dq rfl) ?_
        show AW l (pI pg 152) P (kc + 1) (ks + 6) 48 _ _ SHF _
        refine AW.istore (dq rfl) (by decide +kernel) ?_
        show AW l (pI pg 152) P (kc + 1) (ks + 6) 50 [(4, .int ((M.1 19 (x).toNatClampNeg) * ((Int16.ofInt 1000).toInt32))), (3, .int (M.1 19 (x).toNatClampNeg)), (0, .ref 0), (1, .int (x)), (2, .int (y))] [] SHF _
        refine AW.iconst (dq rfl) ?_
        show AW l (pI pg 152) P (kc + 1) (ks + 6) 51 _ _ SHF _
        refine AW.istore (dq rfl) (by decide +kernel) ?_
        show AW l (pI pg 152) P (kc + 1) (ks + 6) 53 [(5, .int (Int32.ofInt 0)), (4, .int ((M.1 19 (x).toNatClampNeg) * ((Int16.ofInt 1000).toInt32))), (3, .int (M.1 19 (x).toNatClampNeg)), (0, .ref 0), (1, .int (x)), (2, .int (y))] [] SHF _
        refine AW.drop (lv' := [(5, .int (Int32.ofInt 0)), (4, .int ((M.1 19 (x).toNatClampNeg) * ((Int16.ofInt 1000).toInt32))), (3, .int (M.1 19 (x).toNatClampNeg)), (2, .int (y)), (1, .int (x)), (0, .ref 0)]) (List.forall_mem_cons.mpr ⟨List.mem_of_getElem? (i := 0) rfl, List.forall_mem_cons.mpr ⟨List.mem_of_getElem? (i := 1) rfl, List.forall_mem_cons.mpr ⟨List.mem_of_getElem? (i := 2) rfl, List.forall_mem_cons.mpr ⟨List.mem_of_getElem? (i := 5) rfl, List.forall_mem_cons.mpr ⟨List.mem_of_getElem? (i := 4) rfl, List.forall_mem_cons.mpr ⟨List.mem_of_getElem? (i := 3) rfl, fun _ h => absurd h List.not_mem_nil⟩⟩⟩⟩⟩⟩) ?_
        exact k9 b1 h4 h6 h8
      · have _ := h8
        refine AW.iconst (dq rfl) ?_
        show AW l (pI pg 152) P (kc + 1) (ks + 6) 42 _ _ SHF _
        refine AW.iret (dq rfl) rfl ?_
        exact r10 b1 h4 h6 h8
    · have _ := h6
      refine pg_ok.2.2.2.2.2.2.2.1 152 _ _ rfl _ _ _ _ _ _ _ ?_
      exact x11 b1 h4 h6

theorem oftb_53 {l : aL} {P : aP} {kc ks : Nat} {v w z x y : Int32} {M : aM} (hJ : ∀ e ∈ RRS.2, M.2.2 e.1 e.2.1 = e.2.2) (hl0 : l.1.stackTraces = false) (r2 : ∀ (h1 : ((Int16.ofInt 1000).toInt32 : Int32) < (v : Int32)), P (.inl (some (.int (Int32.ofInt (-1))))) SHF M) (k4 : ∀ (h1 : ¬ (((Int16.ofInt 1000).toInt32 : Int32) < (v : Int32))), ∀ (h3 : ((y) * ((w) + ((((Int16.ofInt 1000).toInt32) - (z)) * (v))) : Int32) < ((w) * ((Int16.ofInt 1000).toInt32) : Int32)), AW l (pI pg 152) P kc ks 53 [(5, .int ((v) + Int32.ofInt 1)), (4, .int (w)), (3, .int (z)), (2, .int (y)), (1, .int (x)), (0, .ref 0)] [] SHF M) (r5 : ∀ (h1 : ¬ (((Int16.ofInt 1000).toInt32 : Int32) < (v : Int32))), ∀ (h3 : ¬ (((y) * ((w) + ((((Int16.ofInt 1000).toInt32) - (z)) * (v))) : Int32) < ((w) * ((Int16.ofInt 1000).toInt32) : Int32))), P (.inl (some (.int (v)))) SHF M) : AW l (pI pg 152) P kc ks 53 [(5, .int (v)), (4, .int (w)), (3, .int (z)), (2, .int (y)), (1, .int (x)), (0, .ref 0)] [] SHF M := by
  refine AW.iload (dq rfl) rfl ?_
  show AW l (pI pg 152) P kc ks 55 _ _ SHF _
  refine AW.sipush (dq rfl) ?_
  show AW l (pI pg 152) P kc ks 58 _ _ SHF _
  refine AW.icmp_gt (dq rfl) (tgt := 96) (by decide) (fun h1 => ?_) (fun h1 => ?_)
  · have _ := h1
    refine AW.iconst (dq rfl) ?_
    show AW l (pI pg 152) P kc ks 97 _ _ SHF _
    refine AW.iret (dq rfl) rfl ?_
    exact r2 h1
  · have _ := h1
    refine AW.iload (dq rfl) rfl ?_
    show AW l (pI pg 152) P kc ks 63 _ _ SHF _
    refine AW.sipush (dq rfl) ?_
    show AW l (pI pg 152) P kc ks 66 _ _ SHF _
    refine AW.iload_n (dq rfl) rfl ?_
    show AW l (pI pg 152) P kc ks 67 _ _ SHF _
    refine AW.isub (dq rfl) ?_
    show AW l (pI pg 152) P kc ks 68 _ _ SHF _
    refine AW.iload (dq rfl) rfl ?_
    show AW l (pI pg 152) P kc ks 70 _ _ SHF _
    refine AW.imul (dq rfl) ?_
    show AW l (pI pg 152) P kc ks 71 _ _ SHF _
    refine AW.iadd (dq rfl) ?_
    show AW l (pI pg 152) P kc ks 72 _ _ SHF _
    refine AW.istore (dq rfl) (by decide +kernel) ?_
    show AW l (pI pg 152) P kc ks 74 [(6, .int ((w) + ((((Int16.ofInt 1000).toInt32) - (z)) * (v)))), (5, .int (v)), (4, .int (w)), (3, .int (z)), (2, .int (y)), (1, .int (x)), (0, .ref 0)] [] SHF _
    refine AW.iload (dq rfl) rfl ?_
    show AW l (pI pg 152) P kc ks 76 _ _ SHF _
    refine AW.sipush (dq rfl) ?_
    show AW l (pI pg 152) P kc ks 79 _ _ SHF _
    refine AW.imul (dq rfl) ?_
    show AW l (pI pg 152) P kc ks 80 _ _ SHF _
    refine AW.iload_n (dq rfl) rfl ?_
    show AW l (pI pg 152) P kc ks 81 _ _ SHF _
    refine AW.iload (dq rfl) rfl ?_
    show AW l (pI pg 152) P kc ks 83 _ _ SHF _
    refine AW.imul (dq rfl) ?_
    show AW l (pI pg 152) P kc ks 84 _ _ SHF _
    refine AW.icmp_gt (dq rfl) (tgt := 90) (by decide) (fun h3 => ?_) (fun h3 => ?_)
    · have _ := h3
      refine AW.iinc (dq rfl) rfl (by decide +kernel) ?_
      show AW l (pI pg 152) P kc ks 93 [(5, .int ((v) + Int32.ofInt 1)), (6, .int ((w) + ((((Int16.ofInt 1000).toInt32) - (z)) * (v)))), (4, .int (w)), (3, .int (z)), (2, .int (y)), (1, .int (x)), (0, .ref 0)] [] SHF _
      refine AW.goto (dq rfl) (tgt := 53) (by decide) ?_
      refine AW.drop (lv' := [(5, .int ((v) + Int32.ofInt 1)), (4, .int (w)), (3, .int (z)), (2, .int (y)), (1, .int (x)), (0, .ref 0)]) (List.forall_mem_cons.mpr ⟨List.mem_of_getElem? (i := 0) rfl, List.forall_mem_cons.mpr ⟨List.mem_of_getElem? (i := 2) rfl, List.forall_mem_cons.mpr ⟨List.mem_of_getElem? (i := 3) rfl, List.forall_mem_cons.mpr ⟨List.mem_of_getElem? (i := 4) rfl, List.forall_mem_cons.mpr ⟨List.mem_of_getElem? (i := 5) rfl, List.forall_mem_cons.mpr ⟨List.mem_of_getElem? (i := 6) rfl, fun _ h => absurd h List.not_mem_nil⟩⟩⟩⟩⟩⟩) ?_
      exact k4 h1 h3
    · have _ := h3
      refine AW.iload (dq rfl) rfl ?_
      show AW l (pI pg 152) P kc ks 89 _ _ SHF _
      refine AW.iret (dq rfl) rfl ?_
      exact r5 h1 h3

theorem selb_0 {l : aL} {P : aP} {kc ks : Nat} {x y : Int32} {M : aM} (hJ : ∀ e ∈ RRS.2, M.2.2 e.1 e.2.1 = e.2.2) (hl0 : l.1.stackTraces = false) (B1 : Prop) (c2 : AC l (pI pg 90) (tcV "java/util/NoSuchElementException" M B1) 1 6 [.ref 0, .int (x)] SHF M) (x3 : B1 → P (.inr "java/util/NoSuchElementException") SHF M) (x5 : ∀ (b1 : ¬ B1), ∀ (h4 : (y : Int32) < 0), P (.inr "java/lang/IllegalArgumentException") SHF M) (k7 : ∀ (b1 : ¬ B1), ∀ (h4 : ¬ ((y : Int32) < 0)), ∀ (h6 : (y : Int32) ≤ ((Int16.ofInt 5000).toInt32 : Int32)), AW l (pI pg 154) P (kc + 1) (ks + 6) 34 [(5, .int (Int32.ofInt 0)), (3, .long (1000000000)), (2, .int (y)), (1, .int (x)), (0, .ref 0)] [] SHF M) (x8 : ∀ (b1 : ¬ B1), ∀ (h4 : ¬ ((y : Int32) < 0)), ∀ (h6 : ¬ ((y : Int32) ≤ ((Int16.ofInt 5000).toInt32 : Int32))), P (.inr "java/lang/IllegalArgumentException") SHF M) : AW l (pI pg 154) P (kc + 1 + 1) (ks + 6 + 6) 0 [(0, .ref 0), (1, .int (x)), (2, .int (y))] [] SHF M := by
  refine AW.aload_n (dq rfl) rfl rfl ?_
  show AW l (pI pg 154) P (kc + 1 + 1) (ks + 6 + 6) 1 _ _ SHF _
  refine AW.iload_n (dq rfl) rfl ?_
  show AW l (pI pg 154) P (kc + 1 + 1) (ks + 6 + 6) 2 _ _ SHF _
  refine fw_tcV (as := [.int (x)]) (dq rfl) (pg_ok.2.2.1 154 _ _ _ _ rfl) rfl (by decide +kernel) rfl rfl (c2) (by decide +kernel) (x3) (fun b1 => ?_)
  show AW l (pI pg 154) P (kc + 1) (ks + 6) 5 [(0, .ref 0), (1, .int (x)), (2, .int (y))] [] SHF _
  refine AW.iload_n (dq rfl) rfl ?_
  show AW l (pI pg 154) P (kc + 1) (ks + 6) 6 _ _ SHF _
  refine AW.if_lt (dq rfl) (tgt := 16) (by decide) (fun h4 => ?_) (fun h4 => ?_)
  · have _ := h4
    refine pg_ok.2.2.2.2.2.2.2.1 154 _ _ rfl _ _ _ _ _ _ _ ?_
    exact x5 b1 h4
  · have _ := h4
    refine AW.iload_n (dq rfl) rfl ?_
    show AW l (pI pg 154) P (kc + 1) (ks + 6) 10 _ _ SHF _
    refine AW.sipush (dq rfl) ?_
    show AW l (pI pg 154) P (kc + 1) (ks + 6) 13 _ _ SHF _
    refine AW.icmp_le (dq rfl) (tgt := 27) (by decide) (fun h6 => ?_) (fun h6 => ?_)
    · have _ := h6
      refine AW.ldc2 (dq rfl) (pg_ok.2.2.2.2.2.1 154 _ 1000000000 rfl) ?_
      show AW l (pI pg 154) P (kc + 1) (ks + 6) 30 _ _ SHF _
      refine AW.lstore_n (dq rfl) (by decide +kernel) ?_
      show AW l (pI pg 154) P (kc + 1) (ks + 6) 31 [(3, .long (1000000000)), (0, .ref 0), (1, .int (x)), (2, .int (y))] [] SHF _
      refine AW.iconst (dq rfl) ?_
      show AW l (pI pg 154) P (kc + 1) (ks + 6) 32 _ _ SHF _
      refine AW.istore (dq rfl) (by decide +kernel) ?_
      show AW l (pI pg 154) P (kc + 1) (ks + 6) 34 [(5, .int (Int32.ofInt 0)), (3, .long (1000000000)), (0, .ref 0), (1, .int (x)), (2, .int (y))] [] SHF _
      refine AW.drop (lv' := [(5, .int (Int32.ofInt 0)), (3, .long (1000000000)), (2, .int (y)), (1, .int (x)), (0, .ref 0)]) (List.forall_mem_cons.mpr ⟨List.mem_of_getElem? (i := 0) rfl, List.forall_mem_cons.mpr ⟨List.mem_of_getElem? (i := 1) rfl, List.forall_mem_cons.mpr ⟨List.mem_of_getElem? (i := 4) rfl, List.forall_mem_cons.mpr ⟨List.mem_of_getElem? (i := 3) rfl, List.forall_mem_cons.mpr ⟨List.mem_of_getElem? (i := 2) rfl, fun _ h => absurd h List.not_mem_nil⟩⟩⟩⟩⟩) ?_
      exact k7 b1 h4 h6
    · have _ := h6
      refine pg_ok.2.2.2.2.2.2.2.1 154 _ _ rfl _ _ _ _ _ _ _ ?_
      exact x8 b1 h4 h6

theorem selb_34 {l : aL} {P : aP} {kc ks : Nat} {v x y : Int32} {w : Int64} {M : aM} (hJ : ∀ e ∈ RRS.2, M.2.2 e.1 e.2.1 = e.2.2) (hl0 : l.1.stackTraces = false) (r2 : ∀ (h1 : (y : Int32) ≤ (v : Int32)), P (.inl (some (.int ((w).toInt32)))) SHF M) (o3 : ∀ (h1 : ¬ ((y : Int32) ≤ (v : Int32))), vp_in (x) 6) (d4 : ∀ (h1 : ¬ ((y : Int32) ≤ (v : Int32))), ¬ (1000) = (0 : Int64)) (k5 : ∀ (h1 : ¬ ((y : Int32) ≤ (v : Int32))), AW l (pI pg 154) P kc ks 34 [(5, .int ((v) + Int32.ofInt 1)), (3, .long (((w) * ((((Int16.ofInt 1000).toInt32) - (M.1 19 (x).toNatClampNeg)).toInt64)) / (1000))), (2, .int (y)), (1, .int (x)), (0, .ref 0)] [] SHF M) : AW l (pI pg 154) P kc ks 34 [(5, .int (v)), (3, .long (w)), (2, .int (y)), (1, .int (x)), (0, .ref 0)] [] SHF M := by
  refine AW.iload (dq rfl) rfl ?_
  show AW l (pI pg 154) P kc ks 36 _ _ SHF _
  refine AW.iload_n (dq rfl) rfl ?_
  show AW l (pI pg 154) P kc ks 37 _ _ SHF _
  refine AW.icmp_ge (dq rfl) (tgt := 67) (by decide) (fun h1 => ?_) (fun h1 => ?_)
  · have _ := h1
    refine AW.lload_n (dq rfl) rfl ?_
    show AW l (pI pg 154) P kc ks 68 _ _ SHF _
    refine AW.l2i (dq rfl) ?_
    show AW l (pI pg 154) P kc ks 69 _ _ SHF _
    refine AW.iret (dq rfl) rfl ?_
    exact r2 h1
  · have _ := h1
    refine AW.lload_n (dq rfl) rfl ?_
    show AW l (pI pg 154) P kc ks 41 _ _ SHF _
    refine AW.sipush (dq rfl) ?_
    show AW l (pI pg 154) P kc ks 44 _ _ SHF _
    refine AW.aload_n (dq rfl) rfl rfl ?_
    show AW l (pI pg 154) P kc ks 45 _ _ SHF _
    refine fw_get (dq rfl) (pg_ok.2.1 154 _ _ _ _ rfl) rfl (v := .ref 17) (isTA_ok rfl (rgR_ok hJ rfl)) ?_
    show AW l (pI pg 154) P kc ks 48 _ _ SHF _
    refine fw_get (dq rfl) (pg_ok.2.1 154 _ _ _ _ rfl) rfl (v := .ref 19) (isTA_ok rfl (rgR_ok hJ rfl)) ?_
    show AW l (pI pg 154) P kc ks 51 _ _ SHF _
    refine AW.iload_n (dq rfl) rfl ?_
    show AW l (pI pg 154) P kc ks 52 _ _ SHF _
    refine AW.iald (dq rfl) rfl (o3 h1) ?_
    show AW l (pI pg 154) P kc ks 53 _ _ SHF _
    refine AW.isub (dq rfl) ?_
    show AW l (pI pg 154) P kc ks 54 _ _ SHF _
    refine AW.i2l (dq rfl) ?_
    show AW l (pI pg 154) P kc ks 55 _ _ SHF _
    refine AW.lmul (dq rfl) ?_
    show AW l (pI pg 154) P kc ks 56 _ _ SHF _
    refine AW.ldc2 (dq rfl) (pg_ok.2.2.2.2.2.1 154 _ 1000 rfl) ?_
    show AW l (pI pg 154) P kc ks 59 _ _ SHF _
    refine AW.ldiv (dq rfl) (d4 h1) ?_
    show AW l (pI pg 154) P kc ks 60 _ _ SHF _
    refine AW.lstore_n (dq rfl) (by decide +kernel) ?_
    show AW l (pI pg 154) P kc ks 61 [(3, .long (((w) * ((((Int16.ofInt 1000).toInt32) - (M.1 19 (x).toNatClampNeg)).toInt64)) / (1000))), (5, .int (v)), (2, .int (y)), (1, .int (x)), (0, .ref 0)] [] SHF _
    refine AW.iinc (dq rfl) rfl (by decide +kernel) ?_
    show AW l (pI pg 154) P kc ks 64 [(5, .int ((v) + Int32.ofInt 1)), (3, .long (((w) * ((((Int16.ofInt 1000).toInt32) - (M.1 19 (x).toNatClampNeg)).toInt64)) / (1000))), (2, .int (y)), (1, .int (x)), (0, .ref 0)] [] SHF _
    refine AW.goto (dq rfl) (tgt := 34) (by decide) ?_
    refine AW.drop (lv' := [(5, .int ((v) + Int32.ofInt 1)), (3, .long (((w) * ((((Int16.ofInt 1000).toInt32) - (M.1 19 (x).toNatClampNeg)).toInt64)) / (1000))), (2, .int (y)), (1, .int (x)), (0, .ref 0)]) (List.forall_mem_cons.mpr ⟨List.mem_of_getElem? (i := 0) rfl, List.forall_mem_cons.mpr ⟨List.mem_of_getElem? (i := 1) rfl, List.forall_mem_cons.mpr ⟨List.mem_of_getElem? (i := 2) rfl, List.forall_mem_cons.mpr ⟨List.mem_of_getElem? (i := 3) rfl, List.forall_mem_cons.mpr ⟨List.mem_of_getElem? (i := 4) rfl, fun _ h => absurd h List.not_mem_nil⟩⟩⟩⟩⟩) ?_
    exact k5 h1

theorem mtl_0 {l : aL} {P : aP} {kc ks : Nat} {x y : Int32} {M : aM} (hJ : ∀ e ∈ RM, M.2.2 e.1 e.2.1 = e.2.2)  (o2 : ∀ (h1 : (x : Int32) < 0), vp_in (Int32.ofInt 1) 3) (r3 : ∀ (h1 : (x : Int32) < 0), P (.inl (some (.int (Int32.ofInt 0)))) SHF (aset (aset M 58 0 (.int (Int32.ofInt 0))) 66 (Int32.ofInt 1).toNatClampNeg (.int (((aset M 58 0 (.int (Int32.ofInt 0))).1 66 (Int32.ofInt 1).toNatClampNeg) + (Int32.ofInt 1))))) (o5 : ∀ (h1 : ¬ ((x : Int32) < 0)), ∀ (h4 : ((aset M 58 0 (.int (Int32.ofInt 0))).1 58 2 : Int32) ≤ (x : Int32)), vp_in (Int32.ofInt 1) 3) (r6 : ∀ (h1 : ¬ ((x : Int32) < 0)), ∀ (h4 : ((aset M 58 0 (.int (Int32.ofInt 0))).1 58 2 : Int32) ≤ (x : Int32)), P (.inl (some (.int (Int32.ofInt 0)))) SHF (aset (aset M 58 0 (.int (Int32.ofInt 0))) 66 (Int32.ofInt 1).toNatClampNeg (.int (((aset M 58 0 (.int (Int32.ofInt 0))).1 66 (Int32.ofInt 1).toNatClampNeg) + (Int32.ofInt 1))))) (o8 : ∀ (h1 : ¬ ((x : Int32) < 0)), ∀ (h4 : ¬ (((aset M 58 0 (.int (Int32.ofInt 0))).1 58 2 : Int32) ≤ (x : Int32))), ∀ (h7 : (y : Int32) < (Int32.ofInt (-1) : Int32)), vp_in (Int32.ofInt 1) 3) (r9 : ∀ (h1 : ¬ ((x : Int32) < 0)), ∀ (h4 : ¬ (((aset M 58 0 (.int (Int32.ofInt 0))).1 58 2 : Int32) ≤ (x : Int32))), ∀ (h7 : (y : Int32) < (Int32.ofInt (-1) : Int32)), P (.inl (some (.int (Int32.ofInt 0)))) SHF (aset (aset M 58 0 (.int (Int32.ofInt 0))) 66 (Int32.ofInt 1).toNatClampNeg (.int (((aset M 58 0 (.int (Int32.ofInt 0))).1 66 (Int32.ofInt 1).toNatClampNeg) + (Int32.ofInt 1))))) (o11 : ∀ (h1 : ¬ ((x : Int32) < 0)), ∀ (h4 : ¬ (((aset M 58 0 (.int (Int32.ofInt 0))).1 58 2 : Int32) ≤ (x : Int32))), ∀ (h7 : ¬ ((y : Int32) < (Int32.ofInt (-1) : Int32))), ∀ (h10 : (y : Int32) < ((aset M 58 0 (.int (Int32.ofInt 0))).1 58 1 : Int32)), vp_in (x) 8) (r12 : ∀ (h1 : ¬ ((x : Int32) < 0)), ∀ (h4 : ¬ (((aset M 58 0 (.int (Int32.ofInt 0))).1 58 2 : Int32) ≤ (x : Int32))), ∀ (h7 : ¬ ((y : Int32) < (Int32.ofInt (-1) : Int32))), ∀ (h10 : (y : Int32) < ((aset M 58 0 (.int (Int32.ofInt 0))).1 58 1 : Int32)), P (.inl (some (.int (Int32.ofInt 1)))) SHF (aset (aset M 58 0 (.int (Int32.ofInt 0))) 81 (x).toNatClampNeg (.int (y)))) (o13 : ∀ (h1 : ¬ ((x : Int32) < 0)), ∀ (h4 : ¬ (((aset M 58 0 (.int (Int32.ofInt 0))).1 58 2 : Int32) ≤ (x : Int32))), ∀ (h7 : ¬ ((y : Int32) < (Int32.ofInt (-1) : Int32))), ∀ (h10 : ¬ ((y : Int32) < ((aset M 58 0 (.int (Int32.ofInt 0))).1 58 1 : Int32))), vp_in (Int32.ofInt 1) 3) (r14 : ∀ (h1 : ¬ ((x : Int32) < 0)), ∀ (h4 : ¬ (((aset M 58 0 (.int (Int32.ofInt 0))).1 58 2 : Int32) ≤ (x : Int32))), ∀ (h7 : ¬ ((y : Int32) < (Int32.ofInt (-1) : Int32))), ∀ (h10 : ¬ ((y : Int32) < ((aset M 58 0 (.int (Int32.ofInt 0))).1 58 1 : Int32))), P (.inl (some (.int (Int32.ofInt 0)))) SHF (aset (aset M 58 0 (.int (Int32.ofInt 0))) 66 (Int32.ofInt 1).toNatClampNeg (.int (((aset M 58 0 (.int (Int32.ofInt 0))).1 66 (Int32.ofInt 1).toNatClampNeg) + (Int32.ofInt 1))))) : AW l (pI pg 219) P kc ks 0 [(0, .ref 58), (1, .int (x)), (2, .int (y))] [] SHF M := by
  refine AW.aload_n (dq rfl) rfl rfl ?_
  show AW l (pI pg 219) P kc ks 1 _ _ SHF _
  refine AW.iconst (dq rfl) ?_
  show AW l (pI pg 219) P kc ks 2 _ _ SHF _
  refine fw_putI (dq rfl) (pg_ok.2.1 219 _ _ _ _ rfl) rfl rfl rfl ?_
  show AW l (pI pg 219) P kc ks 5 _ _ SHF _
  refine AW.iload_n (dq rfl) rfl ?_
  show AW l (pI pg 219) P kc ks 6 _ _ SHF _
  refine AW.if_lt (dq rfl) (tgt := 30) (by decide) (fun h1 => ?_) (fun h1 => ?_)
  · have _ := h1
    refine AW.aload_n (dq rfl) rfl rfl ?_
    show AW l (pI pg 219) P kc ks 31 _ _ SHF _
    refine fw_get (dq rfl) (pg_ok.2.1 219 _ _ _ _ rfl) rfl (v := .ref 66) (isTA_ok rfl (rgR_ok hJ rfl)) ?_
    show AW l (pI pg 219) P kc ks 34 _ _ SHF _
    refine AW.iconst (dq rfl) ?_
    show AW l (pI pg 219) P kc ks 35 _ _ SHF _
    refine AW.dup2_11 (dq rfl) rfl rfl ?_
    show AW l (pI pg 219) P kc ks 36 _ _ SHF _
    refine AW.iald (dq rfl) rfl (o2 h1) ?_
    show AW l (pI pg 219) P kc ks 37 _ _ SHF _
    refine AW.iconst (dq rfl) ?_
    show AW l (pI pg 219) P kc ks 38 _ _ SHF _
    refine AW.iadd (dq rfl) ?_
    show AW l (pI pg 219) P kc ks 39 _ _ SHF _
    refine AW.iast (dq rfl) rfl (o2 h1) ?_
    show AW l (pI pg 219) P kc ks 40 _ _ SHF _
    refine AW.iconst (dq rfl) ?_
    show AW l (pI pg 219) P kc ks 41 _ _ SHF _
    refine AW.zret (dq rfl) rfl (by decide) ?_
    exact r3 h1
  · have _ := h1
    refine AW.iload_n (dq rfl) rfl ?_
    show AW l (pI pg 219) P kc ks 10 _ _ SHF _
    refine AW.aload_n (dq rfl) rfl rfl ?_
    show AW l (pI pg 219) P kc ks 11 _ _ SHF _
    refine fw_get (dq rfl) (pg_ok.2.1 219 _ _ _ _ rfl) rfl (v := .int ((aset M 58 0 (.int (Int32.ofInt 0))).1 58 2)) rfl ?_
    show AW l (pI pg 219) P kc ks 14 _ _ SHF _
    refine AW.icmp_ge (dq rfl) (tgt := 30) (by decide) (fun h4 => ?_) (fun h4 => ?_)
    · have _ := h4
      refine AW.aload_n (dq rfl) rfl rfl ?_
      show AW l (pI pg 219) P kc ks 31 _ _ SHF _
      refine fw_get (dq rfl) (pg_ok.2.1 219 _ _ _ _ rfl) rfl (v := .ref 66) (isTA_ok rfl (rgR_ok hJ rfl)) ?_
      show AW l (pI pg 219) P kc ks 34 _ _ SHF _
      refine AW.iconst (dq rfl) ?_
      show AW l (pI pg 219) P kc ks 35 _ _ SHF _
      refine AW.dup2_11 (dq rfl) rfl rfl ?_
      show AW l (pI pg 219) P kc ks 36 _ _ SHF _
      refine AW.iald (dq rfl) rfl (o5 h1 h4) ?_
      show AW l (pI pg 219) P kc ks 37 _ _ SHF _
      refine AW.iconst (dq rfl) ?_
      show AW l (pI pg 219) P kc ks 38 _ _ SHF _
      refine AW.iadd (dq rfl) ?_
      show AW l (pI pg 219) P kc ks 39 _ _ SHF _
      refine AW.iast (dq rfl) rfl (o5 h1 h4) ?_
      show AW l (pI pg 219) P kc ks 40 _ _ SHF _
      refine AW.iconst (dq rfl) ?_
      show AW l (pI pg 219) P kc ks 41 _ _ SHF _
      refine AW.zret (dq rfl) rfl (by decide) ?_
      exact r6 h1 h4
    · have _ := h4
      refine AW.iload_n (dq rfl) rfl ?_
      show AW l (pI pg 219) P kc ks 18 _ _ SHF _
      refine AW.iconst (dq rfl) ?_
      show AW l (pI pg 219) P kc ks 19 _ _ SHF _
      refine AW.icmp_lt (dq rfl) (tgt := 30) (by decide) (fun h7 => ?_) (fun h7 => ?_)
      · have _ := h7
        refine AW.aload_n (dq rfl) rfl rfl ?_
        show AW l (pI pg 219) P kc ks 31 _ _ SHF _
        refine fw_get (dq rfl) (pg_ok.2.1 219 _ _ _ _ rfl) rfl (v := .ref 66) (isTA_ok rfl (rgR_ok hJ rfl)) ?_
        show AW l (pI pg 219) P kc ks 34 _ _ SHF _
        refine AW.iconst (dq rfl) ?_
        show AW l (pI pg 219) P kc ks 35 _ _ SHF _
        refine AW.dup2_11 (dq rfl) rfl rfl ?_
        show AW l (pI pg 219) P kc ks 36 _ _ SHF _
        refine AW.iald (dq rfl) rfl (o8 h1 h4 h7) ?_
        show AW l (pI pg 219) P kc ks 37 _ _ SHF _
        refine AW.iconst (dq rfl) ?_
        show AW l (pI pg 219) P kc ks 38 _ _ SHF _
        refine AW.iadd (dq rfl) ?_
        show AW l (pI pg 219) P kc ks 39 _ _ SHF _
        refine AW.iast (dq rfl) rfl (o8 h1 h4 h7) ?_
        show AW l (pI pg 219) P kc ks 40 _ _ SHF _
        refine AW.iconst (dq rfl) ?_
        show AW l (pI pg 219) P kc ks 41 _ _ SHF _
        refine AW.zret (dq rfl) rfl (by decide) ?_
        exact r9 h1 h4 h7
      · have _ := h7
        refine AW.iload_n (dq rfl) rfl ?_
        show AW l (pI pg 219) P kc ks 23 _ _ SHF _
        refine AW.aload_n (dq rfl) rfl rfl ?_
        show AW l (pI pg 219) P kc ks 24 _ _ SHF _
        refine fw_get (dq rfl) (pg_ok.2.1 219 _ _ _ _ rfl) rfl (v := .int ((aset M 58 0 (.int (Int32.ofInt 0))).1 58 1)) rfl ?_
        show AW l (pI pg 219) P kc ks 27 _ _ SHF _
        refine AW.icmp_lt (dq rfl) (tgt := 42) (by decide) (fun h10 => ?_) (fun h10 => ?_)
        · have _ := h10
          refine AW.aload_n (dq rfl) rfl rfl ?_
          show AW l (pI pg 219) P kc ks 43 _ _ SHF _
          refine fw_get (dq rfl) (pg_ok.2.1 219 _ _ _ _ rfl) rfl (v := .ref 81) (isTA_ok rfl (rgR_ok hJ rfl)) ?_
          show AW l (pI pg 219) P kc ks 46 _ _ SHF _
          refine AW.iload_n (dq rfl) rfl ?_
          show AW l (pI pg 219) P kc ks 47 _ _ SHF _
          refine AW.iload_n (dq rfl) rfl ?_
          show AW l (pI pg 219) P kc ks 48 _ _ SHF _
          refine AW.iast (dq rfl) rfl (o11 h1 h4 h7 h10) ?_
          show AW l (pI pg 219) P kc ks 49 _ _ SHF _
          refine AW.iconst (dq rfl) ?_
          show AW l (pI pg 219) P kc ks 50 _ _ SHF _
          refine AW.zret (dq rfl) rfl (by decide) ?_
          exact r12 h1 h4 h7 h10
        · have _ := h10
          refine AW.aload_n (dq rfl) rfl rfl ?_
          show AW l (pI pg 219) P kc ks 31 _ _ SHF _
          refine fw_get (dq rfl) (pg_ok.2.1 219 _ _ _ _ rfl) rfl (v := .ref 66) (isTA_ok rfl (rgR_ok hJ rfl)) ?_
          show AW l (pI pg 219) P kc ks 34 _ _ SHF _
          refine AW.iconst (dq rfl) ?_
          show AW l (pI pg 219) P kc ks 35 _ _ SHF _
          refine AW.dup2_11 (dq rfl) rfl rfl ?_
          show AW l (pI pg 219) P kc ks 36 _ _ SHF _
          refine AW.iald (dq rfl) rfl (o13 h1 h4 h7 h10) ?_
          show AW l (pI pg 219) P kc ks 37 _ _ SHF _
          refine AW.iconst (dq rfl) ?_
          show AW l (pI pg 219) P kc ks 38 _ _ SHF _
          refine AW.iadd (dq rfl) ?_
          show AW l (pI pg 219) P kc ks 39 _ _ SHF _
          refine AW.iast (dq rfl) rfl (o13 h1 h4 h7 h10) ?_
          show AW l (pI pg 219) P kc ks 40 _ _ SHF _
          refine AW.iconst (dq rfl) ?_
          show AW l (pI pg 219) P kc ks 41 _ _ SHF _
          refine AW.zret (dq rfl) rfl (by decide) ?_
          exact r14 h1 h4 h7 h10

theorem mof_0 {l : aL} {P : aP} {kc ks : Nat} {x y : Int32} {M : aM} (hJ : ∀ e ∈ RM, M.2.2 e.1 e.2.1 = e.2.2)  (Q1 : Int32 → aM → Prop) (c2 : AC l (pI pg 197) (fcI (aset M 58 0 (.int (Int32.ofInt 0))) Q1) 0 0 [.ref 58, .int (x)] SHF (aset M 58 0 (.int (Int32.ofInt 0)))) (r4 : ∀ (y1 : Int32), ∀ (M1 : aM), ∀ (e1 : M1.2.2 = (aset M 58 0 (.int (Int32.ofInt 0))).2.2), ∀ (q1 : Q1 y1 M1), ∀ (h3 : (y1 : Int32) = 0), P (.inl (some (.int (Int32.ofInt 0)))) SHF M1) (Q5 : Int32 → aM → Int32 → aM → Prop) (c6 : ∀ (y1 : Int32), ∀ (M1 : aM), ∀ (e1 : M1.2.2 = (aset M 58 0 (.int (Int32.ofInt 0))).2.2), ∀ (q1 : Q1 y1 M1), ∀ (h3 : ¬ ((y1 : Int32) = 0)), AC l (pI pg 195) (fcI M1 (Q5 y1 M1)) 0 0 [.int (y), .int (Int32.ofInt 0), .int ((Int16.ofInt 1000).toInt32)] SHF M1) (Q7 : Int32 → aM → Int32 → aM → Int32 → aM → Prop) (c8 : ∀ (y1 : Int32), ∀ (M1 : aM), ∀ (e1 : M1.2.2 = (aset M 58 0 (.int (Int32.ofInt 0))).2.2), ∀ (q1 : Q1 y1 M1), ∀ (h3 : ¬ ((y1 : Int32) = 0)), ∀ (y5 : Int32), ∀ (M5 : aM), ∀ (e5 : M5.2.2 = M1.2.2), ∀ (q5 : (Q5 y1 M1) y5 M5), AC l (pI pg 175) (fcI M5 (Q7 y1 M1 y5 M5)) 0 0 [.ref 58, .int (y5), .int (Int32.ofInt 2)] SHF M5) (o10 : ∀ (y1 : Int32), ∀ (M1 : aM), ∀ (e1 : M1.2.2 = (aset M 58 0 (.int (Int32.ofInt 0))).2.2), ∀ (q1 : Q1 y1 M1), ∀ (h3 : ¬ ((y1 : Int32) = 0)), ∀ (y5 : Int32), ∀ (M5 : aM), ∀ (e5 : M5.2.2 = M1.2.2), ∀ (q5 : (Q5 y1 M1) y5 M5), ∀ (y7 : Int32), ∀ (M7 : aM), ∀ (e7 : M7.2.2 = M5.2.2), ∀ (q7 : (Q7 y1 M1 y5 M5) y7 M7), ∀ (h9 : ¬ (y7 : Int32) = 0), vp_in (x) 6) (k11 : ∀ (y1 : Int32), ∀ (M1 : aM), ∀ (e1 : M1.2.2 = (aset M 58 0 (.int (Int32.ofInt 0))).2.2), ∀ (q1 : Q1 y1 M1), ∀ (h3 : ¬ ((y1 : Int32) = 0)), ∀ (y5 : Int32), ∀ (M5 : aM), ∀ (e5 : M5.2.2 = M1.2.2), ∀ (q5 : (Q5 y1 M1) y5 M5), ∀ (y7 : Int32), ∀ (M7 : aM), ∀ (e7 : M7.2.2 = M5.2.2), ∀ (q7 : (Q7 y1 M1 y5 M5) y7 M7), ∀ (h9 : ¬ (y7 : Int32) = 0), AW l (pI pg 236) P kc ks 46 [(5, .int (Int32.ofInt 0)), (3, .long ((1000) * ((M7.1 60 (x).toNatClampNeg).toInt64))), (2, .int (y)), (1, .int (x)), (0, .ref 58)] [] SHF M7) (r12 : ∀ (y1 : Int32), ∀ (M1 : aM), ∀ (e1 : M1.2.2 = (aset M 58 0 (.int (Int32.ofInt 0))).2.2), ∀ (q1 : Q1 y1 M1), ∀ (h3 : ¬ ((y1 : Int32) = 0)), ∀ (y5 : Int32), ∀ (M5 : aM), ∀ (e5 : M5.2.2 = M1.2.2), ∀ (q5 : (Q5 y1 M1) y5 M5), ∀ (y7 : Int32), ∀ (M7 : aM), ∀ (e7 : M7.2.2 = M5.2.2), ∀ (q7 : (Q7 y1 M1 y5 M5) y7 M7), ∀ (h9 : (y7 : Int32) = 0), P (.inl (some (.int (Int32.ofInt 0)))) SHF M7) : AW l (pI pg 236) P kc ks 0 [(0, .ref 58), (1, .int (x)), (2, .int (y))] [] SHF M := by
  refine AW.aload_n (dq rfl) rfl rfl ?_
  show AW l (pI pg 236) P kc ks 1 _ _ SHF _
  refine AW.iconst (dq rfl) ?_
  show AW l (pI pg 236) P kc ks 2 _ _ SHF _
  refine fw_putI (dq rfl) (pg_ok.2.1 236 _ _ _ _ rfl) rfl rfl rfl ?_
  show AW l (pI pg 236) P kc ks 5 _ _ SHF _
  refine AW.aload_n (dq rfl) rfl rfl ?_
  show AW l (pI pg 236) P kc ks 6 _ _ SHF _
  refine AW.iload_n (dq rfl) rfl ?_
  show AW l (pI pg 236) P kc ks 7 _ _ SHF _
  refine fw_callVI (as := [.int (x)]) (dq rfl) (pg_ok.2.2.1 236 _ _ _ _ rfl) rfl (by decide +kernel) rfl rfl (c2) (fun y1 M1 e1 q1 => ?_)
  have hJ1 : ∀ e ∈ RM, M1.2.2 e.1 e.2.1 = e.2.2 := fun e he => by rw [e1]; exact hJ e he
  show AW l (pI pg 236) P kc ks 10 [(0, .ref 58), (1, .int (x)), (2, .int (y))] [.int (y1)] SHF _
  refine AW.if_eq (dq rfl) (tgt := 29) (by decide) (fun h3 => ?_) (fun h3 => ?_)
  · have _ := h3
    refine AW.iconst (dq rfl) ?_
    show AW l (pI pg 236) P kc ks 30 _ _ SHF _
    refine AW.iret (dq rfl) rfl ?_
    exact r4 y1 M1 e1 q1 h3
  · have _ := h3
    refine AW.aload_n (dq rfl) rfl rfl ?_
    show AW l (pI pg 236) P kc ks 14 _ _ SHF _
    refine AW.iload_n (dq rfl) rfl ?_
    show AW l (pI pg 236) P kc ks 15 _ _ SHF _
    refine AW.iconst (dq rfl) ?_
    show AW l (pI pg 236) P kc ks 16 _ _ SHF _
    refine AW.sipush (dq rfl) ?_
    show AW l (pI pg 236) P kc ks 19 _ _ SHF _
    refine fw_callSI (as := [.int (y), .int (Int32.ofInt 0), .int ((Int16.ofInt 1000).toInt32)]) (dq rfl) (pg_ok.2.2.1 236 _ _ _ _ rfl) (by decide +kernel) rfl rfl (c6 y1 M1 e1 q1 h3) (fun y5 M5 e5 q5 => ?_)
    have hJ5 : ∀ e ∈ RM, M5.2.2 e.1 e.2.1 = e.2.2 := fun e he => by rw [e5]; exact hJ1 e he
    show AW l (pI pg 236) P kc ks 22 [(0, .ref 58), (1, .int (x)), (2, .int (y))] [.int (y5), .ref 58] SHF _
    refine AW.iconst (dq rfl) ?_
    show AW l (pI pg 236) P kc ks 23 _ _ SHF _
    refine fw_callVI (as := [.int (y5), .int (Int32.ofInt 2)]) (dq rfl) (pg_ok.2.2.1 236 _ _ _ _ rfl) rfl (by decide +kernel) rfl rfl (c8 y1 M1 e1 q1 h3 y5 M5 e5 q5) (fun y7 M7 e7 q7 => ?_)
    have hJ7 : ∀ e ∈ RM, M7.2.2 e.1 e.2.1 = e.2.2 := fun e he => by rw [e7]; exact hJ5 e he
    show AW l (pI pg 236) P kc ks 26 [(0, .ref 58), (1, .int (x)), (2, .int (y))] [.int (y7)] SHF _
    refine AW.if_ne (dq rfl) (tgt := 31) (by decide) (fun h9 => ?_) (fun h9 => ?_)
    · have _ := h9
      refine AW.ldc2 (dq rfl) (pg_ok.2.2.2.2.2.1 236 _ 1000 rfl) ?_
      show AW l (pI pg 236) P kc ks 34 _ _ SHF _
      refine AW.aload_n (dq rfl) rfl rfl ?_
      show AW l (pI pg 236) P kc ks 35 _ _ SHF _
      refine fw_get (dq rfl) (pg_ok.2.1 236 _ _ _ _ rfl) rfl (v := .ref 60) (isTA_ok rfl (rgR_ok hJ7 rfl)) ?_
      show AW l (pI pg 236) P kc ks 38 _ _ SHF _
      refine AW.iload_n (dq rfl) rfl ?_
      show AW l (pI pg 236) P kc ks 39 _ _ SHF _
      refine AW.iald (dq rfl) rfl (o10 y1 M1 e1 q1 h3 y5 M5 e5 q5 y7 M7 e7 q7 h9) ?_
      show AW l (pI pg 236) P kc ks 40 _ _ SHF _
      refine AW.i2l (dq rfl) ?_
      show AW l (pI pg 236) P kc ks 41 _ _ SHF _
      refine AW.lmul (dq rfl) ?_
      show AW l (pI pg 236) P kc ks 42 _ _ SHF _
      refine AW.lstore_n (dq rfl) (by decide +kernel) ?_
      show AW l (pI pg 236) P kc ks 43 [(3, .long ((1000) * ((M7.1 60 (x).toNatClampNeg).toInt64))), (0, .ref 58), (1, .int (x)), (2, .int (y))] [] SHF _
      refine AW.iconst (dq rfl) ?_
      show AW l (pI pg 236) P kc ks 44 _ _ SHF _
      refine AW.istore (dq rfl) (by decide +kernel) ?_
      show AW l (pI pg 236) P kc ks 46 [(5, .int (Int32.ofInt 0)), (3, .long ((1000) * ((M7.1 60 (x).toNatClampNeg).toInt64))), (0, .ref 58), (1, .int (x)), (2, .int (y))] [] SHF _
      refine AW.drop (lv' := [(5, .int (Int32.ofInt 0)), (3, .long ((1000) * ((M7.1 60 (x).toNatClampNeg).toInt64))), (2, .int (y)), (1, .int (x)), (0, .ref 58)]) (List.forall_mem_cons.mpr ⟨List.mem_of_getElem? (i := 0) rfl, List.forall_mem_cons.mpr ⟨List.mem_of_getElem? (i := 1) rfl, List.forall_mem_cons.mpr ⟨List.mem_of_getElem? (i := 4) rfl, List.forall_mem_cons.mpr ⟨List.mem_of_getElem? (i := 3) rfl, List.forall_mem_cons.mpr ⟨List.mem_of_getElem? (i := 2) rfl, fun _ h => absurd h List.not_mem_nil⟩⟩⟩⟩⟩) ?_
      exact k11 y1 M1 e1 q1 h3 y5 M5 e5 q5 y7 M7 e7 q7 h9
    · have _ := h9
      refine AW.iconst (dq rfl) ?_
      show AW l (pI pg 236) P kc ks 30 _ _ SHF _
      refine AW.iret (dq rfl) rfl ?_
      exact r12 y1 M1 e1 q1 h3 y5 M5 e5 q5 y7 M7 e7 q7 h9

theorem mof_46 {l : aL} {P : aP} {kc ks : Nat} {v x y : Int32} {w : Int64} {M : aM} (hJ : ∀ e ∈ RM, M.2.2 e.1 e.2.1 = e.2.2)  (r2 : ∀ (h1 : ((Int16.ofInt 1000).toInt32 : Int32) < (v : Int32)), P (.inl (some (.int (Int32.ofInt (-1))))) SHF M) (o3 : ∀ (h1 : ¬ (((Int16.ofInt 1000).toInt32 : Int32) < (v : Int32))), vp_in (x) 6) (k5 : ∀ (h1 : ¬ (((Int16.ofInt 1000).toInt32 : Int32) < (v : Int32))), ∀ (h4 : 0 < (lg_cmp ((1000) * (w)) (((y).toInt64) * ((w) + (((1000) - ((M.1 60 (x).toNatClampNeg).toInt64)) * ((v).toInt64)))) : Int32)), AW l (pI pg 236) P kc ks 46 [(5, .int ((v) + Int32.ofInt 1)), (3, .long (w)), (2, .int (y)), (1, .int (x)), (0, .ref 58)] [] SHF M) (r6 : ∀ (h1 : ¬ (((Int16.ofInt 1000).toInt32 : Int32) < (v : Int32))), ∀ (h4 : ¬ (0 < (lg_cmp ((1000) * (w)) (((y).toInt64) * ((w) + (((1000) - ((M.1 60 (x).toNatClampNeg).toInt64)) * ((v).toInt64)))) : Int32))), P (.inl (some (.int (v)))) SHF M) : AW l (pI pg 236) P kc ks 46 [(5, .int (v)), (3, .long (w)), (2, .int (y)), (1, .int (x)), (0, .ref 58)] [] SHF M := by
  refine AW.iload (dq rfl) rfl ?_
  show AW l (pI pg 236) P kc ks 48 _ _ SHF _
  refine AW.sipush (dq rfl) ?_
  show AW l (pI pg 236) P kc ks 51 _ _ SHF _
  refine AW.icmp_gt (dq rfl) (tgt := 92) (by decide) (fun h1 => ?_) (fun h1 => ?_)
  · have _ := h1
    refine AW.iconst (dq rfl) ?_
    show AW l (pI pg 236) P kc ks 93 _ _ SHF _
    refine AW.iret (dq rfl) rfl ?_
    exact r2 h1
  · have _ := h1
    refine AW.ldc2 (dq rfl) (pg_ok.2.2.2.2.2.1 236 _ 1000 rfl) ?_
    show AW l (pI pg 236) P kc ks 57 _ _ SHF _
    refine AW.lload_n (dq rfl) rfl ?_
    show AW l (pI pg 236) P kc ks 58 _ _ SHF _
    refine AW.lmul (dq rfl) ?_
    show AW l (pI pg 236) P kc ks 59 _ _ SHF _
    refine AW.iload_n (dq rfl) rfl ?_
    show AW l (pI pg 236) P kc ks 60 _ _ SHF _
    refine AW.i2l (dq rfl) ?_
    show AW l (pI pg 236) P kc ks 61 _ _ SHF _
    refine AW.lload_n (dq rfl) rfl ?_
    show AW l (pI pg 236) P kc ks 62 _ _ SHF _
    refine AW.ldc2 (dq rfl) (pg_ok.2.2.2.2.2.1 236 _ 1000 rfl) ?_
    show AW l (pI pg 236) P kc ks 65 _ _ SHF _
    refine AW.aload_n (dq rfl) rfl rfl ?_
    show AW l (pI pg 236) P kc ks 66 _ _ SHF _
    refine fw_get (dq rfl) (pg_ok.2.1 236 _ _ _ _ rfl) rfl (v := .ref 60) (isTA_ok rfl (rgR_ok hJ rfl)) ?_
    show AW l (pI pg 236) P kc ks 69 _ _ SHF _
    refine AW.iload_n (dq rfl) rfl ?_
    show AW l (pI pg 236) P kc ks 70 _ _ SHF _
    refine AW.iald (dq rfl) rfl (o3 h1) ?_
    show AW l (pI pg 236) P kc ks 71 _ _ SHF _
    refine AW.i2l (dq rfl) ?_
    show AW l (pI pg 236) P kc ks 72 _ _ SHF _
    refine AW.lsub (dq rfl) ?_
    show AW l (pI pg 236) P kc ks 73 _ _ SHF _
    refine AW.iload (dq rfl) rfl ?_
    show AW l (pI pg 236) P kc ks 75 _ _ SHF _
    refine AW.i2l (dq rfl) ?_
    show AW l (pI pg 236) P kc ks 76 _ _ SHF _
    refine AW.lmul (dq rfl) ?_
    show AW l (pI pg 236) P kc ks 77 _ _ SHF _
    refine AW.ladd (dq rfl) ?_
    show AW l (pI pg 236) P kc ks 78 _ _ SHF _
    refine AW.lmul (dq rfl) ?_
    show AW l (pI pg 236) P kc ks 79 _ _ SHF _
    refine AW.lcmp (dq rfl) ?_
    show AW l (pI pg 236) P kc ks 80 _ _ SHF _
    refine AW.if_gt (dq rfl) (tgt := 86) (by decide) (fun h4 => ?_) (fun h4 => ?_)
    · have _ := h4
      refine AW.iinc (dq rfl) rfl (by decide +kernel) ?_
      show AW l (pI pg 236) P kc ks 89 [(5, .int ((v) + Int32.ofInt 1)), (3, .long (w)), (2, .int (y)), (1, .int (x)), (0, .ref 58)] [] SHF _
      refine AW.goto (dq rfl) (tgt := 46) (by decide) ?_
      refine AW.drop (lv' := [(5, .int ((v) + Int32.ofInt 1)), (3, .long (w)), (2, .int (y)), (1, .int (x)), (0, .ref 58)]) (List.forall_mem_cons.mpr ⟨List.mem_of_getElem? (i := 0) rfl, List.forall_mem_cons.mpr ⟨List.mem_of_getElem? (i := 1) rfl, List.forall_mem_cons.mpr ⟨List.mem_of_getElem? (i := 2) rfl, List.forall_mem_cons.mpr ⟨List.mem_of_getElem? (i := 3) rfl, List.forall_mem_cons.mpr ⟨List.mem_of_getElem? (i := 4) rfl, fun _ h => absurd h List.not_mem_nil⟩⟩⟩⟩⟩) ?_
      exact k5 h1 h4
    · have _ := h4
      refine AW.iload (dq rfl) rfl ?_
      show AW l (pI pg 236) P kc ks 85 _ _ SHF _
      refine AW.iret (dq rfl) rfl ?_
      exact r6 h1 h4

theorem mse_0 {l : aL} {P : aP} {kc ks : Nat} {x y : Int32} {M : aM} (hJ : ∀ e ∈ RM, M.2.2 e.1 e.2.1 = e.2.2)  (Q1 : Int32 → aM → Prop) (c2 : AC l (pI pg 197) (fcI (aset M 58 0 (.int (Int32.ofInt 0))) Q1) 0 0 [.ref 58, .int (x)] SHF (aset M 58 0 (.int (Int32.ofInt 0)))) (r4 : ∀ (y1 : Int32), ∀ (M1 : aM), ∀ (e1 : M1.2.2 = (aset M 58 0 (.int (Int32.ofInt 0))).2.2), ∀ (q1 : Q1 y1 M1), ∀ (h3 : (y1 : Int32) = 0), P (.inl (some (.int (Int32.ofInt 0)))) SHF M1) (Q5 : Int32 → aM → Int32 → aM → Prop) (c6 : ∀ (y1 : Int32), ∀ (M1 : aM), ∀ (e1 : M1.2.2 = (aset M 58 0 (.int (Int32.ofInt 0))).2.2), ∀ (q1 : Q1 y1 M1), ∀ (h3 : ¬ ((y1 : Int32) = 0)), AC l (pI pg 195) (fcI M1 (Q5 y1 M1)) 0 0 [.int (y), .int (Int32.ofInt 0), .int ((Int16.ofInt 5000).toInt32)] SHF M1) (Q7 : Int32 → aM → Int32 → aM → Int32 → aM → Prop) (c8 : ∀ (y1 : Int32), ∀ (M1 : aM), ∀ (e1 : M1.2.2 = (aset M 58 0 (.int (Int32.ofInt 0))).2.2), ∀ (q1 : Q1 y1 M1), ∀ (h3 : ¬ ((y1 : Int32) = 0)), ∀ (y5 : Int32), ∀ (M5 : aM), ∀ (e5 : M5.2.2 = M1.2.2), ∀ (q5 : (Q5 y1 M1) y5 M5), AC l (pI pg 175) (fcI M5 (Q7 y1 M1 y5 M5)) 0 0 [.ref 58, .int (y5), .int (Int32.ofInt 2)] SHF M5) (k10 : ∀ (y1 : Int32), ∀ (M1 : aM), ∀ (e1 : M1.2.2 = (aset M 58 0 (.int (Int32.ofInt 0))).2.2), ∀ (q1 : Q1 y1 M1), ∀ (h3 : ¬ ((y1 : Int32) = 0)), ∀ (y5 : Int32), ∀ (M5 : aM), ∀ (e5 : M5.2.2 = M1.2.2), ∀ (q5 : (Q5 y1 M1) y5 M5), ∀ (y7 : Int32), ∀ (M7 : aM), ∀ (e7 : M7.2.2 = M5.2.2), ∀ (q7 : (Q7 y1 M1 y5 M5) y7 M7), ∀ (h9 : ¬ (y7 : Int32) = 0), AW l (pI pg 237) P kc ks 38 [(5, .int (Int32.ofInt 0)), (3, .long (1000000000)), (2, .int (y)), (1, .int (x)), (0, .ref 58)] [] SHF M7) (r11 : ∀ (y1 : Int32), ∀ (M1 : aM), ∀ (e1 : M1.2.2 = (aset M 58 0 (.int (Int32.ofInt 0))).2.2), ∀ (q1 : Q1 y1 M1), ∀ (h3 : ¬ ((y1 : Int32) = 0)), ∀ (y5 : Int32), ∀ (M5 : aM), ∀ (e5 : M5.2.2 = M1.2.2), ∀ (q5 : (Q5 y1 M1) y5 M5), ∀ (y7 : Int32), ∀ (M7 : aM), ∀ (e7 : M7.2.2 = M5.2.2), ∀ (q7 : (Q7 y1 M1 y5 M5) y7 M7), ∀ (h9 : (y7 : Int32) = 0), P (.inl (some (.int (Int32.ofInt 0)))) SHF M7) : AW l (pI pg 237) P kc ks 0 [(0, .ref 58), (1, .int (x)), (2, .int (y))] [] SHF M := by
  refine AW.aload_n (dq rfl) rfl rfl ?_
  show AW l (pI pg 237) P kc ks 1 _ _ SHF _
  refine AW.iconst (dq rfl) ?_
  show AW l (pI pg 237) P kc ks 2 _ _ SHF _
  refine fw_putI (dq rfl) (pg_ok.2.1 237 _ _ _ _ rfl) rfl rfl rfl ?_
  show AW l (pI pg 237) P kc ks 5 _ _ SHF _
  refine AW.aload_n (dq rfl) rfl rfl ?_
  show AW l (pI pg 237) P kc ks 6 _ _ SHF _
  refine AW.iload_n (dq rfl) rfl ?_
  show AW l (pI pg 237) P kc ks 7 _ _ SHF _
  refine fw_callVI (as := [.int (x)]) (dq rfl) (pg_ok.2.2.1 237 _ _ _ _ rfl) rfl (by decide +kernel) rfl rfl (c2) (fun y1 M1 e1 q1 => ?_)
  have hJ1 : ∀ e ∈ RM, M1.2.2 e.1 e.2.1 = e.2.2 := fun e he => by rw [e1]; exact hJ e he
  show AW l (pI pg 237) P kc ks 10 [(0, .ref 58), (1, .int (x)), (2, .int (y))] [.int (y1)] SHF _
  refine AW.if_eq (dq rfl) (tgt := 29) (by decide) (fun h3 => ?_) (fun h3 => ?_)
  · have _ := h3
    refine AW.iconst (dq rfl) ?_
    show AW l (pI pg 237) P kc ks 30 _ _ SHF _
    refine AW.iret (dq rfl) rfl ?_
    exact r4 y1 M1 e1 q1 h3
  · have _ := h3
    refine AW.aload_n (dq rfl) rfl rfl ?_
    show AW l (pI pg 237) P kc ks 14 _ _ SHF _
    refine AW.iload_n (dq rfl) rfl ?_
    show AW l (pI pg 237) P kc ks 15 _ _ SHF _
    refine AW.iconst (dq rfl) ?_
    show AW l (pI pg 237) P kc ks 16 _ _ SHF _
    refine AW.sipush (dq rfl) ?_
    show AW l (pI pg 237) P kc ks 19 _ _ SHF _
    refine fw_callSI (as := [.int (y), .int (Int32.ofInt 0), .int ((Int16.ofInt 5000).toInt32)]) (dq rfl) (pg_ok.2.2.1 237 _ _ _ _ rfl) (by decide +kernel) rfl rfl (c6 y1 M1 e1 q1 h3) (fun y5 M5 e5 q5 => ?_)
    have hJ5 : ∀ e ∈ RM, M5.2.2 e.1 e.2.1 = e.2.2 := fun e he => by rw [e5]; exact hJ1 e he
    show AW l (pI pg 237) P kc ks 22 [(0, .ref 58), (1, .int (x)), (2, .int (y))] [.int (y5), .ref 58] SHF _
    refine AW.iconst (dq rfl) ?_
    show AW l (pI pg 237) P kc ks 23 _ _ SHF _
    refine fw_callVI (as := [.int (y5), .int (Int32.ofInt 2)]) (dq rfl) (pg_ok.2.2.1 237 _ _ _ _ rfl) rfl (by decide +kernel) rfl rfl (c8 y1 M1 e1 q1 h3 y5 M5 e5 q5) (fun y7 M7 e7 q7 => ?_)
    have hJ7 : ∀ e ∈ RM, M7.2.2 e.1 e.2.1 = e.2.2 := fun e he => by rw [e7]; exact hJ5 e he
    show AW l (pI pg 237) P kc ks 26 [(0, .ref 58), (1, .int (x)), (2, .int (y))] [.int (y7)] SHF _
    refine AW.if_ne (dq rfl) (tgt := 31) (by decide) (fun h9 => ?_) (fun h9 => ?_)
    · have _ := h9
      refine AW.ldc2 (dq rfl) (pg_ok.2.2.2.2.2.1 237 _ 1000000000 rfl) ?_
      show AW l (pI pg 237) P kc ks 34 _ _ SHF _
      refine AW.lstore_n (dq rfl) (by decide +kernel) ?_
      show AW l (pI pg 237) P kc ks 35 [(3, .long (1000000000)), (0, .ref 58), (1, .int (x)), (2, .int (y))] [] SHF _
      refine AW.iconst (dq rfl) ?_
      show AW l (pI pg 237) P kc ks 36 _ _ SHF _
      refine AW.istore (dq rfl) (by decide +kernel) ?_
      show AW l (pI pg 237) P kc ks 38 [(5, .int (Int32.ofInt 0)), (3, .long (1000000000)), (0, .ref 58), (1, .int (x)), (2, .int (y))] [] SHF _
      refine AW.drop (lv' := [(5, .int (Int32.ofInt 0)), (3, .long (1000000000)), (2, .int (y)), (1, .int (x)), (0, .ref 58)]) (List.forall_mem_cons.mpr ⟨List.mem_of_getElem? (i := 0) rfl, List.forall_mem_cons.mpr ⟨List.mem_of_getElem? (i := 1) rfl, List.forall_mem_cons.mpr ⟨List.mem_of_getElem? (i := 4) rfl, List.forall_mem_cons.mpr ⟨List.mem_of_getElem? (i := 3) rfl, List.forall_mem_cons.mpr ⟨List.mem_of_getElem? (i := 2) rfl, fun _ h => absurd h List.not_mem_nil⟩⟩⟩⟩⟩) ?_
      exact k10 y1 M1 e1 q1 h3 y5 M5 e5 q5 y7 M7 e7 q7 h9
    · have _ := h9
      refine AW.iconst (dq rfl) ?_
      show AW l (pI pg 237) P kc ks 30 _ _ SHF _
      refine AW.iret (dq rfl) rfl ?_
      exact r11 y1 M1 e1 q1 h3 y5 M5 e5 q5 y7 M7 e7 q7 h9

theorem mse_38 {l : aL} {P : aP} {kc ks : Nat} {v x y : Int32} {w : Int64} {M : aM} (hJ : ∀ e ∈ RM, M.2.2 e.1 e.2.1 = e.2.2)  (r2 : ∀ (h1 : (y : Int32) ≤ (v : Int32)), P (.inl (some (.int ((w).toInt32)))) SHF M) (o3 : ∀ (h1 : ¬ ((y : Int32) ≤ (v : Int32))), vp_in (x) 6) (d4 : ∀ (h1 : ¬ ((y : Int32) ≤ (v : Int32))), ¬ (1000) = (0 : Int64)) (k5 : ∀ (h1 : ¬ ((y : Int32) ≤ (v : Int32))), AW l (pI pg 237) P kc ks 38 [(5, .int ((v) + Int32.ofInt 1)), (3, .long (((w) * ((((Int16.ofInt 1000).toInt32) - (M.1 60 (x).toNatClampNeg)).toInt64)) / (1000))), (2, .int (y)), (1, .int (x)), (0, .ref 58)] [] SHF M) : AW l (pI pg 237) P kc ks 38 [(5, .int (v)), (3, .long (w)), (2, .int (y)), (1, .int (x)), (0, .ref 58)] [] SHF M := by
  refine AW.iload (dq rfl) rfl ?_
  show AW l (pI pg 237) P kc ks 40 _ _ SHF _
  refine AW.iload_n (dq rfl) rfl ?_
  show AW l (pI pg 237) P kc ks 41 _ _ SHF _
  refine AW.icmp_ge (dq rfl) (tgt := 68) (by decide) (fun h1 => ?_) (fun h1 => ?_)
  · have _ := h1
    refine AW.lload_n (dq rfl) rfl ?_
    show AW l (pI pg 237) P kc ks 69 _ _ SHF _
    refine AW.l2i (dq rfl) ?_
    show AW l (pI pg 237) P kc ks 70 _ _ SHF _
    refine AW.iret (dq rfl) rfl ?_
    exact r2 h1
  · have _ := h1
    refine AW.lload_n (dq rfl) rfl ?_
    show AW l (pI pg 237) P kc ks 45 _ _ SHF _
    refine AW.sipush (dq rfl) ?_
    show AW l (pI pg 237) P kc ks 48 _ _ SHF _
    refine AW.aload_n (dq rfl) rfl rfl ?_
    show AW l (pI pg 237) P kc ks 49 _ _ SHF _
    refine fw_get (dq rfl) (pg_ok.2.1 237 _ _ _ _ rfl) rfl (v := .ref 60) (isTA_ok rfl (rgR_ok hJ rfl)) ?_
    show AW l (pI pg 237) P kc ks 52 _ _ SHF _
    refine AW.iload_n (dq rfl) rfl ?_
    show AW l (pI pg 237) P kc ks 53 _ _ SHF _
    refine AW.iald (dq rfl) rfl (o3 h1) ?_
    show AW l (pI pg 237) P kc ks 54 _ _ SHF _
    refine AW.isub (dq rfl) ?_
    show AW l (pI pg 237) P kc ks 55 _ _ SHF _
    refine AW.i2l (dq rfl) ?_
    show AW l (pI pg 237) P kc ks 56 _ _ SHF _
    refine AW.lmul (dq rfl) ?_
    show AW l (pI pg 237) P kc ks 57 _ _ SHF _
    refine AW.ldc2 (dq rfl) (pg_ok.2.2.2.2.2.1 237 _ 1000 rfl) ?_
    show AW l (pI pg 237) P kc ks 60 _ _ SHF _
    refine AW.ldiv (dq rfl) (d4 h1) ?_
    show AW l (pI pg 237) P kc ks 61 _ _ SHF _
    refine AW.lstore_n (dq rfl) (by decide +kernel) ?_
    show AW l (pI pg 237) P kc ks 62 [(3, .long (((w) * ((((Int16.ofInt 1000).toInt32) - (M.1 60 (x).toNatClampNeg)).toInt64)) / (1000))), (5, .int (v)), (2, .int (y)), (1, .int (x)), (0, .ref 58)] [] SHF _
    refine AW.iinc (dq rfl) rfl (by decide +kernel) ?_
    show AW l (pI pg 237) P kc ks 65 [(5, .int ((v) + Int32.ofInt 1)), (3, .long (((w) * ((((Int16.ofInt 1000).toInt32) - (M.1 60 (x).toNatClampNeg)).toInt64)) / (1000))), (2, .int (y)), (1, .int (x)), (0, .ref 58)] [] SHF _
    refine AW.goto (dq rfl) (tgt := 38) (by decide) ?_
    refine AW.drop (lv' := [(5, .int ((v) + Int32.ofInt 1)), (3, .long (((w) * ((((Int16.ofInt 1000).toInt32) - (M.1 60 (x).toNatClampNeg)).toInt64)) / (1000))), (2, .int (y)), (1, .int (x)), (0, .ref 58)]) (List.forall_mem_cons.mpr ⟨List.mem_of_getElem? (i := 0) rfl, List.forall_mem_cons.mpr ⟨List.mem_of_getElem? (i := 1) rfl, List.forall_mem_cons.mpr ⟨List.mem_of_getElem? (i := 2) rfl, List.forall_mem_cons.mpr ⟨List.mem_of_getElem? (i := 3) rfl, List.forall_mem_cons.mpr ⟨List.mem_of_getElem? (i := 4) rfl, fun _ h => absurd h List.not_mem_nil⟩⟩⟩⟩⟩) ?_
    exact k5 h1

