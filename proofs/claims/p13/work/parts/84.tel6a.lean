/-! stretches of judge, printed by wip/gen/segs_q5.py -/
theorem alpa_0 {l : aL} {P : aP} {kc ks : Nat} {M : aM}   (r1 : P (.inl (some (.int (((Int32.ofInt 1) <<< ((M.1 4 0) &&& 31)) - (Int32.ofInt 1))))) SHF M) : AW l (pI pg 32) P kc ks 0 [(0, .ref 4)] [] SHF M := by
  refine AW.iconst (dq rfl) ?_
  show AW l (pI pg 32) P kc ks 1 _ _ SHF _
  refine AW.aload_n (dq rfl) rfl rfl ?_
  show AW l (pI pg 32) P kc ks 2 _ _ SHF _
  refine fw_get (dq rfl) (pg_ok.2.1 32 _ _ _ _ rfl) rfl (v := .int (M.1 4 0)) rfl ?_
  show AW l (pI pg 32) P kc ks 5 _ _ SHF _
  refine AW.ishl (dq rfl) ?_
  show AW l (pI pg 32) P kc ks 6 _ _ SHF _
  refine AW.iconst (dq rfl) ?_
  show AW l (pI pg 32) P kc ks 7 _ _ SHF _
  refine AW.isub (dq rfl) ?_
  show AW l (pI pg 32) P kc ks 8 _ _ SHF _
  refine AW.iret (dq rfl) rfl ?_
  exact r1

theorem hofa_0 {l : aL} {P : aP} {kc ks : Nat} {x : Int32} {M : aM} (hJ : ∀ e ∈ RK, M.2.2 e.1 e.2.1 = e.2.2)  (o1 : vp_in (x) 8) (r2 : P (.inl (some (.int ((((Int32.ofInt 1) <<< ((M.1 10 (x).toNatClampNeg) &&& 31)) - (Int32.ofInt 1)) <<< ((M.1 9 (x).toNatClampNeg) &&& 31))))) SHF M) : AW l (pI pg 15) P kc ks 0 [(0, .ref 4), (1, .int (x))] [] SHF M := by
  refine AW.iconst (dq rfl) ?_
  show AW l (pI pg 15) P kc ks 1 _ _ SHF _
  refine AW.aload_n (dq rfl) rfl rfl ?_
  show AW l (pI pg 15) P kc ks 2 _ _ SHF _
  refine fw_get (dq rfl) (pg_ok.2.1 15 _ _ _ _ rfl) rfl (v := .ref 10) (isTA_ok rfl (rgR_ok hJ rfl)) ?_
  show AW l (pI pg 15) P kc ks 5 _ _ SHF _
  refine AW.iload_n (dq rfl) rfl ?_
  show AW l (pI pg 15) P kc ks 6 _ _ SHF _
  refine AW.iald (dq rfl) rfl (o1) ?_
  show AW l (pI pg 15) P kc ks 7 _ _ SHF _
  refine AW.ishl (dq rfl) ?_
  show AW l (pI pg 15) P kc ks 8 _ _ SHF _
  refine AW.iconst (dq rfl) ?_
  show AW l (pI pg 15) P kc ks 9 _ _ SHF _
  refine AW.isub (dq rfl) ?_
  show AW l (pI pg 15) P kc ks 10 _ _ SHF _
  refine AW.aload_n (dq rfl) rfl rfl ?_
  show AW l (pI pg 15) P kc ks 11 _ _ SHF _
  refine fw_get (dq rfl) (pg_ok.2.1 15 _ _ _ _ rfl) rfl (v := .ref 9) (isTA_ok rfl (rgR_ok hJ rfl)) ?_
  show AW l (pI pg 15) P kc ks 14 _ _ SHF _
  refine AW.iload_n (dq rfl) rfl ?_
  show AW l (pI pg 15) P kc ks 15 _ _ SHF _
  refine AW.iald (dq rfl) rfl (o1) ?_
  show AW l (pI pg 15) P kc ks 16 _ _ SHF _
  refine AW.ishl (dq rfl) ?_
  show AW l (pI pg 15) P kc ks 17 _ _ SHF _
  refine AW.iret (dq rfl) rfl ?_
  exact r2

theorem ckla_0 {l : aL} {P : aP} {kc ks : Nat} {x : Int32} {M : aM} (hJ : ∀ e ∈ RR.2, M.2.2 e.1 e.2.1 = e.2.2) (hl0 : l.1.stackTraces = false) (Q1 : Int32 → aM → Prop) (c2 : AC l (pI pg 32) (fcI M Q1) 0 0 [.ref 4] SHF M) (r4 : ∀ (y1 : Int32), ∀ (M1 : aM), ∀ (e1 : M1.2.2 = M.2.2), ∀ (q1 : Q1 y1 M1), ∀ (h3 : ((x) &&& ((y1) ^^^ (Int32.ofInt (-1))) : Int32) = 0), P (.inl none) SHF M1) (x5 : ∀ (y1 : Int32), ∀ (M1 : aM), ∀ (e1 : M1.2.2 = M.2.2), ∀ (q1 : Q1 y1 M1), ∀ (h3 : ¬ (((x) &&& ((y1) ^^^ (Int32.ofInt (-1))) : Int32) = 0)), P (.inr "java/lang/IllegalArgumentException") SHF M1) : AW l (pI pg 100) P (kc + 1) (ks + 6) 0 [(0, .ref 0), (1, .int (x))] [] SHF M := by
  refine AW.iload_n (dq rfl) rfl ?_
  show AW l (pI pg 100) P (kc + 1) (ks + 6) 1 _ _ SHF _
  refine AW.aload_n (dq rfl) rfl rfl ?_
  show AW l (pI pg 100) P (kc + 1) (ks + 6) 2 _ _ SHF _
  refine fw_get (dq rfl) (pg_ok.2.1 100 _ _ _ _ rfl) rfl (v := .ref 4) (isTA_ok rfl (rgR_ok hJ rfl)) ?_
  show AW l (pI pg 100) P (kc + 1) (ks + 6) 5 _ _ SHF _
  refine fw_callVI (as := []) (dq rfl) (pg_ok.2.2.1 100 _ _ _ _ rfl) rfl (by decide +kernel) rfl rfl (c2) (fun y1 M1 e1 q1 => ?_)
  have hJ1 : ∀ e ∈ RR.2, M1.2.2 e.1 e.2.1 = e.2.2 := fun e he => by rw [e1]; exact hJ e he
  show AW l (pI pg 100) P (kc + 1) (ks + 6) 8 [(0, .ref 0), (1, .int (x))] [.int (y1), .int (x)] SHF _
  refine AW.iconst (dq rfl) ?_
  show AW l (pI pg 100) P (kc + 1) (ks + 6) 9 _ _ SHF _
  refine AW.ixor (dq rfl) ?_
  show AW l (pI pg 100) P (kc + 1) (ks + 6) 10 _ _ SHF _
  refine AW.iand (dq rfl) ?_
  show AW l (pI pg 100) P (kc + 1) (ks + 6) 11 _ _ SHF _
  refine AW.if_eq (dq rfl) (tgt := 25) (by decide) (fun h3 => ?_) (fun h3 => ?_)
  · have _ := h3
    refine AW.vret (dq rfl) rfl ?_
    exact r4 y1 M1 e1 q1 h3
  · have _ := h3
    refine pg_ok.2.2.2.2.2.2.2.1 100 _ _ rfl _ _ _ _ _ _ _ ?_
    exact x5 y1 M1 e1 q1 h3

theorem floa_0 {l : aL} {P : aP} {kc ks : Nat} {x y : Int32} {M : aM} (hJ : ∀ e ∈ RR.2, M.2.2 e.1 e.2.1 = e.2.2) (hl0 : l.1.stackTraces = false) (o1 : vp_in (x) 8) (o5 : ∀ (h3 : ¬ (hpV (M.1 4 0) (M.1 48 (x).toNatClampNeg) : Int32) = 0), ∀ (h4 : ¬ (((y) >>> ((M.1 48 (x).toNatClampNeg) &&& 31)) &&& (Int32.ofInt 1) : Int32) = 0), vp_in (((M.1 48 (x).toNatClampNeg) * ((Int8.ofInt 8).toInt32)) + (x)) 48) (k7 : ∀ (h3 : ¬ (hpV (M.1 4 0) (M.1 48 (x).toNatClampNeg) : Int32) = 0), ∀ (h4 : ¬ (((y) >>> ((M.1 48 (x).toNatClampNeg) &&& 31)) &&& (Int32.ofInt 1) : Int32) = 0), ∀ (h6 : ¬ (M.1 12 (((M.1 48 (x).toNatClampNeg) * ((Int8.ofInt 8).toInt32)) + (x)).toNatClampNeg : Int32) = 0), AW l (pI pg 122) P kc ks 66 [(6, .int (Int32.ofInt 0)), (5, .int (M.1 10 (x).toNatClampNeg)), (4, .int (Int32.ofInt 0)), (3, .int (M.1 48 (x).toNatClampNeg)), (2, .int (y)), (1, .int (x)), (0, .ref 0)] [] SHF M) (r8 : ∀ (h3 : ¬ (hpV (M.1 4 0) (M.1 48 (x).toNatClampNeg) : Int32) = 0), ∀ (h4 : ¬ (((y) >>> ((M.1 48 (x).toNatClampNeg) &&& 31)) &&& (Int32.ofInt 1) : Int32) = 0), ∀ (h6 : (M.1 12 (((M.1 48 (x).toNatClampNeg) * ((Int8.ofInt 8).toInt32)) + (x)).toNatClampNeg : Int32) = 0), P (.inl (some (.int (Int32.ofInt 3)))) SHF M) (r9 : ∀ (h3 : ¬ (hpV (M.1 4 0) (M.1 48 (x).toNatClampNeg) : Int32) = 0), ∀ (h4 : (((y) >>> ((M.1 48 (x).toNatClampNeg) &&& 31)) &&& (Int32.ofInt 1) : Int32) = 0), P (.inl (some (.int (Int32.ofInt 2)))) SHF M) (r10 : ∀ (h3 : (hpV (M.1 4 0) (M.1 48 (x).toNatClampNeg) : Int32) = 0), P (.inl (some (.int (Int32.ofInt 1)))) SHF M) : AW l (pI pg 122) P kc ks 0 [(0, .ref 0), (1, .int (x)), (2, .int (y))] [] SHF M := by
  refine AW.aload_n (dq rfl) rfl rfl ?_
  show AW l (pI pg 122) P kc ks 1 _ _ SHF _
  refine fw_get (dq rfl) (pg_ok.2.1 122 _ _ _ _ rfl) rfl (v := .ref 48) (isTA_ok rfl (rgR_ok hJ rfl)) ?_
  show AW l (pI pg 122) P kc ks 4 _ _ SHF _
  refine AW.iload_n (dq rfl) rfl ?_
  show AW l (pI pg 122) P kc ks 5 _ _ SHF _
  refine AW.iald (dq rfl) rfl (o1) ?_
  show AW l (pI pg 122) P kc ks 6 _ _ SHF _
  refine AW.istore_n (dq rfl) (by decide +kernel) ?_
  show AW l (pI pg 122) P kc ks 7 [(3, .int (M.1 48 (x).toNatClampNeg)), (0, .ref 0), (1, .int (x)), (2, .int (y))] [] SHF _
  refine AW.aload_n (dq rfl) rfl rfl ?_
  show AW l (pI pg 122) P kc ks 8 _ _ SHF _
  refine fw_get (dq rfl) (pg_ok.2.1 122 _ _ _ _ rfl) rfl (v := .ref 4) (isTA_ok rfl (rgR_ok hJ rfl)) ?_
  show AW l (pI pg 122) P kc ks 11 _ _ SHF _
  refine AW.iload_n (dq rfl) rfl ?_
  show AW l (pI pg 122) P kc ks 12 _ _ SHF _
  refine fw_callVI (as := [.int (M.1 48 (x).toNatClampNeg)]) (dq rfl) (pg_ok.2.2.1 122 _ _ _ _ rfl) rfl (by decide +kernel) rfl rfl (hpeA_c hl0 (fun e he => hJ e (rk_RR e he))) (fun y2 M2 e2 q2 => ?_)
  obtain ⟨rfl, rfl⟩ := q2
  show AW l (pI pg 122) P kc ks 15 [(3, .int (M.1 48 (x).toNatClampNeg)), (0, .ref 0), (1, .int (x)), (2, .int (y))] [.int (hpV (M.1 4 0) (M.1 48 (x).toNatClampNeg))] SHF _
  refine AW.if_ne (dq rfl) (tgt := 20) (by decide) (fun h3 => ?_) (fun h3 => ?_)
  · have _ := h3
    refine AW.iload_n (dq rfl) rfl ?_
    show AW l (pI pg 122) P kc ks 21 _ _ SHF _
    refine AW.iload_n (dq rfl) rfl ?_
    show AW l (pI pg 122) P kc ks 22 _ _ SHF _
    refine AW.ishr (dq rfl) ?_
    show AW l (pI pg 122) P kc ks 23 _ _ SHF _
    refine AW.iconst (dq rfl) ?_
    show AW l (pI pg 122) P kc ks 24 _ _ SHF _
    refine AW.iand (dq rfl) ?_
    show AW l (pI pg 122) P kc ks 25 _ _ SHF _
    refine AW.if_ne (dq rfl) (tgt := 30) (by decide) (fun h4 => ?_) (fun h4 => ?_)
    · have _ := h4
      refine AW.aload_n (dq rfl) rfl rfl ?_
      show AW l (pI pg 122) P kc ks 31 _ _ SHF _
      refine fw_get (dq rfl) (pg_ok.2.1 122 _ _ _ _ rfl) rfl (v := .ref 4) (isTA_ok rfl (rgR_ok hJ rfl)) ?_
      show AW l (pI pg 122) P kc ks 34 _ _ SHF _
      refine fw_get (dq rfl) (pg_ok.2.1 122 _ _ _ _ rfl) rfl (v := .ref 12) (isTA_ok rfl (rgR_ok hJ rfl)) ?_
      show AW l (pI pg 122) P kc ks 37 _ _ SHF _
      refine AW.iload_n (dq rfl) rfl ?_
      show AW l (pI pg 122) P kc ks 38 _ _ SHF _
      refine AW.bipush (dq rfl) ?_
      show AW l (pI pg 122) P kc ks 40 _ _ SHF _
      refine AW.imul (dq rfl) ?_
      show AW l (pI pg 122) P kc ks 41 _ _ SHF _
      refine AW.iload_n (dq rfl) rfl ?_
      show AW l (pI pg 122) P kc ks 42 _ _ SHF _
      refine AW.iadd (dq rfl) ?_
      show AW l (pI pg 122) P kc ks 43 _ _ SHF _
      refine AW.iald (dq rfl) rfl (o5 h3 h4) ?_
      show AW l (pI pg 122) P kc ks 44 _ _ SHF _
      refine AW.if_ne (dq rfl) (tgt := 49) (by decide) (fun h6 => ?_) (fun h6 => ?_)
      · have _ := h6
        refine AW.iconst (dq rfl) ?_
        show AW l (pI pg 122) P kc ks 50 _ _ SHF _
        refine AW.istore (dq rfl) (by decide +kernel) ?_
        show AW l (pI pg 122) P kc ks 52 [(4, .int (Int32.ofInt 0)), (3, .int (M.1 48 (x).toNatClampNeg)), (0, .ref 0), (1, .int (x)), (2, .int (y))] [] SHF _
        refine AW.aload_n (dq rfl) rfl rfl ?_
        show AW l (pI pg 122) P kc ks 53 _ _ SHF _
        refine fw_get (dq rfl) (pg_ok.2.1 122 _ _ _ _ rfl) rfl (v := .ref 4) (isTA_ok rfl (rgR_ok hJ rfl)) ?_
        show AW l (pI pg 122) P kc ks 56 _ _ SHF _
        refine fw_get (dq rfl) (pg_ok.2.1 122 _ _ _ _ rfl) rfl (v := .ref 10) (isTA_ok rfl (rgR_ok hJ rfl)) ?_
        show AW l (pI pg 122) P kc ks 59 _ _ SHF _
        refine AW.iload_n (dq rfl) rfl ?_
        show AW l (pI pg 122) P kc ks 60 _ _ SHF _
        refine AW.iald (dq rfl) rfl (o1) ?_
        show AW l (pI pg 122) P kc ks 61 _ _ SHF _
        refine AW.istore (dq rfl) (by decide +kernel) ?_
        show AW l (pI pg 122) P kc ks 63 [(5, .int (M.1 10 (x).toNatClampNeg)), (4, .int (Int32.ofInt 0)), (3, .int (M.1 48 (x).toNatClampNeg)), (0, .ref 0), (1, .int (x)), (2, .int (y))] [] SHF _
        refine AW.iconst (dq rfl) ?_
        show AW l (pI pg 122) P kc ks 64 _ _ SHF _
        refine AW.istore (dq rfl) (by decide +kernel) ?_
        show AW l (pI pg 122) P kc ks 66 [(6, .int (Int32.ofInt 0)), (5, .int (M.1 10 (x).toNatClampNeg)), (4, .int (Int32.ofInt 0)), (3, .int (M.1 48 (x).toNatClampNeg)), (0, .ref 0), (1, .int (x)), (2, .int (y))] [] SHF _
        refine AW.drop (lv' := [(6, .int (Int32.ofInt 0)), (5, .int (M.1 10 (x).toNatClampNeg)), (4, .int (Int32.ofInt 0)), (3, .int (M.1 48 (x).toNatClampNeg)), (2, .int (y)), (1, .int (x)), (0, .ref 0)]) (List.forall_mem_cons.mpr ⟨List.mem_of_getElem? (i := 0) rfl, List.forall_mem_cons.mpr ⟨List.mem_of_getElem? (i := 1) rfl, List.forall_mem_cons.mpr ⟨List.mem_of_getElem? (i := 2) rfl, List.forall_mem_cons.mpr ⟨List.mem_of_getElem? (i := 3) rfl, List.forall_mem_cons.mpr ⟨List.mem_of_getElem? (i := 6) rfl, List.forall_mem_cons.mpr ⟨List.mem_of_getElem? (i := 5) rfl, List.forall_mem_cons.mpr ⟨List.mem_of_getElem? (i := 4) rfl, fun _ h => absurd h List.not_mem_nil⟩⟩⟩⟩⟩⟩⟩) ?_
        exact k7 h3 h4 h6
      · have _ := h6
        refine AW.iconst (dq rfl) ?_
        show AW l (pI pg 122) P kc ks 48 _ _ SHF _
        refine AW.iret (dq rfl) rfl ?_
        exact r8 h3 h4 h6
    · have _ := h4
      refine AW.iconst (dq rfl) ?_
      show AW l (pI pg 122) P kc ks 29 _ _ SHF _
      refine AW.iret (dq rfl) rfl ?_
      exact r9 h3 h4
  · have _ := h3
    refine AW.iconst (dq rfl) ?_
    show AW l (pI pg 122) P kc ks 19 _ _ SHF _
    refine AW.iret (dq rfl) rfl ?_
    exact r10 h3

theorem floa_66 {l : aL} {P : aP} {kc ks : Nat} {i : Nat} {v b p x y : Int32} {M : aM} (hJ : ∀ e ∈ RR.2, M.2.2 e.1 e.2.1 = e.2.2) (hl0 : l.1.stackTraces = false) (Q2 : Int32 → aM → Prop) (c3 : ∀ (h1 : (x : Int32) ≤ (nI i : Int32)), AC l (pI pg 15) (fcI M Q2) 0 0 [.ref 4, .int (x)] SHF M) (o5 : ∀ (h1 : (x : Int32) ≤ (nI i : Int32)), ∀ (y2 : Int32), ∀ (M2 : aM), ∀ (e2 : M2.2.2 = M.2.2), ∀ (q2 : Q2 y2 M2), ∀ (h4 : ((b) &&& (y2) : Int32) = 0), vp_in (p) 6) (r7 : ∀ (h1 : (x : Int32) ≤ (nI i : Int32)), ∀ (y2 : Int32), ∀ (M2 : aM), ∀ (e2 : M2.2.2 = M.2.2), ∀ (q2 : Q2 y2 M2), ∀ (h4 : ((b) &&& (y2) : Int32) = 0), ∀ (h6 : (v : Int32) ≤ (M2.1 5 (p).toNatClampNeg : Int32)), P (.inl (some (.int (Int32.ofInt 0)))) SHF M2) (r8 : ∀ (h1 : (x : Int32) ≤ (nI i : Int32)), ∀ (y2 : Int32), ∀ (M2 : aM), ∀ (e2 : M2.2.2 = M.2.2), ∀ (q2 : Q2 y2 M2), ∀ (h4 : ((b) &&& (y2) : Int32) = 0), ∀ (h6 : ¬ ((v : Int32) ≤ (M2.1 5 (p).toNatClampNeg : Int32))), P (.inl (some (.int (Int32.ofInt 5)))) SHF M2) (r9 : ∀ (h1 : (x : Int32) ≤ (nI i : Int32)), ∀ (y2 : Int32), ∀ (M2 : aM), ∀ (e2 : M2.2.2 = M.2.2), ∀ (q2 : Q2 y2 M2), ∀ (h4 : ¬ (((b) &&& (y2) : Int32) = 0)), P (.inl (some (.int (Int32.ofInt 4)))) SHF M2) (o10 : ∀ (h1 : ¬ ((x : Int32) ≤ (nI i : Int32))), vp_in (nI i) 8) (k12 : ∀ (h1 : ¬ ((x : Int32) ≤ (nI i : Int32))), ∀ (h11 : ¬ (M.1 48 (nI i).toNatClampNeg : Int32) = (p : Int32)), AW l (pI pg 122) P kc ks 66 [(6, .int ((nI i) + Int32.ofInt 1)), (5, .int (v)), (4, .int (b)), (3, .int (p)), (2, .int (y)), (1, .int (x)), (0, .ref 0)] [] SHF M) (Q13 : Int32 → aM → Prop) (c14 : ∀ (h1 : ¬ ((x : Int32) ≤ (nI i : Int32))), ∀ (h11 : (M.1 48 (nI i).toNatClampNeg : Int32) = (p : Int32)), AC l (pI pg 15) (fcI M Q13) 0 0 [.ref 4, .int (nI i)] SHF M) (k15 : ∀ (h1 : ¬ ((x : Int32) ≤ (nI i : Int32))), ∀ (h11 : (M.1 48 (nI i).toNatClampNeg : Int32) = (p : Int32)), ∀ (y13 : Int32), ∀ (M13 : aM), ∀ (e13 : M13.2.2 = M.2.2), ∀ (q13 : Q13 y13 M13), AW l (pI pg 122) P kc ks 66 [(6, .int ((nI i) + Int32.ofInt 1)), (5, .int ((v) + (M13.1 10 (nI i).toNatClampNeg))), (4, .int ((b) ||| (y13))), (3, .int (p)), (2, .int (y)), (1, .int (x)), (0, .ref 0)] [] SHF M13) : AW l (pI pg 122) P kc ks 66 [(6, .int (nI i)), (5, .int (v)), (4, .int (b)), (3, .int (p)), (2, .int (y)), (1, .int (x)), (0, .ref 0)] [] SHF M := by
  refine AW.iload (dq rfl) rfl ?_
  show AW l (pI pg 122) P kc ks 68 _ _ SHF _
  refine AW.iload_n (dq rfl) rfl ?_
  show AW l (pI pg 122) P kc ks 69 _ _ SHF _
  refine AW.icmp_ge (dq rfl) (tgt := 118) (by decide) (fun h1 => ?_) (fun h1 => ?_)
  · have _ := h1
    refine AW.iload (dq rfl) rfl ?_
    show AW l (pI pg 122) P kc ks 120 _ _ SHF _
    refine AW.aload_n (dq rfl) rfl rfl ?_
    show AW l (pI pg 122) P kc ks 121 _ _ SHF _
    refine fw_get (dq rfl) (pg_ok.2.1 122 _ _ _ _ rfl) rfl (v := .ref 4) (isTA_ok rfl (rgR_ok hJ rfl)) ?_
    show AW l (pI pg 122) P kc ks 124 _ _ SHF _
    refine AW.iload_n (dq rfl) rfl ?_
    show AW l (pI pg 122) P kc ks 125 _ _ SHF _
    refine fw_callVI (as := [.int (x)]) (dq rfl) (pg_ok.2.2.1 122 _ _ _ _ rfl) rfl (by decide +kernel) rfl rfl (c3 h1) (fun y2 M2 e2 q2 => ?_)
    have hJ2 : ∀ e ∈ RR.2, M2.2.2 e.1 e.2.1 = e.2.2 := fun e he => by rw [e2]; exact hJ e he
    show AW l (pI pg 122) P kc ks 128 [(6, .int (nI i)), (5, .int (v)), (4, .int (b)), (3, .int (p)), (2, .int (y)), (1, .int (x)), (0, .ref 0)] [.int (y2), .int (b)] SHF _
    refine AW.iand (dq rfl) ?_
    show AW l (pI pg 122) P kc ks 129 _ _ SHF _
    refine AW.if_eq (dq rfl) (tgt := 134) (by decide) (fun h4 => ?_) (fun h4 => ?_)
    · have _ := h4
      refine AW.iload (dq rfl) rfl ?_
      show AW l (pI pg 122) P kc ks 136 _ _ SHF _
      refine AW.aload_n (dq rfl) rfl rfl ?_
      show AW l (pI pg 122) P kc ks 137 _ _ SHF _
      refine fw_get (dq rfl) (pg_ok.2.1 122 _ _ _ _ rfl) rfl (v := .ref 4) (isTA_ok rfl (rgR_ok hJ2 rfl)) ?_
      show AW l (pI pg 122) P kc ks 140 _ _ SHF _
      refine fw_get (dq rfl) (pg_ok.2.1 122 _ _ _ _ rfl) rfl (v := .ref 5) (isTA_ok rfl (rgR_ok hJ2 rfl)) ?_
      show AW l (pI pg 122) P kc ks 143 _ _ SHF _
      refine AW.iload_n (dq rfl) rfl ?_
      show AW l (pI pg 122) P kc ks 144 _ _ SHF _
      refine AW.iald (dq rfl) rfl (o5 h1 y2 M2 e2 q2 h4) ?_
      show AW l (pI pg 122) P kc ks 145 _ _ SHF _
      refine AW.icmp_le (dq rfl) (tgt := 152) (by decide) (fun h6 => ?_) (fun h6 => ?_)
      · have _ := h6
        refine AW.iconst (dq rfl) ?_
        show AW l (pI pg 122) P kc ks 153 _ _ SHF _
        refine AW.iret (dq rfl) rfl ?_
        exact r7 h1 y2 M2 e2 q2 h4 h6
      · have _ := h6
        refine AW.iconst (dq rfl) ?_
        show AW l (pI pg 122) P kc ks 149 _ _ SHF _
        refine AW.goto (dq rfl) (tgt := 153) (by decide) ?_
        refine AW.iret (dq rfl) rfl ?_
        exact r8 h1 y2 M2 e2 q2 h4 h6
    · have _ := h4
      refine AW.iconst (dq rfl) ?_
      show AW l (pI pg 122) P kc ks 133 _ _ SHF _
      refine AW.iret (dq rfl) rfl ?_
      exact r9 h1 y2 M2 e2 q2 h4
  · have _ := h1
    refine AW.aload_n (dq rfl) rfl rfl ?_
    show AW l (pI pg 122) P kc ks 73 _ _ SHF _
    refine fw_get (dq rfl) (pg_ok.2.1 122 _ _ _ _ rfl) rfl (v := .ref 48) (isTA_ok rfl (rgR_ok hJ rfl)) ?_
    show AW l (pI pg 122) P kc ks 76 _ _ SHF _
    refine AW.iload (dq rfl) rfl ?_
    show AW l (pI pg 122) P kc ks 78 _ _ SHF _
    refine AW.iald (dq rfl) rfl (o10 h1) ?_
    show AW l (pI pg 122) P kc ks 79 _ _ SHF _
    refine AW.iload_n (dq rfl) rfl ?_
    show AW l (pI pg 122) P kc ks 80 _ _ SHF _
    refine AW.icmp_ne (dq rfl) (tgt := 112) (by decide) (fun h11 => ?_) (fun h11 => ?_)
    · have _ := h11
      refine AW.iinc (dq rfl) rfl (by decide +kernel) ?_
      show AW l (pI pg 122) P kc ks 115 [(6, .int ((nI i) + Int32.ofInt 1)), (5, .int (v)), (4, .int (b)), (3, .int (p)), (2, .int (y)), (1, .int (x)), (0, .ref 0)] [] SHF _
      refine AW.goto (dq rfl) (tgt := 66) (by decide) ?_
      refine AW.drop (lv' := [(6, .int ((nI i) + Int32.ofInt 1)), (5, .int (v)), (4, .int (b)), (3, .int (p)), (2, .int (y)), (1, .int (x)), (0, .ref 0)]) (List.forall_mem_cons.mpr ⟨List.mem_of_getElem? (i := 0) rfl, List.forall_mem_cons.mpr ⟨List.mem_of_getElem? (i := 1) rfl, List.forall_mem_cons.mpr ⟨List.mem_of_getElem? (i := 2) rfl, List.forall_mem_cons.mpr ⟨List.mem_of_getElem? (i := 3) rfl, List.forall_mem_cons.mpr ⟨List.mem_of_getElem? (i := 4) rfl, List.forall_mem_cons.mpr ⟨List.mem_of_getElem? (i := 5) rfl, List.forall_mem_cons.mpr ⟨List.mem_of_getElem? (i := 6) rfl, fun _ h => absurd h List.not_mem_nil⟩⟩⟩⟩⟩⟩⟩) ?_
      exact k12 h1 h11
    · have _ := h11
      refine AW.iload (dq rfl) rfl ?_
      show AW l (pI pg 122) P kc ks 85 _ _ SHF _
      refine AW.aload_n (dq rfl) rfl rfl ?_
      show AW l (pI pg 122) P kc ks 86 _ _ SHF _
      refine fw_get (dq rfl) (pg_ok.2.1 122 _ _ _ _ rfl) rfl (v := .ref 4) (isTA_ok rfl (rgR_ok hJ rfl)) ?_
      show AW l (pI pg 122) P kc ks 89 _ _ SHF _
      refine AW.iload (dq rfl) rfl ?_
      show AW l (pI pg 122) P kc ks 91 _ _ SHF _
      refine fw_callVI (as := [.int (nI i)]) (dq rfl) (pg_ok.2.2.1 122 _ _ _ _ rfl) rfl (by decide +kernel) rfl rfl (c14 h1 h11) (fun y13 M13 e13 q13 => ?_)
      have hJ13 : ∀ e ∈ RR.2, M13.2.2 e.1 e.2.1 = e.2.2 := fun e he => by rw [e13]; exact hJ e he
      show AW l (pI pg 122) P kc ks 94 [(6, .int (nI i)), (5, .int (v)), (4, .int (b)), (3, .int (p)), (2, .int (y)), (1, .int (x)), (0, .ref 0)] [.int (y13), .int (b)] SHF _
      refine AW.ior (dq rfl) ?_
      show AW l (pI pg 122) P kc ks 95 _ _ SHF _
      refine AW.istore (dq rfl) (by decide +kernel) ?_
      show AW l (pI pg 122) P kc ks 97 [(4, .int ((b) ||| (y13))), (6, .int (nI i)), (5, .int (v)), (3, .int (p)), (2, .int (y)), (1, .int (x)), (0, .ref 0)] [] SHF _
      refine AW.iload (dq rfl) rfl ?_
      show AW l (pI pg 122) P kc ks 99 _ _ SHF _
      refine AW.aload_n (dq rfl) rfl rfl ?_
      show AW l (pI pg 122) P kc ks 100 _ _ SHF _
      refine fw_get (dq rfl) (pg_ok.2.1 122 _ _ _ _ rfl) rfl (v := .ref 4) (isTA_ok rfl (rgR_ok hJ13 rfl)) ?_
      show AW l (pI pg 122) P kc ks 103 _ _ SHF _
      refine fw_get (dq rfl) (pg_ok.2.1 122 _ _ _ _ rfl) rfl (v := .ref 10) (isTA_ok rfl (rgR_ok hJ13 rfl)) ?_
      show AW l (pI pg 122) P kc ks 106 _ _ SHF _
      refine AW.iload (dq rfl) rfl ?_
      show AW l (pI pg 122) P kc ks 108 _ _ SHF _
      refine AW.iald (dq rfl) rfl (o10 h1) ?_
      show AW l (pI pg 122) P kc ks 109 _ _ SHF _
      refine AW.iadd (dq rfl) ?_
      show AW l (pI pg 122) P kc ks 110 _ _ SHF _
      refine AW.istore (dq rfl) (by decide +kernel) ?_
      show AW l (pI pg 122) P kc ks 112 [(5, .int ((v) + (M13.1 10 (nI i).toNatClampNeg))), (4, .int ((b) ||| (y13))), (6, .int (nI i)), (3, .int (p)), (2, .int (y)), (1, .int (x)), (0, .ref 0)] [] SHF _
      refine AW.iinc (dq rfl) rfl (by decide +kernel) ?_
      show AW l (pI pg 122) P kc ks 115 [(6, .int ((nI i) + Int32.ofInt 1)), (5, .int ((v) + (M13.1 10 (nI i).toNatClampNeg))), (4, .int ((b) ||| (y13))), (3, .int (p)), (2, .int (y)), (1, .int (x)), (0, .ref 0)] [] SHF _
      refine AW.goto (dq rfl) (tgt := 66) (by decide) ?_
      refine AW.drop (lv' := [(6, .int ((nI i) + Int32.ofInt 1)), (5, .int ((v) + (M13.1 10 (nI i).toNatClampNeg))), (4, .int ((b) ||| (y13))), (3, .int (p)), (2, .int (y)), (1, .int (x)), (0, .ref 0)]) (List.forall_mem_cons.mpr ⟨List.mem_of_getElem? (i := 0) rfl, List.forall_mem_cons.mpr ⟨List.mem_of_getElem? (i := 1) rfl, List.forall_mem_cons.mpr ⟨List.mem_of_getElem? (i := 2) rfl, List.forall_mem_cons.mpr ⟨List.mem_of_getElem? (i := 3) rfl, List.forall_mem_cons.mpr ⟨List.mem_of_getElem? (i := 4) rfl, List.forall_mem_cons.mpr ⟨List.mem_of_getElem? (i := 5) rfl, List.forall_mem_cons.mpr ⟨List.mem_of_getElem? (i := 6) rfl, fun _ h => absurd h List.not_mem_nil⟩⟩⟩⟩⟩⟩⟩) ?_
      exact k15 h1 h11 y13 M13 e13 q13

theorem juda_0 {l : aL} {P : aP} {kc ks : Nat} {y : Int32} {M : aM} (hJ : ∀ e ∈ RR.2, M.2.2 e.1 e.2.1 = e.2.2) (hl0 : l.1.stackTraces = false) (B1 : Prop) (c2 : AC l (pI pg 100) (tcV "java/lang/IllegalArgumentException" M B1) 1 6 [.ref 0, .int (y)] SHF M) (x3 : B1 → P (.inr "java/lang/IllegalArgumentException") SHF M) (k4 : ∀ (b1 : ¬ B1), AW l (pI pg 121) P kc ks 7 [(2, .int (Int32.ofInt 0)), (1, .int (y)), (0, .ref 0)] [] SHF M) : AW l (pI pg 121) P (kc + 1) (ks + 6) 0 [(0, .ref 0), (1, .int (y))] [] SHF M := by
  refine AW.aload_n (dq rfl) rfl rfl ?_
  show AW l (pI pg 121) P (kc + 1) (ks + 6) 1 _ _ SHF _
  refine AW.iload_n (dq rfl) rfl ?_
  show AW l (pI pg 121) P (kc + 1) (ks + 6) 2 _ _ SHF _
  refine fw_tcV (as := [.int (y)]) (dq rfl) (pg_ok.2.2.1 121 _ _ _ _ rfl) rfl (by decide +kernel) rfl rfl (c2) (by decide +kernel) (x3) (fun b1 => ?_)
  show AW l (pI pg 121) P kc ks 5 [(0, .ref 0), (1, .int (y))] [] SHF _
  refine AW.iconst (dq rfl) ?_
  show AW l (pI pg 121) P kc ks 6 _ _ SHF _
  refine AW.istore_n (dq rfl) (by decide +kernel) ?_
  show AW l (pI pg 121) P kc ks 7 [(2, .int (Int32.ofInt 0)), (0, .ref 0), (1, .int (y))] [] SHF _
  refine AW.drop (lv' := [(2, .int (Int32.ofInt 0)), (1, .int (y)), (0, .ref 0)]) (List.forall_mem_cons.mpr ⟨List.mem_of_getElem? (i := 0) rfl, List.forall_mem_cons.mpr ⟨List.mem_of_getElem? (i := 2) rfl, List.forall_mem_cons.mpr ⟨List.mem_of_getElem? (i := 1) rfl, fun _ h => absurd h List.not_mem_nil⟩⟩⟩) ?_
  exact k4 b1

theorem juda_7 {l : aL} {P : aP} {kc ks : Nat} {i : Nat} {y : Int32} {M : aM} (hJ : ∀ e ∈ RR.2, M.2.2 e.1 e.2.1 = e.2.2) (hl0 : l.1.stackTraces = false) (r2 : ∀ (h1 : (M.1 4 1 : Int32) ≤ (nI i : Int32)), P (.inl (some (.int (Int32.ofInt (-1))))) SHF M) (Q3 : Int32 → aM → Prop) (c4 : ∀ (h1 : ¬ ((M.1 4 1 : Int32) ≤ (nI i : Int32))), AC l (pI pg 122) (fcI M Q3) 0 0 [.ref 0, .int (nI i), .int (y)] SHF M) (k6 : ∀ (h1 : ¬ ((M.1 4 1 : Int32) ≤ (nI i : Int32))), ∀ (y3 : Int32), ∀ (M3 : aM), ∀ (e3 : M3.2.2 = M.2.2), ∀ (q3 : Q3 y3 M3), ∀ (h5 : (y3 : Int32) = 0), AW l (pI pg 121) P kc ks 7 [(2, .int ((nI i) + Int32.ofInt 1)), (1, .int (y)), (0, .ref 0)] [] SHF M3) (r7 : ∀ (h1 : ¬ ((M.1 4 1 : Int32) ≤ (nI i : Int32))), ∀ (y3 : Int32), ∀ (M3 : aM), ∀ (e3 : M3.2.2 = M.2.2), ∀ (q3 : Q3 y3 M3), ∀ (h5 : ¬ ((y3 : Int32) = 0)), P (.inl (some (.int ((((Int8.ofInt 10).toInt32) * (nI i)) + (y3))))) SHF M3) : AW l (pI pg 121) P kc ks 7 [(2, .int (nI i)), (1, .int (y)), (0, .ref 0)] [] SHF M := by
  refine AW.iload_n (dq rfl) rfl ?_
  show AW l (pI pg 121) P kc ks 8 _ _ SHF _
  refine AW.aload_n (dq rfl) rfl rfl ?_
  show AW l (pI pg 121) P kc ks 9 _ _ SHF _
  refine fw_get (dq rfl) (pg_ok.2.1 121 _ _ _ _ rfl) rfl (v := .ref 4) (isTA_ok rfl (rgR_ok hJ rfl)) ?_
  show AW l (pI pg 121) P kc ks 12 _ _ SHF _
  refine fw_get (dq rfl) (pg_ok.2.1 121 _ _ _ _ rfl) rfl (v := .int (M.1 4 1)) rfl ?_
  show AW l (pI pg 121) P kc ks 15 _ _ SHF _
  refine AW.icmp_ge (dq rfl) (tgt := 42) (by decide) (fun h1 => ?_) (fun h1 => ?_)
  · have _ := h1
    refine AW.iconst (dq rfl) ?_
    show AW l (pI pg 121) P kc ks 43 _ _ SHF _
    refine AW.iret (dq rfl) rfl ?_
    exact r2 h1
  · have _ := h1
    refine AW.aload_n (dq rfl) rfl rfl ?_
    show AW l (pI pg 121) P kc ks 19 _ _ SHF _
    refine AW.iload_n (dq rfl) rfl ?_
    show AW l (pI pg 121) P kc ks 20 _ _ SHF _
    refine AW.iload_n (dq rfl) rfl ?_
    show AW l (pI pg 121) P kc ks 21 _ _ SHF _
    refine fw_callVI (as := [.int (nI i), .int (y)]) (dq rfl) (pg_ok.2.2.1 121 _ _ _ _ rfl) rfl (by decide +kernel) rfl rfl (c4 h1) (fun y3 M3 e3 q3 => ?_)
    have hJ3 : ∀ e ∈ RR.2, M3.2.2 e.1 e.2.1 = e.2.2 := fun e he => by rw [e3]; exact hJ e he
    show AW l (pI pg 121) P kc ks 24 [(2, .int (nI i)), (1, .int (y)), (0, .ref 0)] [.int (y3)] SHF _
    refine AW.istore_n (dq rfl) (by decide +kernel) ?_
    show AW l (pI pg 121) P kc ks 25 [(3, .int (y3)), (2, .int (nI i)), (1, .int (y)), (0, .ref 0)] [] SHF _
    refine AW.iload_n (dq rfl) rfl ?_
    show AW l (pI pg 121) P kc ks 26 _ _ SHF _
    refine AW.if_eq (dq rfl) (tgt := 36) (by decide) (fun h5 => ?_) (fun h5 => ?_)
    · have _ := h5
      refine AW.iinc (dq rfl) rfl (by decide +kernel) ?_
      show AW l (pI pg 121) P kc ks 39 [(2, .int ((nI i) + Int32.ofInt 1)), (3, .int (y3)), (1, .int (y)), (0, .ref 0)] [] SHF _
      refine AW.goto (dq rfl) (tgt := 7) (by decide) ?_
      refine AW.drop (lv' := [(2, .int ((nI i) + Int32.ofInt 1)), (1, .int (y)), (0, .ref 0)]) (List.forall_mem_cons.mpr ⟨List.mem_of_getElem? (i := 0) rfl, List.forall_mem_cons.mpr ⟨List.mem_of_getElem? (i := 2) rfl, List.forall_mem_cons.mpr ⟨List.mem_of_getElem? (i := 3) rfl, fun _ h => absurd h List.not_mem_nil⟩⟩⟩) ?_
      exact k6 h1 y3 M3 e3 q3 h5
    · have _ := h5
      refine AW.bipush (dq rfl) ?_
      show AW l (pI pg 121) P kc ks 31 _ _ SHF _
      refine AW.iload_n (dq rfl) rfl ?_
      show AW l (pI pg 121) P kc ks 32 _ _ SHF _
      refine AW.imul (dq rfl) ?_
      show AW l (pI pg 121) P kc ks 33 _ _ SHF _
      refine AW.iload_n (dq rfl) rfl ?_
      show AW l (pI pg 121) P kc ks 34 _ _ SHF _
      refine AW.iadd (dq rfl) ?_
      show AW l (pI pg 121) P kc ks 35 _ _ SHF _
      refine AW.iret (dq rfl) rfl ?_
      exact r7 h1 y3 M3 e3 q3 h5

theorem alpb_0 {l : aL} {P : aP} {kc ks : Nat} {M : aM}   (r1 : P (.inl (some (.int (((Int32.ofInt 1) <<< ((M.1 17 0) &&& 31)) - (Int32.ofInt 1))))) SHF M) : AW l (pI pg 32) P kc ks 0 [(0, .ref 17)] [] SHF M := by
  refine AW.iconst (dq rfl) ?_
  show AW l (pI pg 32) P kc ks 1 _ _ SHF _
  refine AW.aload_n (dq rfl) rfl rfl ?_
  show AW l (pI pg 32) P kc ks 2 _ _ SHF _
  refine fw_get (dq rfl) (pg_ok.2.1 32 _ _ _ _ rfl) rfl (v := .int (M.1 17 0)) rfl ?_
  show AW l (pI pg 32) P kc ks 5 _ _ SHF _
  refine AW.ishl (dq rfl) ?_
  show AW l (pI pg 32) P kc ks 6 _ _ SHF _
  refine AW.iconst (dq rfl) ?_
  show AW l (pI pg 32) P kc ks 7 _ _ SHF _
  refine AW.isub (dq rfl) ?_
  show AW l (pI pg 32) P kc ks 8 _ _ SHF _
  refine AW.iret (dq rfl) rfl ?_
  exact r1

theorem hofb_0 {l : aL} {P : aP} {kc ks : Nat} {x : Int32} {M : aM} (hJ : ∀ e ∈ RK, M.2.2 e.1 e.2.1 = e.2.2)  (o1 : vp_in (x) 8) (r2 : P (.inl (some (.int ((((Int32.ofInt 1) <<< ((M.1 23 (x).toNatClampNeg) &&& 31)) - (Int32.ofInt 1)) <<< ((M.1 22 (x).toNatClampNeg) &&& 31))))) SHF M) : AW l (pI pg 15) P kc ks 0 [(0, .ref 17), (1, .int (x))] [] SHF M := by
  refine AW.iconst (dq rfl) ?_
  show AW l (pI pg 15) P kc ks 1 _ _ SHF _
  refine AW.aload_n (dq rfl) rfl rfl ?_
  show AW l (pI pg 15) P kc ks 2 _ _ SHF _
  refine fw_get (dq rfl) (pg_ok.2.1 15 _ _ _ _ rfl) rfl (v := .ref 23) (isTA_ok rfl (rgR_ok hJ rfl)) ?_
  show AW l (pI pg 15) P kc ks 5 _ _ SHF _
  refine AW.iload_n (dq rfl) rfl ?_
  show AW l (pI pg 15) P kc ks 6 _ _ SHF _
  refine AW.iald (dq rfl) rfl (o1) ?_
  show AW l (pI pg 15) P kc ks 7 _ _ SHF _
  refine AW.ishl (dq rfl) ?_
  show AW l (pI pg 15) P kc ks 8 _ _ SHF _
  refine AW.iconst (dq rfl) ?_
  show AW l (pI pg 15) P kc ks 9 _ _ SHF _
  refine AW.isub (dq rfl) ?_
  show AW l (pI pg 15) P kc ks 10 _ _ SHF _
  refine AW.aload_n (dq rfl) rfl rfl ?_
  show AW l (pI pg 15) P kc ks 11 _ _ SHF _
  refine fw_get (dq rfl) (pg_ok.2.1 15 _ _ _ _ rfl) rfl (v := .ref 22) (isTA_ok rfl (rgR_ok hJ rfl)) ?_
  show AW l (pI pg 15) P kc ks 14 _ _ SHF _
  refine AW.iload_n (dq rfl) rfl ?_
  show AW l (pI pg 15) P kc ks 15 _ _ SHF _
  refine AW.iald (dq rfl) rfl (o1) ?_
  show AW l (pI pg 15) P kc ks 16 _ _ SHF _
  refine AW.ishl (dq rfl) ?_
  show AW l (pI pg 15) P kc ks 17 _ _ SHF _
  refine AW.iret (dq rfl) rfl ?_
  exact r2

theorem cklb_0 {l : aL} {P : aP} {kc ks : Nat} {x : Int32} {M : aM} (hJ : ∀ e ∈ RRS.2, M.2.2 e.1 e.2.1 = e.2.2) (hl0 : l.1.stackTraces = false) (Q1 : Int32 → aM → Prop) (c2 : AC l (pI pg 32) (fcI M Q1) 0 0 [.ref 17] SHF M) (r4 : ∀ (y1 : Int32), ∀ (M1 : aM), ∀ (e1 : M1.2.2 = M.2.2), ∀ (q1 : Q1 y1 M1), ∀ (h3 : ((x) &&& ((y1) ^^^ (Int32.ofInt (-1))) : Int32) = 0), P (.inl none) SHF M1) (x5 : ∀ (y1 : Int32), ∀ (M1 : aM), ∀ (e1 : M1.2.2 = M.2.2), ∀ (q1 : Q1 y1 M1), ∀ (h3 : ¬ (((x) &&& ((y1) ^^^ (Int32.ofInt (-1))) : Int32) = 0)), P (.inr "java/lang/IllegalArgumentException") SHF M1) : AW l (pI pg 100) P (kc + 1) (ks + 6) 0 [(0, .ref 0), (1, .int (x))] [] SHF M := by
  refine AW.iload_n (dq rfl) rfl ?_
  show AW l (pI pg 100) P (kc + 1) (ks + 6) 1 _ _ SHF _
  refine AW.aload_n (dq rfl) rfl rfl ?_
  show AW l (pI pg 100) P (kc + 1) (ks + 6) 2 _ _ SHF _
  refine fw_get (dq rfl) (pg_ok.2.1 100 _ _ _ _ rfl) rfl (v := .ref 17) (isTA_ok rfl (rgR_ok hJ rfl)) ?_
  show AW l (pI pg 100) P (kc + 1) (ks + 6) 5 _ _ SHF _
  refine fw_callVI (as := []) (dq rfl) (pg_ok.2.2.1 100 _ _ _ _ rfl) rfl (by decide +kernel) rfl rfl (c2) (fun y1 M1 e1 q1 => ?_)
  have hJ1 : ∀ e ∈ RRS.2, M1.2.2 e.1 e.2.1 = e.2.2 := fun e he => by rw [e1]; exact hJ e he
  show AW l (pI pg 100) P (kc + 1) (ks + 6) 8 [(0, .ref 0), (1, .int (x))] [.int (y1), .int (x)] SHF _
  refine AW.iconst (dq rfl) ?_
  show AW l (pI pg 100) P (kc + 1) (ks + 6) 9 _ _ SHF _
  refine AW.ixor (dq rfl) ?_
  show AW l (pI pg 100) P (kc + 1) (ks + 6) 10 _ _ SHF _
  refine AW.iand (dq rfl) ?_
  show AW l (pI pg 100) P (kc + 1) (ks + 6) 11 _ _ SHF _
  refine AW.if_eq (dq rfl) (tgt := 25) (by decide) (fun h3 => ?_) (fun h3 => ?_)
  · have _ := h3
    refine AW.vret (dq rfl) rfl ?_
    exact r4 y1 M1 e1 q1 h3
  · have _ := h3
    refine pg_ok.2.2.2.2.2.2.2.1 100 _ _ rfl _ _ _ _ _ _ _ ?_
    exact x5 y1 M1 e1 q1 h3

theorem flob_0 {l : aL} {P : aP} {kc ks : Nat} {x y : Int32} {M : aM} (hJ : ∀ e ∈ RRS.2, M.2.2 e.1 e.2.1 = e.2.2) (hl0 : l.1.stackTraces = false) (o1 : vp_in (x) 8) (o5 : ∀ (h3 : ¬ (hpV (M.1 17 0) (M.1 48 (x).toNatClampNeg) : Int32) = 0), ∀ (h4 : ¬ (((y) >>> ((M.1 48 (x).toNatClampNeg) &&& 31)) &&& (Int32.ofInt 1) : Int32) = 0), vp_in (((M.1 48 (x).toNatClampNeg) * ((Int8.ofInt 8).toInt32)) + (x)) 48) (k7 : ∀ (h3 : ¬ (hpV (M.1 17 0) (M.1 48 (x).toNatClampNeg) : Int32) = 0), ∀ (h4 : ¬ (((y) >>> ((M.1 48 (x).toNatClampNeg) &&& 31)) &&& (Int32.ofInt 1) : Int32) = 0), ∀ (h6 : ¬ (M.1 25 (((M.1 48 (x).toNatClampNeg) * ((Int8.ofInt 8).toInt32)) + (x)).toNatClampNeg : Int32) = 0), AW l (pI pg 122) P kc ks 66 [(6, .int (Int32.ofInt 0)), (5, .int (M.1 23 (x).toNatClampNeg)), (4, .int (Int32.ofInt 0)), (3, .int (M.1 48 (x).toNatClampNeg)), (2, .int (y)), (1, .int (x)), (0, .ref 0)] [] SHF M) (r8 : ∀ (h3 : ¬ (hpV (M.1 17 0) (M.1 48 (x).toNatClampNeg) : Int32) = 0), ∀ (h4 : ¬ (((y) >>> ((M.1 48 (x).toNatClampNeg) &&& 31)) &&& (Int32.ofInt 1) : Int32) = 0), ∀ (h6 : (M.1 25 (((M.1 48 (x).toNatClampNeg) * ((Int8.ofInt 8).toInt32)) + (x)).toNatClampNeg : Int32) = 0), P (.inl (some (.int (Int32.ofInt 3)))) SHF M) (r9 : ∀ (h3 : ¬ (hpV (M.1 17 0) (M.1 48 (x).toNatClampNeg) : Int32) = 0), ∀ (h4 : (((y) >>> ((M.1 48 (x).toNatClampNeg) &&& 31)) &&& (Int32.ofInt 1) : Int32) = 0), P (.inl (some (.int (Int32.ofInt 2)))) SHF M) (r10 : ∀ (h3 : (hpV (M.1 17 0) (M.1 48 (x).toNatClampNeg) : Int32) = 0), P (.inl (some (.int (Int32.ofInt 1)))) SHF M) : AW l (pI pg 122) P kc ks 0 [(0, .ref 0), (1, .int (x)), (2, .int (y))] [] SHF M := by
  refine AW.aload_n (dq rfl) rfl rfl ?_
  show AW l (pI pg 122) P kc ks 1 _ _ SHF _
  refine fw_get (dq rfl) (pg_ok.2.1 122 _ _ _ _ rfl) rfl (v := .ref 48) (isTA_ok rfl (rgR_ok hJ rfl)) ?_
  show AW l (pI pg 122) P kc ks 4 _ _ SHF _
  refine AW.iload_n (dq rfl) rfl ?_
  show AW l (pI pg 122) P kc ks 5 _ _ SHF _
  refine AW.iald (dq rfl) rfl (o1) ?_
  show AW l (pI pg 122) P kc ks 6 _ _ SHF _
  refine AW.istore_n (dq rfl) (by decide +kernel) ?_
  show AW l (pI pg 122) P kc ks 7 [(3, .int (M.1 48 (x).toNatClampNeg)), (0, .ref 0), (1, .int (x)), (2, .int (y))] [] SHF _
  refine AW.aload_n (dq rfl) rfl rfl ?_
  show AW l (pI pg 122) P kc ks 8 _ _ SHF _
  refine fw_get (dq rfl) (pg_ok.2.1 122 _ _ _ _ rfl) rfl (v := .ref 17) (isTA_ok rfl (rgR_ok hJ rfl)) ?_
  show AW l (pI pg 122) P kc ks 11 _ _ SHF _
  refine AW.iload_n (dq rfl) rfl ?_
  show AW l (pI pg 122) P kc ks 12 _ _ SHF _
  refine fw_callVI (as := [.int (M.1 48 (x).toNatClampNeg)]) (dq rfl) (pg_ok.2.2.1 122 _ _ _ _ rfl) rfl (by decide +kernel) rfl rfl (hpeB_c hl0 (fun e he => hJ e (rk_RRS e he))) (fun y2 M2 e2 q2 => ?_)
  obtain ⟨rfl, rfl⟩ := q2
  show AW l (pI pg 122) P kc ks 15 [(3, .int (M.1 48 (x).toNatClampNeg)), (0, .ref 0), (1, .int (x)), (2, .int (y))] [.int (hpV (M.1 17 0) (M.1 48 (x).toNatClampNeg))] SHF _
  refine AW.if_ne (dq rfl) (tgt := 20) (by decide) (fun h3 => ?_) (fun h3 => ?_)
  · have _ := h3
    refine AW.iload_n (dq rfl) rfl ?_
    show AW l (pI pg 122) P kc ks 21 _ _ SHF _
    refine AW.iload_n (dq rfl) rfl ?_
    show AW l (pI pg 122) P kc ks 22 _ _ SHF _
    refine AW.ishr (dq rfl) ?_
    show AW l (pI pg 122) P kc ks 23 _ _ SHF _
    refine AW.iconst (dq rfl) ?_
    show AW l (pI pg 122) P kc ks 24 _ _ SHF _
    refine AW.iand (dq rfl) ?_
    show AW l (pI pg 122) P kc ks 25 _ _ SHF _
    refine AW.if_ne (dq rfl) (tgt := 30) (by decide) (fun h4 => ?_) (fun h4 => ?_)
    · have _ := h4
      refine AW.aload_n (dq rfl) rfl rfl ?_
      show AW l (pI pg 122) P kc ks 31 _ _ SHF _
      refine fw_get (dq rfl) (pg_ok.2.1 122 _ _ _ _ rfl) rfl (v := .ref 17) (isTA_ok rfl (rgR_ok hJ rfl)) ?_
      show AW l (pI pg 122) P kc ks 34 _ _ SHF _
      refine fw_get (dq rfl) (pg_ok.2.1 122 _ _ _ _ rfl) rfl (v := .ref 25) (isTA_ok rfl (rgR_ok hJ rfl)) ?_
      show AW l (pI pg 122) P kc ks 37 _ _ SHF _
      refine AW.iload_n (dq rfl) rfl ?_
      show AW l (pI pg 122) P kc ks 38 _ _ SHF _
      refine AW.bipush (dq rfl) ?_
      show AW l (pI pg 122) P kc ks 40 _ _ SHF _
      refine AW.imul (dq rfl) ?_
      show AW l (pI pg 122) P kc ks 41 _ _ SHF _
      refine AW.iload_n (dq rfl) rfl ?_
      show AW l (pI pg 122) P kc ks 42 _ _ SHF _
      refine AW.iadd (dq rfl) ?_
      show AW l (pI pg 122) P kc ks 43 _ _ SHF _
      refine AW.iald (dq rfl) rfl (o5 h3 h4) ?_
      show AW l (pI pg 122) P kc ks 44 _ _ SHF _
      refine AW.if_ne (dq rfl) (tgt := 49) (by decide) (fun h6 => ?_) (fun h6 => ?_)
      · have _ := h6
        refine AW.iconst (dq rfl) ?_
        show AW l (pI pg 122) P kc ks 50 _ _ SHF _
        refine AW.istore (dq rfl) (by decide +kernel) ?_
        show AW l (pI pg 122) P kc ks 52 [(4, .int (Int32.ofInt 0)), (3, .int (M.1 48 (x).toNatClampNeg)), (0, .ref 0), (1, .int (x)), (2, .int (y))] [] SHF _
        refine AW.aload_n (dq rfl) rfl rfl ?_
        show AW l (pI pg 122) P kc ks 53 _ _ SHF _
        refine fw_get (dq rfl) (pg_ok.2.1 122 _ _ _ _ rfl) rfl (v := .ref 17) (isTA_ok rfl (rgR_ok hJ rfl)) ?_
        show AW l (pI pg 122) P kc ks 56 _ _ SHF _
        refine fw_get (dq rfl) (pg_ok.2.1 122 _ _ _ _ rfl) rfl (v := .ref 23) (isTA_ok rfl (rgR_ok hJ rfl)) ?_
        show AW l (pI pg 122) P kc ks 59 _ _ SHF _
        refine AW.iload_n (dq rfl) rfl ?_
        show AW l (pI pg 122) P kc ks 60 _ _ SHF _
        refine AW.iald (dq rfl) rfl (o1) ?_
        show AW l (pI pg 122) P kc ks 61 _ _ SHF _
        refine AW.istore (dq rfl) (by decide +kernel) ?_
        show AW l (pI pg 122) P kc ks 63 [(5, .int (M.1 23 (x).toNatClampNeg)), (4, .int (Int32.ofInt 0)), (3, .int (M.1 48 (x).toNatClampNeg)), (0, .ref 0), (1, .int (x)), (2, .int (y))] [] SHF _
        refine AW.iconst (dq rfl) ?_
        show AW l (pI pg 122) P kc ks 64 _ _ SHF _
        refine AW.istore (dq rfl) (by decide +kernel) ?_
        show AW l (pI pg 122) P kc ks 66 [(6, .int (Int32.ofInt 0)), (5, .int (M.1 23 (x).toNatClampNeg)), (4, .int (Int32.ofInt 0)), (3, .int (M.1 48 (x).toNatClampNeg)), (0, .ref 0), (1, .int (x)), (2, .int (y))] [] SHF _
        refine AW.drop (lv' := [(6, .int (Int32.ofInt 0)), (5, .int (M.1 23 (x).toNatClampNeg)), (4, .int (Int32.ofInt 0)), (3, .int (M.1 48 (x).toNatClampNeg)), (2, .int (y)), (1, .int (x)), (0, .ref 0)]) (List.forall_mem_cons.mpr ⟨List.mem_of_getElem? (i := 0) rfl, List.forall_mem_cons.mpr ⟨List.mem_of_getElem? (i := 1) rfl, List.forall_mem_cons.mpr ⟨List.mem_of_getElem? (i := 2) rfl, List.forall_mem_cons.mpr ⟨List.mem_of_getElem? (i := 3) rfl, List.forall_mem_cons.mpr ⟨List.mem_of_getElem? (i := 6) rfl, List.forall_mem_cons.mpr ⟨List.mem_of_getElem? (i := 5) rfl, List.forall_mem_cons.mpr ⟨List.mem_of_getElem? (i := 4) rfl, fun _ h => absurd h List.not_mem_nil⟩⟩⟩⟩⟩⟩⟩) ?_
        exact k7 h3 h4 h6
      · have _ := h6
        refine AW.iconst (dq rfl) ?_
        show AW l (pI pg 122) P kc ks 48 _ _ SHF _
        refine AW.iret (dq rfl) rfl ?_
        exact r8 h3 h4 h6
    · have _ := h4
      refine AW.iconst (dq rfl) ?_
      show AW l (pI pg 122) P kc ks 29 _ _ SHF _
      refine AW.iret (dq rfl) rfl ?_
      exact r9 h3 h4
  · have _ := h3
    refine AW.iconst (dq rfl) ?_
    show AW l (pI pg 122) P kc ks 19 _ _ SHF _
    refine AW.iret (dq rfl) rfl ?_
    exact r10 h3

theorem flob_66 {l : aL} {P : aP} {kc ks : Nat} {i : Nat} {v b p x y : Int32} {M : aM} (hJ : ∀ e ∈ RRS.2, M.2.2 e.1 e.2.1 = e.2.2) (hl0 : l.1.stackTraces = false) (Q2 : Int32 → aM → Prop) (c3 : ∀ (h1 : (x : Int32) ≤ (nI i : Int32)), AC l (pI pg 15) (fcI M Q2) 0 0 [.ref 17, .int (x)] SHF M) (o5 : ∀ (h1 : (x : Int32) ≤ (nI i : Int32)), ∀ (y2 : Int32), ∀ (M2 : aM), ∀ (e2 : M2.2.2 = M.2.2), ∀ (q2 : Q2 y2 M2), ∀ (h4 : ((b) &&& (y2) : Int32) = 0), vp_in (p) 6) (r7 : ∀ (h1 : (x : Int32) ≤ (nI i : Int32)), ∀ (y2 : Int32), ∀ (M2 : aM), ∀ (e2 : M2.2.2 = M.2.2), ∀ (q2 : Q2 y2 M2), ∀ (h4 : ((b) &&& (y2) : Int32) = 0), ∀ (h6 : (v : Int32) ≤ (M2.1 18 (p).toNatClampNeg : Int32)), P (.inl (some (.int (Int32.ofInt 0)))) SHF M2) (r8 : ∀ (h1 : (x : Int32) ≤ (nI i : Int32)), ∀ (y2 : Int32), ∀ (M2 : aM), ∀ (e2 : M2.2.2 = M.2.2), ∀ (q2 : Q2 y2 M2), ∀ (h4 : ((b) &&& (y2) : Int32) = 0), ∀ (h6 : ¬ ((v : Int32) ≤ (M2.1 18 (p).toNatClampNeg : Int32))), P (.inl (some (.int (Int32.ofInt 5)))) SHF M2) (r9 : ∀ (h1 : (x : Int32) ≤ (nI i : Int32)), ∀ (y2 : Int32), ∀ (M2 : aM), ∀ (e2 : M2.2.2 = M.2.2), ∀ (q2 : Q2 y2 M2), ∀ (h4 : ¬ (((b) &&& (y2) : Int32) = 0)), P (.inl (some (.int (Int32.ofInt 4)))) SHF M2) (o10 : ∀ (h1 : ¬ ((x : Int32) ≤ (nI i : Int32))), vp_in (nI i) 8) (k12 : ∀ (h1 : ¬ ((x : Int32) ≤ (nI i : Int32))), ∀ (h11 : ¬ (M.1 48 (nI i).toNatClampNeg : Int32) = (p : Int32)), AW l (pI pg 122) P kc ks 66 [(6, .int ((nI i) + Int32.ofInt 1)), (5, .int (v)), (4, .int (b)), (3, .int (p)), (2, .int (y)), (1, .int (x)), (0, .ref 0)] [] SHF M) (Q13 : Int32 → aM → Prop) (c14 : ∀ (h1 : ¬ ((x : Int32) ≤ (nI i : Int32))), ∀ (h11 : (M.1 48 (nI i).toNatClampNeg : Int32) = (p : Int32)), AC l (pI pg 15) (fcI M Q13) 0 0 [.ref 17, .int (nI i)] SHF M) (k15 : ∀ (h1 : ¬ ((x : Int32) ≤ (nI i : Int32))), ∀ (h11 : (M.1 48 (nI i).toNatClampNeg : Int32) = (p : Int32)), ∀ (y13 : Int32), ∀ (M13 : aM), ∀ (e13 : M13.2.2 = M.2.2), ∀ (q13 : Q13 y13 M13), AW l (pI pg 122) P kc ks 66 [(6, .int ((nI i) + Int32.ofInt 1)), (5, .int ((v) + (M13.1 23 (nI i).toNatClampNeg))), (4, .int ((b) ||| (y13))), (3, .int (p)), (2, .int (y)), (1, .int (x)), (0, .ref 0)] [] SHF M13) : AW l (pI pg 122) P kc ks 66 [(6, .int (nI i)), (5, .int (v)), (4, .int (b)), (3, .int (p)), (2, .int (y)), (1, .int (x)), (0, .ref 0)] [] SHF M := by
  refine AW.iload (dq rfl) rfl ?_
  show AW l (pI pg 122) P kc ks 68 _ _ SHF _
  refine AW.iload_n (dq rfl) rfl ?_
  show AW l (pI pg 122) P kc ks 69 _ _ SHF _
  refine AW.icmp_ge (dq rfl) (tgt := 118) (by decide) (fun h1 => ?_) (fun h1 => ?_)
  · have _ := h1
    refine AW.iload (dq rfl) rfl ?_
    show AW l (pI pg 122) P kc ks 120 _ _ SHF _
    refine AW.aload_n (dq rfl) rfl rfl ?_
    show AW l (pI pg 122) P kc ks 121 _ _ SHF _
    refine fw_get (dq rfl) (pg_ok.2.1 122 _ _ _ _ rfl) rfl (v := .ref 17) (isTA_ok rfl (rgR_ok hJ rfl)) ?_
    show AW l (pI pg 122) P kc ks 124 _ _ SHF _
    refine AW.iload_n (dq rfl) rfl ?_
    show AW l (pI pg 122) P kc ks 125 _ _ SHF _
    refine fw_callVI (as := [.int (x)]) (dq rfl) (pg_ok.2.2.1 122 _ _ _ _ rfl) rfl (by decide +kernel) rfl rfl (c3 h1) (fun y2 M2 e2 q2 => ?_)
    have hJ2 : ∀ e ∈ RRS.2, M2.2.2 e.1 e.2.1 = e.2.2 := fun e he => by rw [e2]; exact hJ e he
    show AW l (pI pg 122) P kc ks 128 [(6, .int (nI i)), (5, .int (v)), (4, .int (b)), (3, .int (p)), (2, .int (y)), (1, .int (x)), (0, .ref 0)] [.int (y2), .int (b)] SHF _
    refine AW.iand (dq rfl) ?_
    show AW l (pI pg 122) P kc ks 129 _ _ SHF _
    refine AW.if_eq (dq rfl) (tgt := 134) (by decide) (fun h4 => ?_) (fun h4 => ?_)
    · have _ := h4
      refine AW.iload (dq rfl) rfl ?_
      show AW l (pI pg 122) P kc ks 136 _ _ SHF _
      refine AW.aload_n (dq rfl) rfl rfl ?_
      show AW l (pI pg 122) P kc ks 137 _ _ SHF _
      refine fw_get (dq rfl) (pg_ok.2.1 122 _ _ _ _ rfl) rfl (v := .ref 17) (isTA_ok rfl (rgR_ok hJ2 rfl)) ?_
      show AW l (pI pg 122) P kc ks 140 _ _ SHF _
      refine fw_get (dq rfl) (pg_ok.2.1 122 _ _ _ _ rfl) rfl (v := .ref 18) (isTA_ok rfl (rgR_ok hJ2 rfl)) ?_
      show AW l (pI pg 122) P kc ks 143 _ _ SHF _
      refine AW.iload_n (dq rfl) rfl ?_
      show AW l (pI pg 122) P kc ks 144 _ _ SHF _
      refine AW.iald (dq rfl) rfl (o5 h1 y2 M2 e2 q2 h4) ?_
      show AW l (pI pg 122) P kc ks 145 _ _ SHF _
      refine AW.icmp_le (dq rfl) (tgt := 152) (by decide) (fun h6 => ?_) (fun h6 => ?_)
      · have _ := h6
        refine AW.iconst (dq rfl) ?_
        show AW l (pI pg 122) P kc ks 153 _ _ SHF _
        refine AW.iret (dq rfl) rfl ?_
        exact r7 h1 y2 M2 e2 q2 h4 h6
      · have _ := h6
        refine AW.iconst (dq rfl) ?_
        show AW l (pI pg 122) P kc ks 149 _ _ SHF _
        refine AW.goto (dq rfl) (tgt := 153) (by decide) ?_
        refine AW.iret (dq rfl) rfl ?_
        exact r8 h1 y2 M2 e2 q2 h4 h6
    · have _ := h4
      refine AW.iconst (dq rfl) ?_
      show AW l (pI pg 122) P kc ks 133 _ _ SHF _
      refine AW.iret (dq rfl) rfl ?_
      exact r9 h1 y2 M2 e2 q2 h4
  · have _ := h1
    refine AW.aload_n (dq rfl) rfl rfl ?_
    show AW l (pI pg 122) P kc ks 73 _ _ SHF _
    refine fw_get (dq rfl) (pg_ok.2.1 122 _ _ _ _ rfl) rfl (v := .ref 48) (isTA_ok rfl (rgR_ok hJ rfl)) ?_
    show AW l (pI pg 122) P kc ks 76 _ _ SHF _
    refine AW.iload (dq rfl) rfl ?_
    show AW l (pI pg 122) P kc ks 78 _ _ SHF _
    refine AW.iald (dq rfl) rfl (o10 h1) ?_
    show AW l (pI pg 122) P kc ks 79 _ _ SHF _
    refine AW.iload_n (dq rfl) rfl ?_
    show AW l (pI pg 122) P kc ks 80 _ _ SHF _
    refine AW.icmp_ne (dq rfl) (tgt := 112) (by decide) (fun h11 => ?_) (fun h11 => ?_)
    · have _ := h11
      refine AW.iinc (dq rfl) rfl (by decide +kernel) ?_
      show AW l (pI pg 122) P kc ks 115 [(6, .int ((nI i) + Int32.ofInt 1)), (5, .int (v)), (4, .int (b)), (3, .int (p)), (2, .int (y)), (1, .int (x)), (0, .ref 0)] [] SHF _
      refine AW.goto (dq rfl) (tgt := 66) (by decide) ?_
      refine AW.drop (lv' := [(6, .int ((nI i) + Int32.ofInt 1)), (5, .int (v)), (4, .int (b)), (3, .int (p)), (2, .int (y)), (1, .int (x)), (0, .ref 0)]) (List.forall_mem_cons.mpr ⟨List.mem_of_getElem? (i := 0) rfl, List.forall_mem_cons.mpr ⟨List.mem_of_getElem? (i := 1) rfl, List.forall_mem_cons.mpr ⟨List.mem_of_getElem? (i := 2) rfl, List.forall_mem_cons.mpr ⟨List.mem_of_getElem? (i := 3) rfl, List.forall_mem_cons.mpr ⟨List.mem_of_getElem? (i := 4) rfl, List.forall_mem_cons.mpr ⟨List.mem_of_getElem? (i := 5) rfl, List.forall_mem_cons.mpr ⟨List.mem_of_getElem? (i := 6) rfl, fun _ h => absurd h List.not_mem_nil⟩⟩⟩⟩⟩⟩⟩) ?_
      exact k12 h1 h11
    · have _ := h11
      refine AW.iload (dq rfl) rfl ?_
      show AW l (pI pg 122) P kc ks 85 _ _ SHF _
      refine AW.aload_n (dq rfl) rfl rfl ?_
      show AW l (pI pg 122) P kc ks 86 _ _ SHF _
      refine fw_get (dq rfl) (pg_ok.2.1 122 _ _ _ _ rfl) rfl (v := .ref 17) (isTA_ok rfl (rgR_ok hJ rfl)) ?_
      show AW l (pI pg 122) P kc ks 89 _ _ SHF _
      refine AW.iload (dq rfl) rfl ?_
      show AW l (pI pg 122) P kc ks 91 _ _ SHF _
      refine fw_callVI (as := [.int (nI i)]) (dq rfl) (pg_ok.2.2.1 122 _ _ _ _ rfl) rfl (by decide +kernel) rfl rfl (c14 h1 h11) (fun y13 M13 e13 q13 => ?_)
      have hJ13 : ∀ e ∈ RRS.2, M13.2.2 e.1 e.2.1 = e.2.2 := fun e he => by rw [e13]; exact hJ e he
      show AW l (pI pg 122) P kc ks 94 [(6, .int (nI i)), (5, .int (v)), (4, .int (b)), (3, .int (p)), (2, .int (y)), (1, .int (x)), (0, .ref 0)] [.int (y13), .int (b)] SHF _
      refine AW.ior (dq rfl) ?_
      show AW l (pI pg 122) P kc ks 95 _ _ SHF _
      refine AW.istore (dq rfl) (by decide +kernel) ?_
      show AW l (pI pg 122) P kc ks 97 [(4, .int ((b) ||| (y13))), (6, .int (nI i)), (5, .int (v)), (3, .int (p)), (2, .int (y)), (1, .int (x)), (0, .ref 0)] [] SHF _
      refine AW.iload (dq rfl) rfl ?_
      show AW l (pI pg 122) P kc ks 99 _ _ SHF _
      refine AW.aload_n (dq rfl) rfl rfl ?_
      show AW l (pI pg 122) P kc ks 100 _ _ SHF _
      refine fw_get (dq rfl) (pg_ok.2.1 122 _ _ _ _ rfl) rfl (v := .ref 17) (isTA_ok rfl (rgR_ok hJ13 rfl)) ?_
      show AW l (pI pg 122) P kc ks 103 _ _ SHF _
      refine fw_get (dq rfl) (pg_ok.2.1 122 _ _ _ _ rfl) rfl (v := .ref 23) (isTA_ok rfl (rgR_ok hJ13 rfl)) ?_
      show AW l (pI pg 122) P kc ks 106 _ _ SHF _
      refine AW.iload (dq rfl) rfl ?_
      show AW l (pI pg 122) P kc ks 108 _ _ SHF _
      refine AW.iald (dq rfl) rfl (o10 h1) ?_
      show AW l (pI pg 122) P kc ks 109 _ _ SHF _
      refine AW.iadd (dq rfl) ?_
      show AW l (pI pg 122) P kc ks 110 _ _ SHF _
      refine AW.istore (dq rfl) (by decide +kernel) ?_
      show AW l (pI pg 122) P kc ks 112 [(5, .int ((v) + (M13.1 23 (nI i).toNatClampNeg))), (4, .int ((b) ||| (y13))), (6, .int (nI i)), (3, .int (p)), (2, .int (y)), (1, .int (x)), (0, .ref 0)] [] SHF _
      refine AW.iinc (dq rfl) rfl (by decide +kernel) ?_
      show AW l (pI pg 122) P kc ks 115 [(6, .int ((nI i) + Int32.ofInt 1)), (5, .int ((v) + (M13.1 23 (nI i).toNatClampNeg))), (4, .int ((b) ||| (y13))), (3, .int (p)), (2, .int (y)), (1, .int (x)), (0, .ref 0)] [] SHF _
      refine AW.goto (dq rfl) (tgt := 66) (by decide) ?_
      refine AW.drop (lv' := [(6, .int ((nI i) + Int32.ofInt 1)), (5, .int ((v) + (M13.1 23 (nI i).toNatClampNeg))), (4, .int ((b) ||| (y13))), (3, .int (p)), (2, .int (y)), (1, .int (x)), (0, .ref 0)]) (List.forall_mem_cons.mpr ⟨List.mem_of_getElem? (i := 0) rfl, List.forall_mem_cons.mpr ⟨List.mem_of_getElem? (i := 1) rfl, List.forall_mem_cons.mpr ⟨List.mem_of_getElem? (i := 2) rfl, List.forall_mem_cons.mpr ⟨List.mem_of_getElem? (i := 3) rfl, List.forall_mem_cons.mpr ⟨List.mem_of_getElem? (i := 4) rfl, List.forall_mem_cons.mpr ⟨List.mem_of_getElem? (i := 5) rfl, List.forall_mem_cons.mpr ⟨List.mem_of_getElem? (i := 6) rfl, fun _ h => absurd h List.not_mem_nil⟩⟩⟩⟩⟩⟩⟩) ?_
      exact k15 h1 h11 y13 M13 e13 q13

theorem judb_0 {l : aL} {P : aP} {kc ks : Nat} {y : Int32} {M : aM} (hJ : ∀ e ∈ RRS.2, M.2.2 e.1 e.2.1 = e.2.2) (hl0 : l.1.stackTraces = false) (B1 : Prop) (c2 : AC l (pI pg 100) (tcV "java/lang/IllegalArgumentException" M B1) 1 6 [.ref 0, .int (y)] SHF M) (x3 : B1 → P (.inr "java/lang/IllegalArgumentException") SHF M) (k4 : ∀ (b1 : ¬ B1), AW l (pI pg 121) P kc ks 7 [(2, .int (Int32.ofInt 0)), (1, .int (y)), (0, .ref 0)] [] SHF M) : AW l (pI pg 121) P (kc + 1) (ks + 6) 0 [(0, .ref 0), (1, .int (y))] [] SHF M := by
  refine AW.aload_n (dq rfl) rfl rfl ?_
  show AW l (pI pg 121) P (kc + 1) (ks + 6) 1 _ _ SHF _
  refine AW.iload_n (dq rfl) rfl ?_
  show AW l (pI pg 121) P (kc + 1) (ks + 6) 2 _ _ SHF _
  refine fw_tcV (as := [.int (y)]) (dq rfl) (pg_ok.2.2.1 121 _ _ _ _ rfl) rfl (by decide +kernel) rfl rfl (c2) (by decide +kernel) (x3) (fun b1 => ?_)
  show AW l (pI pg 121) P kc ks 5 [(0, .ref 0), (1, .int (y))] [] SHF _
  refine AW.iconst (dq rfl) ?_
  show AW l (pI pg 121) P kc ks 6 _ _ SHF _
  refine AW.istore_n (dq rfl) (by decide +kernel) ?_
  show AW l (pI pg 121) P kc ks 7 [(2, .int (Int32.ofInt 0)), (0, .ref 0), (1, .int (y))] [] SHF _
  refine AW.drop (lv' := [(2, .int (Int32.ofInt 0)), (1, .int (y)), (0, .ref 0)]) (List.forall_mem_cons.mpr ⟨List.mem_of_getElem? (i := 0) rfl, List.forall_mem_cons.mpr ⟨List.mem_of_getElem? (i := 2) rfl, List.forall_mem_cons.mpr ⟨List.mem_of_getElem? (i := 1) rfl, fun _ h => absurd h List.not_mem_nil⟩⟩⟩) ?_
  exact k4 b1

theorem judb_7 {l : aL} {P : aP} {kc ks : Nat} {i : Nat} {y : Int32} {M : aM} (hJ : ∀ e ∈ RRS.2, M.2.2 e.1 e.2.1 = e.2.2) (hl0 : l.1.stackTraces = false) (r2 : ∀ (h1 : (M.1 17 1 : Int32) ≤ (nI i : Int32)), P (.inl (some (.int (Int32.ofInt (-1))))) SHF M) (Q3 : Int32 → aM → Prop) (c4 : ∀ (h1 : ¬ ((M.1 17 1 : Int32) ≤ (nI i : Int32))), AC l (pI pg 122) (fcI M Q3) 0 0 [.ref 0, .int (nI i), .int (y)] SHF M) (k6 : ∀ (h1 : ¬ ((M.1 17 1 : Int32) ≤ (nI i : Int32))), ∀ (y3 : Int32), ∀ (M3 : aM), ∀ (e3 : M3.2.2 = M.2.2), ∀ (q3 : Q3 y3 M3), ∀ (h5 : (y3 : Int32) = 0), AW l (pI pg 121) P kc ks 7 [(2, .int ((nI i) + Int32.ofInt 1)), (1, .int (y)), (0, .ref 0)] [] SHF M3) (r7 : ∀ (h1 : ¬ ((M.1 17 1 : Int32) ≤ (nI i : Int32))), ∀ (y3 : Int32), ∀ (M3 : aM), ∀ (e3 : M3.2.2 = M.2.2), ∀ (q3 : Q3 y3 M3), ∀ (h5 : ¬ ((y3 : Int32) = 0)), P (.inl (some (.int ((((Int8.ofInt 10).toInt32) * (nI i)) + (y3))))) SHF M3) : AW l (pI pg 121) P kc ks 7 [(2, .int (nI i)), (1, .int (y)), (0, .ref 0)] [] SHF M := by
  refine AW.iload_n (dq rfl) rfl ?_
  show AW l (pI pg 121) P kc ks 8 _ _ SHF _
  refine AW.aload_n (dq rfl) rfl rfl ?_
  show AW l (pI pg 121) P kc ks 9 _ _ SHF _
  refine fw_get (dq rfl) (pg_ok.2.1 121 _ _ _ _ rfl) rfl (v := .ref 17) (isTA_ok rfl (rgR_ok hJ rfl)) ?_
  show AW l (pI pg 121) P kc ks 12 _ _ SHF _
  refine fw_get (dq rfl) (pg_ok.2.1 121 _ _ _ _ rfl) rfl (v := .int (M.1 17 1)) rfl ?_
  show AW l (pI pg 121) P kc ks 15 _ _ SHF _
  refine AW.icmp_ge (dq rfl) (tgt := 42) (by decide) (fun h1 => ?_) (fun h1 => ?_)
  · have _ := h1
    refine AW.iconst (dq rfl) ?_
    show AW l (pI pg 121) P kc ks 43 _ _ SHF _
    refine AW.iret (dq rfl) rfl ?_
    exact r2 h1
  · have _ := h1
    refine AW.aload_n (dq rfl) rfl rfl ?_
    show AW l (pI pg 121) P kc ks 19 _ _ SHF _
    refine AW.iload_n (dq rfl) rfl ?_
    show AW l (pI pg 121) P kc ks 20 _ _ SHF _
    refine AW.iload_n (dq rfl) rfl ?_
    show AW l (pI pg 121) P kc ks 21 _ _ SHF _
    refine fw_callVI (as := [.int (nI i), .int (y)]) (dq rfl) (pg_ok.2.2.1 121 _ _ _ _ rfl) rfl (by decide +kernel) rfl rfl (c4 h1) (fun y3 M3 e3 q3 => ?_)
    have hJ3 : ∀ e ∈ RRS.2, M3.2.2 e.1 e.2.1 = e.2.2 := fun e he => by rw [e3]; exact hJ e he
    show AW l (pI pg 121) P kc ks 24 [(2, .int (nI i)), (1, .int (y)), (0, .ref 0)] [.int (y3)] SHF _
    refine AW.istore_n (dq rfl) (by decide +kernel) ?_
    show AW l (pI pg 121) P kc ks 25 [(3, .int (y3)), (2, .int (nI i)), (1, .int (y)), (0, .ref 0)] [] SHF _
    refine AW.iload_n (dq rfl) rfl ?_
    show AW l (pI pg 121) P kc ks 26 _ _ SHF _
    refine AW.if_eq (dq rfl) (tgt := 36) (by decide) (fun h5 => ?_) (fun h5 => ?_)
    · have _ := h5
      refine AW.iinc (dq rfl) rfl (by decide +kernel) ?_
      show AW l (pI pg 121) P kc ks 39 [(2, .int ((nI i) + Int32.ofInt 1)), (3, .int (y3)), (1, .int (y)), (0, .ref 0)] [] SHF _
      refine AW.goto (dq rfl) (tgt := 7) (by decide) ?_
      refine AW.drop (lv' := [(2, .int ((nI i) + Int32.ofInt 1)), (1, .int (y)), (0, .ref 0)]) (List.forall_mem_cons.mpr ⟨List.mem_of_getElem? (i := 0) rfl, List.forall_mem_cons.mpr ⟨List.mem_of_getElem? (i := 2) rfl, List.forall_mem_cons.mpr ⟨List.mem_of_getElem? (i := 3) rfl, fun _ h => absurd h List.not_mem_nil⟩⟩⟩) ?_
      exact k6 h1 y3 M3 e3 q3 h5
    · have _ := h5
      refine AW.bipush (dq rfl) ?_
      show AW l (pI pg 121) P kc ks 31 _ _ SHF _
      refine AW.iload_n (dq rfl) rfl ?_
      show AW l (pI pg 121) P kc ks 32 _ _ SHF _
      refine AW.imul (dq rfl) ?_
      show AW l (pI pg 121) P kc ks 33 _ _ SHF _
      refine AW.iload_n (dq rfl) rfl ?_
      show AW l (pI pg 121) P kc ks 34 _ _ SHF _
      refine AW.iadd (dq rfl) ?_
      show AW l (pI pg 121) P kc ks 35 _ _ SHF _
      refine AW.iret (dq rfl) rfl ?_
      exact r7 h1 y3 M3 e3 q3 h5

theorem isl_0 {l : aL} {P : aP} {kc ks : Nat} {x y : Int32} {M : aM} (hJ : ∀ e ∈ RM, M.2.2 e.1 e.2.1 = e.2.2)  (Q2 : Int32 → aM → Prop) (c3 : ∀ (h1 : (x : Int32) < 0), AC l (pI pg 175) (fcI M Q2) 0 0 [.ref 58, .int (Int32.ofInt 0), .int (y)] SHF M) (z4 : ∀ (h1 : (x : Int32) < 0), ∀ (y2 : Int32), ∀ (M2 : aM), ∀ (e2 : M2.2.2 = M.2.2), ∀ (q2 : Q2 y2 M2), narrow (.boolean) (.int (y2)) = .int (y2)) (r5 : ∀ (h1 : (x : Int32) < 0), ∀ (y2 : Int32), ∀ (M2 : aM), ∀ (e2 : M2.2.2 = M.2.2), ∀ (q2 : Q2 y2 M2), P (.inl (some (.int (y2)))) SHF M2) (Q7 : Int32 → aM → Prop) (c8 : ∀ (h1 : ¬ ((x : Int32) < 0)), ∀ (h6 : ((Int32.ofInt 1) <<< ((M.1 58 1) &&& 31) : Int32) ≤ (x : Int32)), AC l (pI pg 175) (fcI M Q7) 0 0 [.ref 58, .int (Int32.ofInt 0), .int (y)] SHF M) (z9 : ∀ (h1 : ¬ ((x : Int32) < 0)), ∀ (h6 : ((Int32.ofInt 1) <<< ((M.1 58 1) &&& 31) : Int32) ≤ (x : Int32)), ∀ (y7 : Int32), ∀ (M7 : aM), ∀ (e7 : M7.2.2 = M.2.2), ∀ (q7 : Q7 y7 M7), narrow (.boolean) (.int (y7)) = .int (y7)) (r10 : ∀ (h1 : ¬ ((x : Int32) < 0)), ∀ (h6 : ((Int32.ofInt 1) <<< ((M.1 58 1) &&& 31) : Int32) ≤ (x : Int32)), ∀ (y7 : Int32), ∀ (M7 : aM), ∀ (e7 : M7.2.2 = M.2.2), ∀ (q7 : Q7 y7 M7), P (.inl (some (.int (y7)))) SHF M7) (Q11 : Int32 → aM → Prop) (c12 : ∀ (h1 : ¬ ((x : Int32) < 0)), ∀ (h6 : ¬ (((Int32.ofInt 1) <<< ((M.1 58 1) &&& 31) : Int32) ≤ (x : Int32))), AC l (pI pg 175) (fcI M Q11) 0 0 [.ref 58, .int (Int32.ofInt 1), .int (y)] SHF M) (z13 : ∀ (h1 : ¬ ((x : Int32) < 0)), ∀ (h6 : ¬ (((Int32.ofInt 1) <<< ((M.1 58 1) &&& 31) : Int32) ≤ (x : Int32))), ∀ (y11 : Int32), ∀ (M11 : aM), ∀ (e11 : M11.2.2 = M.2.2), ∀ (q11 : Q11 y11 M11), narrow (.boolean) (.int (y11)) = .int (y11)) (r14 : ∀ (h1 : ¬ ((x : Int32) < 0)), ∀ (h6 : ¬ (((Int32.ofInt 1) <<< ((M.1 58 1) &&& 31) : Int32) ≤ (x : Int32))), ∀ (y11 : Int32), ∀ (M11 : aM), ∀ (e11 : M11.2.2 = M.2.2), ∀ (q11 : Q11 y11 M11), P (.inl (some (.int (y11)))) SHF M11) : AW l (pI pg 203) P kc ks 0 [(0, .ref 58), (1, .int (x)), (2, .int (y))] [] SHF M := by
  refine AW.aload_n (dq rfl) rfl rfl ?_
  show AW l (pI pg 203) P kc ks 1 _ _ SHF _
  refine AW.iload_n (dq rfl) rfl ?_
  show AW l (pI pg 203) P kc ks 2 _ _ SHF _
  refine AW.if_lt (dq rfl) (tgt := 19) (by decide) (fun h1 => ?_) (fun h1 => ?_)
  · have _ := h1
    refine AW.iconst (dq rfl) ?_
    show AW l (pI pg 203) P kc ks 20 _ _ SHF _
    refine AW.iload_n (dq rfl) rfl ?_
    show AW l (pI pg 203) P kc ks 21 _ _ SHF _
    refine fw_callVI (as := [.int (Int32.ofInt 0), .int (y)]) (dq rfl) (pg_ok.2.2.1 203 _ _ _ _ rfl) rfl (by decide +kernel) rfl rfl (c3 h1) (fun y2 M2 e2 q2 => ?_)
    have hJ2 : ∀ e ∈ RM, M2.2.2 e.1 e.2.1 = e.2.2 := fun e he => by rw [e2]; exact hJ e he
    show AW l (pI pg 203) P kc ks 24 [(0, .ref 58), (1, .int (x)), (2, .int (y))] [.int (y2)] SHF _
    refine AW.zret (dq rfl) rfl (z4 h1 y2 M2 e2 q2) ?_
    exact r5 h1 y2 M2 e2 q2
  · have _ := h1
    refine AW.iload_n (dq rfl) rfl ?_
    show AW l (pI pg 203) P kc ks 6 _ _ SHF _
    refine AW.iconst (dq rfl) ?_
    show AW l (pI pg 203) P kc ks 7 _ _ SHF _
    refine AW.aload_n (dq rfl) rfl rfl ?_
    show AW l (pI pg 203) P kc ks 8 _ _ SHF _
    refine fw_get (dq rfl) (pg_ok.2.1 203 _ _ _ _ rfl) rfl (v := .int (M.1 58 1)) rfl ?_
    show AW l (pI pg 203) P kc ks 11 _ _ SHF _
    refine AW.ishl (dq rfl) ?_
    show AW l (pI pg 203) P kc ks 12 _ _ SHF _
    refine AW.icmp_ge (dq rfl) (tgt := 19) (by decide) (fun h6 => ?_) (fun h6 => ?_)
    · have _ := h6
      refine AW.iconst (dq rfl) ?_
      show AW l (pI pg 203) P kc ks 20 _ _ SHF _
      refine AW.iload_n (dq rfl) rfl ?_
      show AW l (pI pg 203) P kc ks 21 _ _ SHF _
      refine fw_callVI (as := [.int (Int32.ofInt 0), .int (y)]) (dq rfl) (pg_ok.2.2.1 203 _ _ _ _ rfl) rfl (by decide +kernel) rfl rfl (c8 h1 h6) (fun y7 M7 e7 q7 => ?_)
      have hJ7 : ∀ e ∈ RM, M7.2.2 e.1 e.2.1 = e.2.2 := fun e he => by rw [e7]; exact hJ e he
      show AW l (pI pg 203) P kc ks 24 [(0, .ref 58), (1, .int (x)), (2, .int (y))] [.int (y7)] SHF _
      refine AW.zret (dq rfl) rfl (z9 h1 h6 y7 M7 e7 q7) ?_
      exact r10 h1 h6 y7 M7 e7 q7
    · have _ := h6
      refine AW.iconst (dq rfl) ?_
      show AW l (pI pg 203) P kc ks 16 _ _ SHF _
      refine AW.goto (dq rfl) (tgt := 20) (by decide) ?_
      refine AW.iload_n (dq rfl) rfl ?_
      show AW l (pI pg 203) P kc ks 21 _ _ SHF _
      refine fw_callVI (as := [.int (Int32.ofInt 1), .int (y)]) (dq rfl) (pg_ok.2.2.1 203 _ _ _ _ rfl) rfl (by decide +kernel) rfl rfl (c12 h1 h6) (fun y11 M11 e11 q11 => ?_)
      have hJ11 : ∀ e ∈ RM, M11.2.2 e.1 e.2.1 = e.2.2 := fun e he => by rw [e11]; exact hJ e he
      show AW l (pI pg 203) P kc ks 24 [(0, .ref 58), (1, .int (x)), (2, .int (y))] [.int (y11)] SHF _
      refine AW.zret (dq rfl) rfl (z13 h1 h6 y11 M11 e11 q11) ?_
      exact r14 h1 h6 y11 M11 e11 q11

theorem cla_0 {l : aL} {P : aP} {kc ks : Nat} {x y : Int32} {M : aM} (hJ : ∀ e ∈ RM, M.2.2 e.1 e.2.1 = e.2.2)  (o1 : vp_in (x) 8) (o2 : vp_in (y) 8) (r4 : ∀ (h3 : ((M.1 61 (y).toNatClampNeg) + (M.1 62 (y).toNatClampNeg) : Int32) ≤ (M.1 61 (x).toNatClampNeg : Int32)), P (.inl (some (.int (Int32.ofInt 0)))) SHF M) (r6 : ∀ (h3 : ¬ (((M.1 61 (y).toNatClampNeg) + (M.1 62 (y).toNatClampNeg) : Int32) ≤ (M.1 61 (x).toNatClampNeg : Int32))), ∀ (h5 : ((M.1 61 (x).toNatClampNeg) + (M.1 62 (x).toNatClampNeg) : Int32) ≤ (M.1 61 (y).toNatClampNeg : Int32)), P (.inl (some (.int (Int32.ofInt 0)))) SHF M) (r7 : ∀ (h3 : ¬ (((M.1 61 (y).toNatClampNeg) + (M.1 62 (y).toNatClampNeg) : Int32) ≤ (M.1 61 (x).toNatClampNeg : Int32))), ∀ (h5 : ¬ (((M.1 61 (x).toNatClampNeg) + (M.1 62 (x).toNatClampNeg) : Int32) ≤ (M.1 61 (y).toNatClampNeg : Int32))), P (.inl (some (.int (Int32.ofInt 1)))) SHF M) : AW l (pI pg 207) P kc ks 0 [(0, .ref 58), (1, .int (x)), (2, .int (y))] [] SHF M := by
  refine AW.aload_n (dq rfl) rfl rfl ?_
  show AW l (pI pg 207) P kc ks 1 _ _ SHF _
  refine fw_get (dq rfl) (pg_ok.2.1 207 _ _ _ _ rfl) rfl (v := .ref 61) (isTA_ok rfl (rgR_ok hJ rfl)) ?_
  show AW l (pI pg 207) P kc ks 4 _ _ SHF _
  refine AW.iload_n (dq rfl) rfl ?_
  show AW l (pI pg 207) P kc ks 5 _ _ SHF _
  refine AW.iald (dq rfl) rfl (o1) ?_
  show AW l (pI pg 207) P kc ks 6 _ _ SHF _
  refine AW.aload_n (dq rfl) rfl rfl ?_
  show AW l (pI pg 207) P kc ks 7 _ _ SHF _
  refine fw_get (dq rfl) (pg_ok.2.1 207 _ _ _ _ rfl) rfl (v := .ref 61) (isTA_ok rfl (rgR_ok hJ rfl)) ?_
  show AW l (pI pg 207) P kc ks 10 _ _ SHF _
  refine AW.iload_n (dq rfl) rfl ?_
  show AW l (pI pg 207) P kc ks 11 _ _ SHF _
  refine AW.iald (dq rfl) rfl (o2) ?_
  show AW l (pI pg 207) P kc ks 12 _ _ SHF _
  refine AW.aload_n (dq rfl) rfl rfl ?_
  show AW l (pI pg 207) P kc ks 13 _ _ SHF _
  refine fw_get (dq rfl) (pg_ok.2.1 207 _ _ _ _ rfl) rfl (v := .ref 62) (isTA_ok rfl (rgR_ok hJ rfl)) ?_
  show AW l (pI pg 207) P kc ks 16 _ _ SHF _
  refine AW.iload_n (dq rfl) rfl ?_
  show AW l (pI pg 207) P kc ks 17 _ _ SHF _
  refine AW.iald (dq rfl) rfl (o2) ?_
  show AW l (pI pg 207) P kc ks 18 _ _ SHF _
  refine AW.iadd (dq rfl) ?_
  show AW l (pI pg 207) P kc ks 19 _ _ SHF _
  refine AW.icmp_ge (dq rfl) (tgt := 48) (by decide) (fun h3 => ?_) (fun h3 => ?_)
  · have _ := h3
    refine AW.iconst (dq rfl) ?_
    show AW l (pI pg 207) P kc ks 49 _ _ SHF _
    refine AW.zret (dq rfl) rfl (by decide) ?_
    exact r4 h3
  · have _ := h3
    refine AW.aload_n (dq rfl) rfl rfl ?_
    show AW l (pI pg 207) P kc ks 23 _ _ SHF _
    refine fw_get (dq rfl) (pg_ok.2.1 207 _ _ _ _ rfl) rfl (v := .ref 61) (isTA_ok rfl (rgR_ok hJ rfl)) ?_
    show AW l (pI pg 207) P kc ks 26 _ _ SHF _
    refine AW.iload_n (dq rfl) rfl ?_
    show AW l (pI pg 207) P kc ks 27 _ _ SHF _
    refine AW.iald (dq rfl) rfl (o2) ?_
    show AW l (pI pg 207) P kc ks 28 _ _ SHF _
    refine AW.aload_n (dq rfl) rfl rfl ?_
    show AW l (pI pg 207) P kc ks 29 _ _ SHF _
    refine fw_get (dq rfl) (pg_ok.2.1 207 _ _ _ _ rfl) rfl (v := .ref 61) (isTA_ok rfl (rgR_ok hJ rfl)) ?_
    show AW l (pI pg 207) P kc ks 32 _ _ SHF _
    refine AW.iload_n (dq rfl) rfl ?_
    show AW l (pI pg 207) P kc ks 33 _ _ SHF _
    refine AW.iald (dq rfl) rfl (o1) ?_
    show AW l (pI pg 207) P kc ks 34 _ _ SHF _
    refine AW.aload_n (dq rfl) rfl rfl ?_
    show AW l (pI pg 207) P kc ks 35 _ _ SHF _
    refine fw_get (dq rfl) (pg_ok.2.1 207 _ _ _ _ rfl) rfl (v := .ref 62) (isTA_ok rfl (rgR_ok hJ rfl)) ?_
    show AW l (pI pg 207) P kc ks 38 _ _ SHF _
    refine AW.iload_n (dq rfl) rfl ?_
    show AW l (pI pg 207) P kc ks 39 _ _ SHF _
    refine AW.iald (dq rfl) rfl (o1) ?_
    show AW l (pI pg 207) P kc ks 40 _ _ SHF _
    refine AW.iadd (dq rfl) ?_
    show AW l (pI pg 207) P kc ks 41 _ _ SHF _
    refine AW.icmp_ge (dq rfl) (tgt := 48) (by decide) (fun h5 => ?_) (fun h5 => ?_)
    · have _ := h5
      refine AW.iconst (dq rfl) ?_
      show AW l (pI pg 207) P kc ks 49 _ _ SHF _
      refine AW.zret (dq rfl) rfl (by decide) ?_
      exact r6 h3 h5
    · have _ := h5
      refine AW.iconst (dq rfl) ?_
      show AW l (pI pg 207) P kc ks 45 _ _ SHF _
      refine AW.goto (dq rfl) (tgt := 49) (by decide) ?_
      refine AW.zret (dq rfl) rfl (by decide) ?_
      exact r7 h3 h5

theorem tro_0 {l : aL} {P : aP} {kc ks : Nat} {x y : Int32} {M : aM} (hJ : ∀ e ∈ RM, M.2.2 e.1 e.2.1 = e.2.2)  (o1 : vp_in (x) 8) (o4 : ∀ (h2 : ¬ (M.1 81 (x).toNatClampNeg : Int32) = (Int32.ofInt (-1) : Int32)), ∀ (h3 : ¬ (((y) >>> ((M.1 81 (x).toNatClampNeg) &&& 31)) &&& (Int32.ofInt 1) : Int32) = 0), vp_in ((((Int8.ofInt 8).toInt32) * (M.1 81 (x).toNatClampNeg)) + (x)) 48) (k6 : ∀ (h2 : ¬ (M.1 81 (x).toNatClampNeg : Int32) = (Int32.ofInt (-1) : Int32)), ∀ (h3 : ¬ (((y) >>> ((M.1 81 (x).toNatClampNeg) &&& 31)) &&& (Int32.ofInt 1) : Int32) = 0), ∀ (h5 : ¬ (M.1 63 ((((Int8.ofInt 8).toInt32) * (M.1 81 (x).toNatClampNeg)) + (x)).toNatClampNeg : Int32) = 0), AW l (pI pg 221) P kc ks 54 [(6, .int (Int32.ofInt 0)), (5, .int (Int32.ofInt 1)), (4, .int (M.1 62 (x).toNatClampNeg)), (3, .int (M.1 81 (x).toNatClampNeg)), (2, .int (y)), (1, .int (x)), (0, .ref 58)] [] SHF M) (r7 : ∀ (h2 : ¬ (M.1 81 (x).toNatClampNeg : Int32) = (Int32.ofInt (-1) : Int32)), ∀ (h3 : ¬ (((y) >>> ((M.1 81 (x).toNatClampNeg) &&& 31)) &&& (Int32.ofInt 1) : Int32) = 0), ∀ (h5 : (M.1 63 ((((Int8.ofInt 8).toInt32) * (M.1 81 (x).toNatClampNeg)) + (x)).toNatClampNeg : Int32) = 0), P (.inl (some (.int (Int32.ofInt 3)))) SHF M) (r8 : ∀ (h2 : ¬ (M.1 81 (x).toNatClampNeg : Int32) = (Int32.ofInt (-1) : Int32)), ∀ (h3 : (((y) >>> ((M.1 81 (x).toNatClampNeg) &&& 31)) &&& (Int32.ofInt 1) : Int32) = 0), P (.inl (some (.int (Int32.ofInt 2)))) SHF M) (r9 : ∀ (h2 : (M.1 81 (x).toNatClampNeg : Int32) = (Int32.ofInt (-1) : Int32)), P (.inl (some (.int (Int32.ofInt 1)))) SHF M) : AW l (pI pg 221) P kc ks 0 [(0, .ref 58), (1, .int (x)), (2, .int (y))] [] SHF M := by
  refine AW.aload_n (dq rfl) rfl rfl ?_
  show AW l (pI pg 221) P kc ks 1 _ _ SHF _
  refine fw_get (dq rfl) (pg_ok.2.1 221 _ _ _ _ rfl) rfl (v := .ref 81) (isTA_ok rfl (rgR_ok hJ rfl)) ?_
  show AW l (pI pg 221) P kc ks 4 _ _ SHF _
  refine AW.iload_n (dq rfl) rfl ?_
  show AW l (pI pg 221) P kc ks 5 _ _ SHF _
  refine AW.iald (dq rfl) rfl (o1) ?_
  show AW l (pI pg 221) P kc ks 6 _ _ SHF _
  refine AW.istore_n (dq rfl) (by decide +kernel) ?_
  show AW l (pI pg 221) P kc ks 7 [(3, .int (M.1 81 (x).toNatClampNeg)), (0, .ref 58), (1, .int (x)), (2, .int (y))] [] SHF _
  refine AW.iload_n (dq rfl) rfl ?_
  show AW l (pI pg 221) P kc ks 8 _ _ SHF _
  refine AW.iconst (dq rfl) ?_
  show AW l (pI pg 221) P kc ks 9 _ _ SHF _
  refine AW.icmp_ne (dq rfl) (tgt := 14) (by decide) (fun h2 => ?_) (fun h2 => ?_)
  · have _ := h2
    refine AW.iload_n (dq rfl) rfl ?_
    show AW l (pI pg 221) P kc ks 15 _ _ SHF _
    refine AW.iload_n (dq rfl) rfl ?_
    show AW l (pI pg 221) P kc ks 16 _ _ SHF _
    refine AW.ishr (dq rfl) ?_
    show AW l (pI pg 221) P kc ks 17 _ _ SHF _
    refine AW.iconst (dq rfl) ?_
    show AW l (pI pg 221) P kc ks 18 _ _ SHF _
    refine AW.iand (dq rfl) ?_
    show AW l (pI pg 221) P kc ks 19 _ _ SHF _
    refine AW.if_ne (dq rfl) (tgt := 24) (by decide) (fun h3 => ?_) (fun h3 => ?_)
    · have _ := h3
      refine AW.aload_n (dq rfl) rfl rfl ?_
      show AW l (pI pg 221) P kc ks 25 _ _ SHF _
      refine fw_get (dq rfl) (pg_ok.2.1 221 _ _ _ _ rfl) rfl (v := .ref 63) (isTA_ok rfl (rgR_ok hJ rfl)) ?_
      show AW l (pI pg 221) P kc ks 28 _ _ SHF _
      refine AW.bipush (dq rfl) ?_
      show AW l (pI pg 221) P kc ks 30 _ _ SHF _
      refine AW.iload_n (dq rfl) rfl ?_
      show AW l (pI pg 221) P kc ks 31 _ _ SHF _
      refine AW.imul (dq rfl) ?_
      show AW l (pI pg 221) P kc ks 32 _ _ SHF _
      refine AW.iload_n (dq rfl) rfl ?_
      show AW l (pI pg 221) P kc ks 33 _ _ SHF _
      refine AW.iadd (dq rfl) ?_
      show AW l (pI pg 221) P kc ks 34 _ _ SHF _
      refine AW.iald (dq rfl) rfl (o4 h2 h3) ?_
      show AW l (pI pg 221) P kc ks 35 _ _ SHF _
      refine AW.if_ne (dq rfl) (tgt := 40) (by decide) (fun h5 => ?_) (fun h5 => ?_)
      · have _ := h5
        refine AW.aload_n (dq rfl) rfl rfl ?_
        show AW l (pI pg 221) P kc ks 41 _ _ SHF _
        refine fw_get (dq rfl) (pg_ok.2.1 221 _ _ _ _ rfl) rfl (v := .ref 62) (isTA_ok rfl (rgR_ok hJ rfl)) ?_
        show AW l (pI pg 221) P kc ks 44 _ _ SHF _
        refine AW.iload_n (dq rfl) rfl ?_
        show AW l (pI pg 221) P kc ks 45 _ _ SHF _
        refine AW.iald (dq rfl) rfl (o1) ?_
        show AW l (pI pg 221) P kc ks 46 _ _ SHF _
        refine AW.istore (dq rfl) (by decide +kernel) ?_
        show AW l (pI pg 221) P kc ks 48 [(4, .int (M.1 62 (x).toNatClampNeg)), (3, .int (M.1 81 (x).toNatClampNeg)), (0, .ref 58), (1, .int (x)), (2, .int (y))] [] SHF _
        refine AW.iconst (dq rfl) ?_
        show AW l (pI pg 221) P kc ks 49 _ _ SHF _
        refine AW.istore (dq rfl) (by decide +kernel) ?_
        show AW l (pI pg 221) P kc ks 51 [(5, .int (Int32.ofInt 1)), (4, .int (M.1 62 (x).toNatClampNeg)), (3, .int (M.1 81 (x).toNatClampNeg)), (0, .ref 58), (1, .int (x)), (2, .int (y))] [] SHF _
        refine AW.iconst (dq rfl) ?_
        show AW l (pI pg 221) P kc ks 52 _ _ SHF _
        refine AW.istore (dq rfl) (by decide +kernel) ?_
        show AW l (pI pg 221) P kc ks 54 [(6, .int (Int32.ofInt 0)), (5, .int (Int32.ofInt 1)), (4, .int (M.1 62 (x).toNatClampNeg)), (3, .int (M.1 81 (x).toNatClampNeg)), (0, .ref 58), (1, .int (x)), (2, .int (y))] [] SHF _
        refine AW.drop (lv' := [(6, .int (Int32.ofInt 0)), (5, .int (Int32.ofInt 1)), (4, .int (M.1 62 (x).toNatClampNeg)), (3, .int (M.1 81 (x).toNatClampNeg)), (2, .int (y)), (1, .int (x)), (0, .ref 58)]) (List.forall_mem_cons.mpr ⟨List.mem_of_getElem? (i := 0) rfl, List.forall_mem_cons.mpr ⟨List.mem_of_getElem? (i := 1) rfl, List.forall_mem_cons.mpr ⟨List.mem_of_getElem? (i := 2) rfl, List.forall_mem_cons.mpr ⟨List.mem_of_getElem? (i := 3) rfl, List.forall_mem_cons.mpr ⟨List.mem_of_getElem? (i := 6) rfl, List.forall_mem_cons.mpr ⟨List.mem_of_getElem? (i := 5) rfl, List.forall_mem_cons.mpr ⟨List.mem_of_getElem? (i := 4) rfl, fun _ h => absurd h List.not_mem_nil⟩⟩⟩⟩⟩⟩⟩) ?_
        exact k6 h2 h3 h5
      · have _ := h5
        refine AW.iconst (dq rfl) ?_
        show AW l (pI pg 221) P kc ks 39 _ _ SHF _
        refine AW.iret (dq rfl) rfl ?_
        exact r7 h2 h3 h5
    · have _ := h3
      refine AW.iconst (dq rfl) ?_
      show AW l (pI pg 221) P kc ks 23 _ _ SHF _
      refine AW.iret (dq rfl) rfl ?_
      exact r8 h2 h3
  · have _ := h2
    refine AW.iconst (dq rfl) ?_
    show AW l (pI pg 221) P kc ks 13 _ _ SHF _
    refine AW.iret (dq rfl) rfl ?_
    exact r9 h2

theorem tro_54 {l : aL} {P : aP} {kc ks : Nat} {i : Nat} {v b p x y : Int32} {M : aM} (hJ : ∀ e ∈ RM, M.2.2 e.1 e.2.1 = e.2.2)  (o3 : ∀ (h1 : (x : Int32) ≤ (nI i : Int32)), ∀ (h2 : ¬ (b : Int32) = 0), vp_in (p) 6) (r5 : ∀ (h1 : (x : Int32) ≤ (nI i : Int32)), ∀ (h2 : ¬ (b : Int32) = 0), ∀ (h4 : (v : Int32) ≤ (M.1 59 (p).toNatClampNeg : Int32)), P (.inl (some (.int (Int32.ofInt 0)))) SHF M) (r6 : ∀ (h1 : (x : Int32) ≤ (nI i : Int32)), ∀ (h2 : ¬ (b : Int32) = 0), ∀ (h4 : ¬ ((v : Int32) ≤ (M.1 59 (p).toNatClampNeg : Int32))), P (.inl (some (.int (Int32.ofInt 5)))) SHF M) (r7 : ∀ (h1 : (x : Int32) ≤ (nI i : Int32)), ∀ (h2 : (b : Int32) = 0), P (.inl (some (.int (Int32.ofInt 4)))) SHF M) (o8 : ∀ (h1 : ¬ ((x : Int32) ≤ (nI i : Int32))), vp_in (nI i) 8) (k11 : ∀ (h1 : ¬ ((x : Int32) ≤ (nI i : Int32))), ∀ (h9 : (M.1 81 (nI i).toNatClampNeg : Int32) = (p : Int32)), ∀ (h10 : (b : Int32) = 0), AW l (pI pg 221) P kc ks 108 [(6, .int (nI i)), (5, .int (Int32.ofInt 0)), (4, .int ((v) + (M.1 62 (nI i).toNatClampNeg))), (3, .int (p)), (2, .int (y)), (1, .int (x)), (0, .ref 58)] [] SHF M) (Q12 : Int32 → aM → Prop) (c13 : ∀ (h1 : ¬ ((x : Int32) ≤ (nI i : Int32))), ∀ (h9 : (M.1 81 (nI i).toNatClampNeg : Int32) = (p : Int32)), ∀ (h10 : ¬ ((b : Int32) = 0)), AC l (pI pg 207) (fcI M Q12) 0 0 [.ref 58, .int (x), .int (nI i)] SHF M) (k15 : ∀ (h1 : ¬ ((x : Int32) ≤ (nI i : Int32))), ∀ (h9 : (M.1 81 (nI i).toNatClampNeg : Int32) = (p : Int32)), ∀ (h10 : ¬ ((b : Int32) = 0)), ∀ (y12 : Int32), ∀ (M12 : aM), ∀ (e12 : M12.2.2 = M.2.2), ∀ (q12 : Q12 y12 M12), ∀ (h14 : ¬ (y12 : Int32) = 0), AW l (pI pg 221) P kc ks 108 [(6, .int (nI i)), (5, .int (Int32.ofInt 0)), (4, .int ((v) + (M.1 62 (nI i).toNatClampNeg))), (3, .int (p)), (2, .int (y)), (1, .int (x)), (0, .ref 58)] [] SHF M12) (k16 : ∀ (h1 : ¬ ((x : Int32) ≤ (nI i : Int32))), ∀ (h9 : (M.1 81 (nI i).toNatClampNeg : Int32) = (p : Int32)), ∀ (h10 : ¬ ((b : Int32) = 0)), ∀ (y12 : Int32), ∀ (M12 : aM), ∀ (e12 : M12.2.2 = M.2.2), ∀ (q12 : Q12 y12 M12), ∀ (h14 : (y12 : Int32) = 0), AW l (pI pg 221) P kc ks 108 [(6, .int (nI i)), (5, .int (Int32.ofInt 1)), (4, .int ((v) + (M.1 62 (nI i).toNatClampNeg))), (3, .int (p)), (2, .int (y)), (1, .int (x)), (0, .ref 58)] [] SHF M12) (k17 : ∀ (h1 : ¬ ((x : Int32) ≤ (nI i : Int32))), ∀ (h9 : ¬ ((M.1 81 (nI i).toNatClampNeg : Int32) = (p : Int32))), AW l (pI pg 221) P kc ks 108 [(6, .int (nI i)), (5, .int (b)), (4, .int (v)), (3, .int (p)), (2, .int (y)), (1, .int (x)), (0, .ref 58)] [] SHF M) : AW l (pI pg 221) P kc ks 54 [(6, .int (nI i)), (5, .int (b)), (4, .int (v)), (3, .int (p)), (2, .int (y)), (1, .int (x)), (0, .ref 58)] [] SHF M := by
  refine AW.iload (dq rfl) rfl ?_
  show AW l (pI pg 221) P kc ks 56 _ _ SHF _
  refine AW.iload_n (dq rfl) rfl ?_
  show AW l (pI pg 221) P kc ks 57 _ _ SHF _
  refine AW.icmp_ge (dq rfl) (tgt := 114) (by decide) (fun h1 => ?_) (fun h1 => ?_)
  · have _ := h1
    refine AW.iload (dq rfl) rfl ?_
    show AW l (pI pg 221) P kc ks 116 _ _ SHF _
    refine AW.if_ne (dq rfl) (tgt := 123) (by decide) (fun h2 => ?_) (fun h2 => ?_)
    · have _ := h2
      refine AW.iload (dq rfl) rfl ?_
      show AW l (pI pg 221) P kc ks 125 _ _ SHF _
      refine AW.aload_n (dq rfl) rfl rfl ?_
      show AW l (pI pg 221) P kc ks 126 _ _ SHF _
      refine fw_get (dq rfl) (pg_ok.2.1 221 _ _ _ _ rfl) rfl (v := .ref 59) (isTA_ok rfl (rgR_ok hJ rfl)) ?_
      show AW l (pI pg 221) P kc ks 129 _ _ SHF _
      refine AW.iload_n (dq rfl) rfl ?_
      show AW l (pI pg 221) P kc ks 130 _ _ SHF _
      refine AW.iald (dq rfl) rfl (o3 h1 h2) ?_
      show AW l (pI pg 221) P kc ks 131 _ _ SHF _
      refine AW.icmp_le (dq rfl) (tgt := 138) (by decide) (fun h4 => ?_) (fun h4 => ?_)
      · have _ := h4
        refine AW.iconst (dq rfl) ?_
        show AW l (pI pg 221) P kc ks 139 _ _ SHF _
        refine AW.iret (dq rfl) rfl ?_
        exact r5 h1 h2 h4
      · have _ := h4
        refine AW.iconst (dq rfl) ?_
        show AW l (pI pg 221) P kc ks 135 _ _ SHF _
        refine AW.goto (dq rfl) (tgt := 139) (by decide) ?_
        refine AW.iret (dq rfl) rfl ?_
        exact r6 h1 h2 h4
    · have _ := h2
      refine AW.iconst (dq rfl) ?_
      show AW l (pI pg 221) P kc ks 120 _ _ SHF _
      refine AW.goto (dq rfl) (tgt := 139) (by decide) ?_
      refine AW.iret (dq rfl) rfl ?_
      exact r7 h1 h2
  · have _ := h1
    refine AW.aload_n (dq rfl) rfl rfl ?_
    show AW l (pI pg 221) P kc ks 61 _ _ SHF _
    refine fw_get (dq rfl) (pg_ok.2.1 221 _ _ _ _ rfl) rfl (v := .ref 81) (isTA_ok rfl (rgR_ok hJ rfl)) ?_
    show AW l (pI pg 221) P kc ks 64 _ _ SHF _
    refine AW.iload (dq rfl) rfl ?_
    show AW l (pI pg 221) P kc ks 66 _ _ SHF _
    refine AW.iald (dq rfl) rfl (o8 h1) ?_
    show AW l (pI pg 221) P kc ks 67 _ _ SHF _
    refine AW.iload_n (dq rfl) rfl ?_
    show AW l (pI pg 221) P kc ks 68 _ _ SHF _
    refine AW.icmp_eq (dq rfl) (tgt := 74) (by decide) (fun h9 => ?_) (fun h9 => ?_)
    · have _ := h9
      refine AW.iload (dq rfl) rfl ?_
      show AW l (pI pg 221) P kc ks 76 _ _ SHF _
      refine AW.aload_n (dq rfl) rfl rfl ?_
      show AW l (pI pg 221) P kc ks 77 _ _ SHF _
      refine fw_get (dq rfl) (pg_ok.2.1 221 _ _ _ _ rfl) rfl (v := .ref 62) (isTA_ok rfl (rgR_ok hJ rfl)) ?_
      show AW l (pI pg 221) P kc ks 80 _ _ SHF _
      refine AW.iload (dq rfl) rfl ?_
      show AW l (pI pg 221) P kc ks 82 _ _ SHF _
      refine AW.iald (dq rfl) rfl (o8 h1) ?_
      show AW l (pI pg 221) P kc ks 83 _ _ SHF _
      refine AW.iadd (dq rfl) ?_
      show AW l (pI pg 221) P kc ks 84 _ _ SHF _
      refine AW.istore (dq rfl) (by decide +kernel) ?_
      show AW l (pI pg 221) P kc ks 86 [(4, .int ((v) + (M.1 62 (nI i).toNatClampNeg))), (6, .int (nI i)), (5, .int (b)), (3, .int (p)), (2, .int (y)), (1, .int (x)), (0, .ref 58)] [] SHF _
      refine AW.iload (dq rfl) rfl ?_
      show AW l (pI pg 221) P kc ks 88 _ _ SHF _
      refine AW.if_eq (dq rfl) (tgt := 105) (by decide) (fun h10 => ?_) (fun h10 => ?_)
      · have _ := h10
        refine AW.iconst (dq rfl) ?_
        show AW l (pI pg 221) P kc ks 106 _ _ SHF _
        refine AW.istore (dq rfl) (by decide +kernel) ?_
        show AW l (pI pg 221) P kc ks 108 [(5, .int (Int32.ofInt 0)), (4, .int ((v) + (M.1 62 (nI i).toNatClampNeg))), (6, .int (nI i)), (3, .int (p)), (2, .int (y)), (1, .int (x)), (0, .ref 58)] [] SHF _
        refine AW.drop (lv' := [(6, .int (nI i)), (5, .int (Int32.ofInt 0)), (4, .int ((v) + (M.1 62 (nI i).toNatClampNeg))), (3, .int (p)), (2, .int (y)), (1, .int (x)), (0, .ref 58)]) (List.forall_mem_cons.mpr ⟨List.mem_of_getElem? (i := 2) rfl, List.forall_mem_cons.mpr ⟨List.mem_of_getElem? (i := 0) rfl, List.forall_mem_cons.mpr ⟨List.mem_of_getElem? (i := 1) rfl, List.forall_mem_cons.mpr ⟨List.mem_of_getElem? (i := 3) rfl, List.forall_mem_cons.mpr ⟨List.mem_of_getElem? (i := 4) rfl, List.forall_mem_cons.mpr ⟨List.mem_of_getElem? (i := 5) rfl, List.forall_mem_cons.mpr ⟨List.mem_of_getElem? (i := 6) rfl, fun _ h => absurd h List.not_mem_nil⟩⟩⟩⟩⟩⟩⟩) ?_
        exact k11 h1 h9 h10
      · have _ := h10
        refine AW.aload_n (dq rfl) rfl rfl ?_
        show AW l (pI pg 221) P kc ks 92 _ _ SHF _
        refine AW.iload_n (dq rfl) rfl ?_
        show AW l (pI pg 221) P kc ks 93 _ _ SHF _
        refine AW.iload (dq rfl) rfl ?_
        show AW l (pI pg 221) P kc ks 95 _ _ SHF _
        refine fw_callVI (as := [.int (x), .int (nI i)]) (dq rfl) (pg_ok.2.2.1 221 _ _ _ _ rfl) rfl (by decide +kernel) rfl rfl (c13 h1 h9 h10) (fun y12 M12 e12 q12 => ?_)
        have hJ12 : ∀ e ∈ RM, M12.2.2 e.1 e.2.1 = e.2.2 := fun e he => by rw [e12]; exact hJ e he
        show AW l (pI pg 221) P kc ks 98 [(4, .int ((v) + (M.1 62 (nI i).toNatClampNeg))), (6, .int (nI i)), (5, .int (b)), (3, .int (p)), (2, .int (y)), (1, .int (x)), (0, .ref 58)] [.int (y12)] SHF _
        refine AW.if_ne (dq rfl) (tgt := 105) (by decide) (fun h14 => ?_) (fun h14 => ?_)
        · have _ := h14
          refine AW.iconst (dq rfl) ?_
          show AW l (pI pg 221) P kc ks 106 _ _ SHF _
          refine AW.istore (dq rfl) (by decide +kernel) ?_
          show AW l (pI pg 221) P kc ks 108 [(5, .int (Int32.ofInt 0)), (4, .int ((v) + (M.1 62 (nI i).toNatClampNeg))), (6, .int (nI i)), (3, .int (p)), (2, .int (y)), (1, .int (x)), (0, .ref 58)] [] SHF _
          refine AW.drop (lv' := [(6, .int (nI i)), (5, .int (Int32.ofInt 0)), (4, .int ((v) + (M.1 62 (nI i).toNatClampNeg))), (3, .int (p)), (2, .int (y)), (1, .int (x)), (0, .ref 58)]) (List.forall_mem_cons.mpr ⟨List.mem_of_getElem? (i := 2) rfl, List.forall_mem_cons.mpr ⟨List.mem_of_getElem? (i := 0) rfl, List.forall_mem_cons.mpr ⟨List.mem_of_getElem? (i := 1) rfl, List.forall_mem_cons.mpr ⟨List.mem_of_getElem? (i := 3) rfl, List.forall_mem_cons.mpr ⟨List.mem_of_getElem? (i := 4) rfl, List.forall_mem_cons.mpr ⟨List.mem_of_getElem? (i := 5) rfl, List.forall_mem_cons.mpr ⟨List.mem_of_getElem? (i := 6) rfl, fun _ h => absurd h List.not_mem_nil⟩⟩⟩⟩⟩⟩⟩) ?_
          exact k15 h1 h9 h10 y12 M12 e12 q12 h14
        · have _ := h14
          refine AW.iconst (dq rfl) ?_
          show AW l (pI pg 221) P kc ks 102 _ _ SHF _
          refine AW.goto (dq rfl) (tgt := 106) (by decide) ?_
          refine AW.istore (dq rfl) (by decide +kernel) ?_
          show AW l (pI pg 221) P kc ks 108 [(5, .int (Int32.ofInt 1)), (4, .int ((v) + (M.1 62 (nI i).toNatClampNeg))), (6, .int (nI i)), (3, .int (p)), (2, .int (y)), (1, .int (x)), (0, .ref 58)] [] SHF _
          refine AW.drop (lv' := [(6, .int (nI i)), (5, .int (Int32.ofInt 1)), (4, .int ((v) + (M.1 62 (nI i).toNatClampNeg))), (3, .int (p)), (2, .int (y)), (1, .int (x)), (0, .ref 58)]) (List.forall_mem_cons.mpr ⟨List.mem_of_getElem? (i := 2) rfl, List.forall_mem_cons.mpr ⟨List.mem_of_getElem? (i := 0) rfl, List.forall_mem_cons.mpr ⟨List.mem_of_getElem? (i := 1) rfl, List.forall_mem_cons.mpr ⟨List.mem_of_getElem? (i := 3) rfl, List.forall_mem_cons.mpr ⟨List.mem_of_getElem? (i := 4) rfl, List.forall_mem_cons.mpr ⟨List.mem_of_getElem? (i := 5) rfl, List.forall_mem_cons.mpr ⟨List.mem_of_getElem? (i := 6) rfl, fun _ h => absurd h List.not_mem_nil⟩⟩⟩⟩⟩⟩⟩) ?_
          exact k16 h1 h9 h10 y12 M12 e12 q12 h14
    · have _ := h9
      refine AW.goto (dq rfl) (tgt := 108) (by decide) ?_
      refine AW.drop (lv' := [(6, .int (nI i)), (5, .int (b)), (4, .int (v)), (3, .int (p)), (2, .int (y)), (1, .int (x)), (0, .ref 58)]) (List.forall_mem_cons.mpr ⟨List.mem_of_getElem? (i := 0) rfl, List.forall_mem_cons.mpr ⟨List.mem_of_getElem? (i := 1) rfl, List.forall_mem_cons.mpr ⟨List.mem_of_getElem? (i := 2) rfl, List.forall_mem_cons.mpr ⟨List.mem_of_getElem? (i := 3) rfl, List.forall_mem_cons.mpr ⟨List.mem_of_getElem? (i := 4) rfl, List.forall_mem_cons.mpr ⟨List.mem_of_getElem? (i := 5) rfl, List.forall_mem_cons.mpr ⟨List.mem_of_getElem? (i := 6) rfl, fun _ h => absurd h List.not_mem_nil⟩⟩⟩⟩⟩⟩⟩) ?_
      exact k17 h1 h9

theorem tro_108 {l : aL} {P : aP} {kc ks : Nat} {i : Nat} {v b p x y : Int32} {M : aM} (hJ : ∀ e ∈ RM, M.2.2 e.1 e.2.1 = e.2.2)  (k1 : AW l (pI pg 221) P kc ks 54 [(6, .int ((nI i) + Int32.ofInt 1)), (5, .int (b)), (4, .int (v)), (3, .int (p)), (2, .int (y)), (1, .int (x)), (0, .ref 58)] [] SHF M) : AW l (pI pg 221) P kc ks 108 [(6, .int (nI i)), (5, .int (b)), (4, .int (v)), (3, .int (p)), (2, .int (y)), (1, .int (x)), (0, .ref 58)] [] SHF M := by
  refine AW.iinc (dq rfl) rfl (by decide +kernel) ?_
  show AW l (pI pg 221) P kc ks 111 [(6, .int ((nI i) + Int32.ofInt 1)), (5, .int (b)), (4, .int (v)), (3, .int (p)), (2, .int (y)), (1, .int (x)), (0, .ref 58)] [] SHF _
  refine AW.goto (dq rfl) (tgt := 54) (by decide) ?_
  refine AW.drop (lv' := [(6, .int ((nI i) + Int32.ofInt 1)), (5, .int (b)), (4, .int (v)), (3, .int (p)), (2, .int (y)), (1, .int (x)), (0, .ref 58)]) (List.forall_mem_cons.mpr ⟨List.mem_of_getElem? (i := 0) rfl, List.forall_mem_cons.mpr ⟨List.mem_of_getElem? (i := 1) rfl, List.forall_mem_cons.mpr ⟨List.mem_of_getElem? (i := 2) rfl, List.forall_mem_cons.mpr ⟨List.mem_of_getElem? (i := 3) rfl, List.forall_mem_cons.mpr ⟨List.mem_of_getElem? (i := 4) rfl, List.forall_mem_cons.mpr ⟨List.mem_of_getElem? (i := 5) rfl, List.forall_mem_cons.mpr ⟨List.mem_of_getElem? (i := 6) rfl, fun _ h => absurd h List.not_mem_nil⟩⟩⟩⟩⟩⟩⟩) ?_
  exact k1

theorem mju_0 {l : aL} {P : aP} {kc ks : Nat} {y : Int32} {M : aM} (hJ : ∀ e ∈ RM, M.2.2 e.1 e.2.1 = e.2.2)  (Q1 : Int32 → aM → Prop) (c2 : AC l (pI pg 203) (fcI (aset M 58 0 (.int (Int32.ofInt 0))) Q1) 0 0 [.ref 58, .int (y), .int (Int32.ofInt 1)] SHF (aset M 58 0 (.int (Int32.ofInt 0)))) (k4 : ∀ (y1 : Int32), ∀ (M1 : aM), ∀ (e1 : M1.2.2 = (aset M 58 0 (.int (Int32.ofInt 0))).2.2), ∀ (q1 : Q1 y1 M1), ∀ (h3 : ¬ (y1 : Int32) = 0), AW l (pI pg 220) P kc ks 18 [(2, .int (Int32.ofInt 0)), (1, .int (y)), (0, .ref 58)] [] SHF M1) (r5 : ∀ (y1 : Int32), ∀ (M1 : aM), ∀ (e1 : M1.2.2 = (aset M 58 0 (.int (Int32.ofInt 0))).2.2), ∀ (q1 : Q1 y1 M1), ∀ (h3 : (y1 : Int32) = 0), P (.inl (some (.int (Int32.ofInt 0)))) SHF M1) : AW l (pI pg 220) P kc ks 0 [(0, .ref 58), (1, .int (y))] [] SHF M := by
  refine AW.aload_n (dq rfl) rfl rfl ?_
  show AW l (pI pg 220) P kc ks 1 _ _ SHF _
  refine AW.iconst (dq rfl) ?_
  show AW l (pI pg 220) P kc ks 2 _ _ SHF _
  refine fw_putI (dq rfl) (pg_ok.2.1 220 _ _ _ _ rfl) rfl rfl rfl ?_
  show AW l (pI pg 220) P kc ks 5 _ _ SHF _
  refine AW.aload_n (dq rfl) rfl rfl ?_
  show AW l (pI pg 220) P kc ks 6 _ _ SHF _
  refine AW.iload_n (dq rfl) rfl ?_
  show AW l (pI pg 220) P kc ks 7 _ _ SHF _
  refine AW.iconst (dq rfl) ?_
  show AW l (pI pg 220) P kc ks 8 _ _ SHF _
  refine fw_callVI (as := [.int (y), .int (Int32.ofInt 1)]) (dq rfl) (pg_ok.2.2.1 220 _ _ _ _ rfl) rfl (by decide +kernel) rfl rfl (c2) (fun y1 M1 e1 q1 => ?_)
  have hJ1 : ∀ e ∈ RM, M1.2.2 e.1 e.2.1 = e.2.2 := fun e he => by rw [e1]; exact hJ e he
  show AW l (pI pg 220) P kc ks 11 [(0, .ref 58), (1, .int (y))] [.int (y1)] SHF _
  refine AW.if_ne (dq rfl) (tgt := 16) (by decide) (fun h3 => ?_) (fun h3 => ?_)
  · have _ := h3
    refine AW.iconst (dq rfl) ?_
    show AW l (pI pg 220) P kc ks 17 _ _ SHF _
    refine AW.istore_n (dq rfl) (by decide +kernel) ?_
    show AW l (pI pg 220) P kc ks 18 [(2, .int (Int32.ofInt 0)), (0, .ref 58), (1, .int (y))] [] SHF _
    refine AW.drop (lv' := [(2, .int (Int32.ofInt 0)), (1, .int (y)), (0, .ref 58)]) (List.forall_mem_cons.mpr ⟨List.mem_of_getElem? (i := 0) rfl, List.forall_mem_cons.mpr ⟨List.mem_of_getElem? (i := 2) rfl, List.forall_mem_cons.mpr ⟨List.mem_of_getElem? (i := 1) rfl, fun _ h => absurd h List.not_mem_nil⟩⟩⟩) ?_
    exact k4 y1 M1 e1 q1 h3
  · have _ := h3
    refine AW.iconst (dq rfl) ?_
    show AW l (pI pg 220) P kc ks 15 _ _ SHF _
    refine AW.iret (dq rfl) rfl ?_
    exact r5 y1 M1 e1 q1 h3

theorem mju_18 {l : aL} {P : aP} {kc ks : Nat} {i : Nat} {y : Int32} {M : aM} (hJ : ∀ e ∈ RM, M.2.2 e.1 e.2.1 = e.2.2)  (r2 : ∀ (h1 : (M.1 58 2 : Int32) ≤ (nI i : Int32)), P (.inl (some (.int (Int32.ofInt (-1))))) SHF M) (Q3 : Int32 → aM → Prop) (c4 : ∀ (h1 : ¬ ((M.1 58 2 : Int32) ≤ (nI i : Int32))), AC l (pI pg 221) (fcI M Q3) 0 0 [.ref 58, .int (nI i), .int (y)] SHF M) (k6 : ∀ (h1 : ¬ ((M.1 58 2 : Int32) ≤ (nI i : Int32))), ∀ (y3 : Int32), ∀ (M3 : aM), ∀ (e3 : M3.2.2 = M.2.2), ∀ (q3 : Q3 y3 M3), ∀ (h5 : (y3 : Int32) = 0), AW l (pI pg 220) P kc ks 18 [(2, .int ((nI i) + Int32.ofInt 1)), (1, .int (y)), (0, .ref 58)] [] SHF M3) (Q7 : Int32 → aM → Int32 → aM → Prop) (c8 : ∀ (h1 : ¬ ((M.1 58 2 : Int32) ≤ (nI i : Int32))), ∀ (y3 : Int32), ∀ (M3 : aM), ∀ (e3 : M3.2.2 = M.2.2), ∀ (q3 : Q3 y3 M3), ∀ (h5 : ¬ ((y3 : Int32) = 0)), AC l (pI pg 221) (fcI M3 (Q7 y3 M3)) 0 0 [.ref 58, .int (nI i), .int (y)] SHF M3) (r9 : ∀ (h1 : ¬ ((M.1 58 2 : Int32) ≤ (nI i : Int32))), ∀ (y3 : Int32), ∀ (M3 : aM), ∀ (e3 : M3.2.2 = M.2.2), ∀ (q3 : Q3 y3 M3), ∀ (h5 : ¬ ((y3 : Int32) = 0)), ∀ (y7 : Int32), ∀ (M7 : aM), ∀ (e7 : M7.2.2 = M3.2.2), ∀ (q7 : (Q7 y3 M3) y7 M7), P (.inl (some (.int ((((Int8.ofInt 10).toInt32) * (nI i)) + (y7))))) SHF M7) : AW l (pI pg 220) P kc ks 18 [(2, .int (nI i)), (1, .int (y)), (0, .ref 58)] [] SHF M := by
  refine AW.iload_n (dq rfl) rfl ?_
  show AW l (pI pg 220) P kc ks 19 _ _ SHF _
  refine AW.aload_n (dq rfl) rfl rfl ?_
  show AW l (pI pg 220) P kc ks 20 _ _ SHF _
  refine fw_get (dq rfl) (pg_ok.2.1 220 _ _ _ _ rfl) rfl (v := .int (M.1 58 2)) rfl ?_
  show AW l (pI pg 220) P kc ks 23 _ _ SHF _
  refine AW.icmp_ge (dq rfl) (tgt := 53) (by decide) (fun h1 => ?_) (fun h1 => ?_)
  · have _ := h1
    refine AW.iconst (dq rfl) ?_
    show AW l (pI pg 220) P kc ks 54 _ _ SHF _
    refine AW.iret (dq rfl) rfl ?_
    exact r2 h1
  · have _ := h1
    refine AW.aload_n (dq rfl) rfl rfl ?_
    show AW l (pI pg 220) P kc ks 27 _ _ SHF _
    refine AW.iload_n (dq rfl) rfl ?_
    show AW l (pI pg 220) P kc ks 28 _ _ SHF _
    refine AW.iload_n (dq rfl) rfl ?_
    show AW l (pI pg 220) P kc ks 29 _ _ SHF _
    refine fw_callVI (as := [.int (nI i), .int (y)]) (dq rfl) (pg_ok.2.2.1 220 _ _ _ _ rfl) rfl (by decide +kernel) rfl rfl (c4 h1) (fun y3 M3 e3 q3 => ?_)
    have hJ3 : ∀ e ∈ RM, M3.2.2 e.1 e.2.1 = e.2.2 := fun e he => by rw [e3]; exact hJ e he
    show AW l (pI pg 220) P kc ks 32 [(2, .int (nI i)), (1, .int (y)), (0, .ref 58)] [.int (y3)] SHF _
    refine AW.if_eq (dq rfl) (tgt := 47) (by decide) (fun h5 => ?_) (fun h5 => ?_)
    · have _ := h5
      refine AW.iinc (dq rfl) rfl (by decide +kernel) ?_
      show AW l (pI pg 220) P kc ks 50 [(2, .int ((nI i) + Int32.ofInt 1)), (1, .int (y)), (0, .ref 58)] [] SHF _
      refine AW.goto (dq rfl) (tgt := 18) (by decide) ?_
      refine AW.drop (lv' := [(2, .int ((nI i) + Int32.ofInt 1)), (1, .int (y)), (0, .ref 58)]) (List.forall_mem_cons.mpr ⟨List.mem_of_getElem? (i := 0) rfl, List.forall_mem_cons.mpr ⟨List.mem_of_getElem? (i := 1) rfl, List.forall_mem_cons.mpr ⟨List.mem_of_getElem? (i := 2) rfl, fun _ h => absurd h List.not_mem_nil⟩⟩⟩) ?_
      exact k6 h1 y3 M3 e3 q3 h5
    · have _ := h5
      refine AW.bipush (dq rfl) ?_
      show AW l (pI pg 220) P kc ks 37 _ _ SHF _
      refine AW.iload_n (dq rfl) rfl ?_
      show AW l (pI pg 220) P kc ks 38 _ _ SHF _
      refine AW.imul (dq rfl) ?_
      show AW l (pI pg 220) P kc ks 39 _ _ SHF _
      refine AW.aload_n (dq rfl) rfl rfl ?_
      show AW l (pI pg 220) P kc ks 40 _ _ SHF _
      refine AW.iload_n (dq rfl) rfl ?_
      show AW l (pI pg 220) P kc ks 41 _ _ SHF _
      refine AW.iload_n (dq rfl) rfl ?_
      show AW l (pI pg 220) P kc ks 42 _ _ SHF _
      refine fw_callVI (as := [.int (nI i), .int (y)]) (dq rfl) (pg_ok.2.2.1 220 _ _ _ _ rfl) rfl (by decide +kernel) rfl rfl (c8 h1 y3 M3 e3 q3 h5) (fun y7 M7 e7 q7 => ?_)
      have hJ7 : ∀ e ∈ RM, M7.2.2 e.1 e.2.1 = e.2.2 := fun e he => by rw [e7]; exact hJ3 e he
      show AW l (pI pg 220) P kc ks 45 [(2, .int (nI i)), (1, .int (y)), (0, .ref 58)] [.int (y7), .int (((Int8.ofInt 10).toInt32) * (nI i))] SHF _
      refine AW.iadd (dq rfl) ?_
      show AW l (pI pg 220) P kc ks 46 _ _ SHF _
      refine AW.iret (dq rfl) rfl ?_
      exact r9 h1 y3 M3 e3 q3 h5 y7 M7 e7 q7

theorem fil48_0 {l : aL} {P : aP} {kc ks : Nat} {x : Int32} {M : aM}  (hl0 : l.1.stackTraces = false) (k1 : AW l (pI pg 12) P kc ks 5 [(0, .ref 48), (1, .int (x)), (2, .int (Int32.ofInt 0)), (3, .int (Int32.ofNat 8))] [] SHF M) : AW l (pI pg 12) P kc ks 0 [(0, .ref 48), (1, .int (x))] [] SHF M := by
  refine AW.iconst (dq rfl) ?_
  show AW l (pI pg 12) P kc ks 1 _ _ SHF _
  refine AW.istore_n (dq rfl) (by decide +kernel) ?_
  show AW l (pI pg 12) P kc ks 2 [(2, .int (Int32.ofInt 0)), (0, .ref 48), (1, .int (x))] [] SHF _
  refine AW.aload_n (dq rfl) rfl rfl ?_
  show AW l (pI pg 12) P kc ks 3 _ _ SHF _
  refine AW.alen (dq rfl) rfl ?_
  show AW l (pI pg 12) P kc ks 4 _ _ SHF _
  refine AW.istore_n (dq rfl) (by decide +kernel) ?_
  show AW l (pI pg 12) P kc ks 5 [(3, .int (Int32.ofNat 8)), (2, .int (Int32.ofInt 0)), (0, .ref 48), (1, .int (x))] [] SHF _
  refine AW.drop (lv' := [(0, .ref 48), (1, .int (x)), (2, .int (Int32.ofInt 0)), (3, .int (Int32.ofNat 8))]) (List.forall_mem_cons.mpr ⟨List.mem_of_getElem? (i := 2) rfl, List.forall_mem_cons.mpr ⟨List.mem_of_getElem? (i := 3) rfl, List.forall_mem_cons.mpr ⟨List.mem_of_getElem? (i := 1) rfl, List.forall_mem_cons.mpr ⟨List.mem_of_getElem? (i := 0) rfl, fun _ h => absurd h List.not_mem_nil⟩⟩⟩⟩) ?_
  exact k1

theorem fil48_5 {l : aL} {P : aP} {kc ks : Nat} {i : Nat} {x : Int32} {M : aM}  (hl0 : l.1.stackTraces = false) (r2 : ∀ (h1 : (Int32.ofNat 8 : Int32) ≤ (nI i : Int32)), P (.inl none) SHF M) (o3 : ∀ (h1 : ¬ ((Int32.ofNat 8 : Int32) ≤ (nI i : Int32))), vp_in (nI i) 8) (k4 : ∀ (h1 : ¬ ((Int32.ofNat 8 : Int32) ≤ (nI i : Int32))), AW l (pI pg 12) P kc ks 5 [(0, .ref 48), (1, .int (x)), (2, .int ((nI i) + Int32.ofInt 1)), (3, .int (Int32.ofNat 8))] [] SHF (aset M 48 (nI i).toNatClampNeg (.int (x)))) : AW l (pI pg 12) P kc ks 5 [(0, .ref 48), (1, .int (x)), (2, .int (nI i)), (3, .int (Int32.ofNat 8))] [] SHF M := by
  refine AW.iload_n (dq rfl) rfl ?_
  show AW l (pI pg 12) P kc ks 6 _ _ SHF _
  refine AW.iload_n (dq rfl) rfl ?_
  show AW l (pI pg 12) P kc ks 7 _ _ SHF _
  refine AW.icmp_ge (dq rfl) (tgt := 20) (by decide) (fun h1 => ?_) (fun h1 => ?_)
  · have _ := h1
    refine AW.vret (dq rfl) rfl ?_
    exact r2 h1
  · have _ := h1
    refine AW.aload_n (dq rfl) rfl rfl ?_
    show AW l (pI pg 12) P kc ks 11 _ _ SHF _
    refine AW.iload_n (dq rfl) rfl ?_
    show AW l (pI pg 12) P kc ks 12 _ _ SHF _
    refine AW.iload_n (dq rfl) rfl ?_
    show AW l (pI pg 12) P kc ks 13 _ _ SHF _
    refine AW.iast (dq rfl) rfl (o3 h1) ?_
    show AW l (pI pg 12) P kc ks 14 _ _ SHF _
    refine AW.iinc (dq rfl) rfl (by decide +kernel) ?_
    show AW l (pI pg 12) P kc ks 17 [(2, .int ((nI i) + Int32.ofInt 1)), (0, .ref 48), (1, .int (x)), (3, .int (Int32.ofNat 8))] [] SHF _
    refine AW.goto (dq rfl) (tgt := 5) (by decide) ?_
    refine AW.drop (lv' := [(0, .ref 48), (1, .int (x)), (2, .int ((nI i) + Int32.ofInt 1)), (3, .int (Int32.ofNat 8))]) (List.forall_mem_cons.mpr ⟨List.mem_of_getElem? (i := 1) rfl, List.forall_mem_cons.mpr ⟨List.mem_of_getElem? (i := 2) rfl, List.forall_mem_cons.mpr ⟨List.mem_of_getElem? (i := 0) rfl, List.forall_mem_cons.mpr ⟨List.mem_of_getElem? (i := 3) rfl, fun _ h => absurd h List.not_mem_nil⟩⟩⟩⟩) ?_
    exact k4 h1

