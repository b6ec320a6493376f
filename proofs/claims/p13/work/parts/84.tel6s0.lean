/-! stretches of the searches, printed by wip/gen/segs_s.py -/
def RL : List (Nat × Nat × Nat) := [(30, 0, 32), (30, 1, 33), (33, 0, 35), (33, 1, 36)]
theorem rl_RR : ∀ e ∈ RL, e ∈ RR.2 := by decide +kernel
theorem rl_RRS : ∀ e ∈ RL, e ∈ RRS.2 := by decide +kernel
theorem hfoa_0 {l : aL} {P : aP} {kc ks : Nat} {x : Int32} {M : aM} (hJ : ∀ e ∈ RK, M.2.2 e.1 e.2.1 = e.2.2) (hl0 : l.1.stackTraces = false) (o1 : vp_in (x) 8) (r2 : P (.inl (some (.int ((((Int32.ofInt 1) <<< ((M.1 10 (x).toNatClampNeg) &&& 31)) - (Int32.ofInt 1)) <<< ((M.1 9 (x).toNatClampNeg) &&& 31))))) SHF M) : AW l (pI pg 15) P kc ks 0 [(0, .ref 4), (1, .int (x))] [] SHF M := by
  refine AW.iconst (dq rfl) ?_
  show AW l (pI pg 15) P kc ks 1 _ _ SHF _
  refine AW.aload_n (dq rfl) rfl rfl ?_
  show AW l (pI pg 15) P kc ks 2 _ _ SHF _
  refine fw_get (dq rfl) (pg_ok.2.1 15 _ _ _ _ rfl) rfl (v := .ref 10) (isTA_ok rfl (rgR_ok hJ rfl)) ?_
  show AW l (pI pg 15) P kc ks 5 _ _ SHF _
  refine AW.iload_n (dq rfl) rfl ?_
  show AW l (pI pg 15) P kc ks 6 _ _ SHF _
  refine AW.iald (dq rfl) rfl (o1) ?_
  show AW l (pI pg 15) P kc ks 7 _ _ SHF _
  refine AW.ishl (dq rfl) ?_
  show AW l (pI pg 15) P kc ks 8 _ _ SHF _
  refine AW.iconst (dq rfl) ?_
  show AW l (pI pg 15) P kc ks 9 _ _ SHF _
  refine AW.isub (dq rfl) ?_
  show AW l (pI pg 15) P kc ks 10 _ _ SHF _
  refine AW.aload_n (dq rfl) rfl rfl ?_
  show AW l (pI pg 15) P kc ks 11 _ _ SHF _
  refine fw_get (dq rfl) (pg_ok.2.1 15 _ _ _ _ rfl) rfl (v := .ref 9) (isTA_ok rfl (rgR_ok hJ rfl)) ?_
  show AW l (pI pg 15) P kc ks 14 _ _ SHF _
  refine AW.iload_n (dq rfl) rfl ?_
  show AW l (pI pg 15) P kc ks 15 _ _ SHF _
  refine AW.iald (dq rfl) rfl (o1) ?_
  show AW l (pI pg 15) P kc ks 16 _ _ SHF _
  refine AW.ishl (dq rfl) ?_
  show AW l (pI pg 15) P kc ks 17 _ _ SHF _
  refine AW.iret (dq rfl) rfl ?_
  exact r2

theorem alwa_0 {l : aL} {P : aP} {kc ks : Nat} {M : aM}  (hl0 : l.1.stackTraces = false) (r1 : P (.inl (some (.int (((Int32.ofInt 1) <<< ((M.1 4 1) &&& 31)) - (Int32.ofInt 1))))) SHF M) : AW l (pI pg 18) P kc ks 0 [(0, .ref 4)] [] SHF M := by
  refine AW.iconst (dq rfl) ?_
  show AW l (pI pg 18) P kc ks 1 _ _ SHF _
  refine AW.aload_n (dq rfl) rfl rfl ?_
  show AW l (pI pg 18) P kc ks 2 _ _ SHF _
  refine fw_get (dq rfl) (pg_ok.2.1 18 _ _ _ _ rfl) rfl (v := .int (M.1 4 1)) rfl ?_
  show AW l (pI pg 18) P kc ks 5 _ _ SHF _
  refine AW.ishl (dq rfl) ?_
  show AW l (pI pg 18) P kc ks 6 _ _ SHF _
  refine AW.iconst (dq rfl) ?_
  show AW l (pI pg 18) P kc ks 7 _ _ SHF _
  refine AW.isub (dq rfl) ?_
  show AW l (pI pg 18) P kc ks 8 _ _ SHF _
  refine AW.iret (dq rfl) rfl ?_
  exact r1

theorem meaa_0 {l : aL} {P : aP} {kc ks : Nat} {M : aM} (hJ : ∀ e ∈ RR.2, M.2.2 e.1 e.2.1 = e.2.2) (hl0 : l.1.stackTraces = false) (o1 : vp_in (Int32.ofInt 0) 256) (k2 : AW l (pI pg 14) P kc ks 16 [(2, .int (Int32.ofInt 0)), (1, .ref 4), (0, .ref 30)] [] SHF (aset (aset M 31 (Int32.ofInt 0).toNatClampNeg (.int (Int32.ofInt 0))) 32 (Int32.ofInt 0).toNatClampNeg (.int (Int32.ofInt 0)))) : AW l (pI pg 14) P kc ks 0 [(0, .ref 30), (1, .ref 4)] [] SHF M := by
  refine AW.aload_n (dq rfl) rfl rfl ?_
  show AW l (pI pg 14) P kc ks 1 _ _ SHF _
  refine fw_get (dq rfl) (pg_ok.2.1 14 _ _ _ _ rfl) rfl (v := .ref 31) (isTA_ok rfl (rgR_ok hJ rfl)) ?_
  show AW l (pI pg 14) P kc ks 4 _ _ SHF _
  refine AW.iconst (dq rfl) ?_
  show AW l (pI pg 14) P kc ks 5 _ _ SHF _
  refine AW.iconst (dq rfl) ?_
  show AW l (pI pg 14) P kc ks 6 _ _ SHF _
  refine AW.iast (dq rfl) rfl (o1) ?_
  show AW l (pI pg 14) P kc ks 7 _ _ SHF _
  refine AW.aload_n (dq rfl) rfl rfl ?_
  show AW l (pI pg 14) P kc ks 8 _ _ SHF _
  refine fw_get (dq rfl) (pg_ok.2.1 14 _ _ _ _ rfl) rfl (v := .ref 32) (isTA_ok rfl (rgR_ok hJ rfl)) ?_
  show AW l (pI pg 14) P kc ks 11 _ _ SHF _
  refine AW.iconst (dq rfl) ?_
  show AW l (pI pg 14) P kc ks 12 _ _ SHF _
  refine AW.iconst (dq rfl) ?_
  show AW l (pI pg 14) P kc ks 13 _ _ SHF _
  refine AW.iast (dq rfl) rfl (o1) ?_
  show AW l (pI pg 14) P kc ks 14 _ _ SHF _
  refine AW.iconst (dq rfl) ?_
  show AW l (pI pg 14) P kc ks 15 _ _ SHF _
  refine AW.istore_n (dq rfl) (by decide +kernel) ?_
  show AW l (pI pg 14) P kc ks 16 [(2, .int (Int32.ofInt 0)), (0, .ref 30), (1, .ref 4)] [] SHF _
  refine AW.drop (lv' := [(2, .int (Int32.ofInt 0)), (1, .ref 4), (0, .ref 30)]) (List.forall_mem_cons.mpr ⟨List.mem_of_getElem? (i := 0) rfl, List.forall_mem_cons.mpr ⟨List.mem_of_getElem? (i := 2) rfl, List.forall_mem_cons.mpr ⟨List.mem_of_getElem? (i := 1) rfl, fun _ h => absurd h List.not_mem_nil⟩⟩⟩) ?_
  exact k2

theorem meaa_16 {l : aL} {P : aP} {kc ks : Nat} {w : Nat} {M : aM} (hJ : ∀ e ∈ RR.2, M.2.2 e.1 e.2.1 = e.2.2) (hl0 : l.1.stackTraces = false) (r2 : ∀ (h1 : (M.1 4 1 : Int32) ≤ (nI w : Int32)), P (.inl none) SHF M) (Q3 : Int32 → aM → Prop) (c4 : ∀ (h1 : ¬ ((M.1 4 1 : Int32) ≤ (nI w : Int32))), AC l (pI pg 15) (fcI M Q3) 0 0 [.ref 4, .int (nI w)] SHF M) (k5 : ∀ (h1 : ¬ ((M.1 4 1 : Int32) ≤ (nI w : Int32))), ∀ (y3 : Int32), ∀ (M3 : aM), ∀ (e3 : M3.2.2 = M.2.2), ∀ (q3 : Q3 y3 M3), AW l (pI pg 14) P kc ks 38 [(5, .int (Int32.ofInt 0)), (4, .int ((Int32.ofInt 1) <<< ((nI w) &&& 31))), (3, .int (y3)), (2, .int (nI w)), (1, .ref 4), (0, .ref 30)] [] SHF M3) : AW l (pI pg 14) P kc ks 16 [(2, .int (nI w)), (1, .ref 4), (0, .ref 30)] [] SHF M := by
  refine AW.iload_n (dq rfl) rfl ?_
  show AW l (pI pg 14) P kc ks 17 _ _ SHF _
  refine AW.aload_n (dq rfl) rfl rfl ?_
  show AW l (pI pg 14) P kc ks 18 _ _ SHF _
  refine fw_get (dq rfl) (pg_ok.2.1 14 _ _ _ _ rfl) rfl (v := .int (M.1 4 1)) rfl ?_
  show AW l (pI pg 14) P kc ks 21 _ _ SHF _
  refine AW.icmp_ge (dq rfl) (tgt := 141) (by decide) (fun h1 => ?_) (fun h1 => ?_)
  · have _ := h1
    refine AW.vret (dq rfl) rfl ?_
    exact r2 h1
  · have _ := h1
    refine AW.aload_n (dq rfl) rfl rfl ?_
    show AW l (pI pg 14) P kc ks 25 _ _ SHF _
    refine AW.iload_n (dq rfl) rfl ?_
    show AW l (pI pg 14) P kc ks 26 _ _ SHF _
    refine fw_callVI (as := [.int (nI w)]) (dq rfl) (pg_ok.2.2.1 14 _ _ _ _ rfl) rfl (by decide +kernel) rfl rfl (c4 h1) (fun y3 M3 e3 q3 => ?_)
    have hJ3 : ∀ e ∈ RR.2, M3.2.2 e.1 e.2.1 = e.2.2 := fun e he => by rw [e3]; exact hJ e he
    show AW l (pI pg 14) P kc ks 29 [(2, .int (nI w)), (1, .ref 4), (0, .ref 30)] [.int (y3)] SHF _
    refine AW.istore_n (dq rfl) (by decide +kernel) ?_
    show AW l (pI pg 14) P kc ks 30 [(3, .int (y3)), (2, .int (nI w)), (1, .ref 4), (0, .ref 30)] [] SHF _
    refine AW.iconst (dq rfl) ?_
    show AW l (pI pg 14) P kc ks 31 _ _ SHF _
    refine AW.iload_n (dq rfl) rfl ?_
    show AW l (pI pg 14) P kc ks 32 _ _ SHF _
    refine AW.ishl (dq rfl) ?_
    show AW l (pI pg 14) P kc ks 33 _ _ SHF _
    refine AW.istore (dq rfl) (by decide +kernel) ?_
    show AW l (pI pg 14) P kc ks 35 [(4, .int ((Int32.ofInt 1) <<< ((nI w) &&& 31))), (3, .int (y3)), (2, .int (nI w)), (1, .ref 4), (0, .ref 30)] [] SHF _
    refine AW.iconst (dq rfl) ?_
    show AW l (pI pg 14) P kc ks 36 _ _ SHF _
    refine AW.istore (dq rfl) (by decide +kernel) ?_
    show AW l (pI pg 14) P kc ks 38 [(5, .int (Int32.ofInt 0)), (4, .int ((Int32.ofInt 1) <<< ((nI w) &&& 31))), (3, .int (y3)), (2, .int (nI w)), (1, .ref 4), (0, .ref 30)] [] SHF _
    refine AW.drop (lv' := [(5, .int (Int32.ofInt 0)), (4, .int ((Int32.ofInt 1) <<< ((nI w) &&& 31))), (3, .int (y3)), (2, .int (nI w)), (1, .ref 4), (0, .ref 30)]) (List.forall_mem_cons.mpr ⟨List.mem_of_getElem? (i := 0) rfl, List.forall_mem_cons.mpr ⟨List.mem_of_getElem? (i := 1) rfl, List.forall_mem_cons.mpr ⟨List.mem_of_getElem? (i := 2) rfl, List.forall_mem_cons.mpr ⟨List.mem_of_getElem? (i := 3) rfl, List.forall_mem_cons.mpr ⟨List.mem_of_getElem? (i := 4) rfl, List.forall_mem_cons.mpr ⟨List.mem_of_getElem? (i := 5) rfl, fun _ h => absurd h List.not_mem_nil⟩⟩⟩⟩⟩⟩) ?_
    exact k5 h1 y3 M3 e3 q3

theorem meaa_38 {l : aL} {P : aP} {kc ks : Nat} {r w : Nat} {f h : Int32} {M : aM} (hJ : ∀ e ∈ RR.2, M.2.2 e.1 e.2.1 = e.2.2) (hl0 : l.1.stackTraces = false) (k2 : ∀ (h1 : (f : Int32) ≤ (nI r : Int32)), AW l (pI pg 14) P kc ks 16 [(2, .int ((nI w) + Int32.ofInt 1)), (1, .ref 4), (0, .ref 30)] [] SHF M) (o3 : ∀ (h1 : ¬ ((f : Int32) ≤ (nI r : Int32))), vp_in (nI r) 256) (o6 : ∀ (h1 : ¬ ((f : Int32) ≤ (nI r : Int32))), ∀ (h4 : (M.1 31 (nI r).toNatClampNeg : Int32) = ((Int8.ofInt 99).toInt32 : Int32)), vp_in ((f) ||| (nI r)) 256) (k7 : ∀ (h1 : ¬ ((f : Int32) ≤ (nI r : Int32))), ∀ (h4 : (M.1 31 (nI r).toNatClampNeg : Int32) = ((Int8.ofInt 99).toInt32 : Int32)), AW l (pI pg 14) P kc ks 38 [(5, .int ((nI r) + Int32.ofInt 1)), (4, .int (f)), (3, .int (h)), (2, .int (nI w)), (1, .ref 4), (0, .ref 30)] [] SHF (aset (aset M 31 ((f) ||| (nI r)).toNatClampNeg (.int ((Int8.ofInt 99).toInt32))) 32 ((f) ||| (nI r)).toNatClampNeg (.int (((aset M 31 ((f) ||| (nI r)).toNatClampNeg (.int ((Int8.ofInt 99).toInt32))).1 32 (nI r).toNatClampNeg) ||| (h))))) (o10 : ∀ (h1 : ¬ ((f : Int32) ≤ (nI r : Int32))), ∀ (h4 : ¬ ((M.1 31 (nI r).toNatClampNeg : Int32) = ((Int8.ofInt 99).toInt32 : Int32))), ∀ (h8 : ((M.1 32 (nI r).toNatClampNeg) &&& (h) : Int32) = 0), vp_in (nI w) 8) (o11 : ∀ (h1 : ¬ ((f : Int32) ≤ (nI r : Int32))), ∀ (h4 : ¬ ((M.1 31 (nI r).toNatClampNeg : Int32) = ((Int8.ofInt 99).toInt32 : Int32))), ∀ (h8 : ((M.1 32 (nI r).toNatClampNeg) &&& (h) : Int32) = 0), vp_in ((f) ||| (nI r)) 256) (k12 : ∀ (h1 : ¬ ((f : Int32) ≤ (nI r : Int32))), ∀ (h4 : ¬ ((M.1 31 (nI r).toNatClampNeg : Int32) = ((Int8.ofInt 99).toInt32 : Int32))), ∀ (h8 : ((M.1 32 (nI r).toNatClampNeg) &&& (h) : Int32) = 0), AW l (pI pg 14) P kc ks 38 [(5, .int ((nI r) + Int32.ofInt 1)), (4, .int (f)), (3, .int (h)), (2, .int (nI w)), (1, .ref 4), (0, .ref 30)] [] SHF (aset (aset M 31 ((f) ||| (nI r)).toNatClampNeg (.int ((M.1 31 (nI r).toNatClampNeg) + (M.1 10 (nI w).toNatClampNeg)))) 32 ((f) ||| (nI r)).toNatClampNeg (.int (((aset M 31 ((f) ||| (nI r)).toNatClampNeg (.int ((M.1 31 (nI r).toNatClampNeg) + (M.1 10 (nI w).toNatClampNeg)))).1 32 (nI r).toNatClampNeg) ||| (h))))) (o14 : ∀ (h1 : ¬ ((f : Int32) ≤ (nI r : Int32))), ∀ (h4 : ¬ ((M.1 31 (nI r).toNatClampNeg : Int32) = ((Int8.ofInt 99).toInt32 : Int32))), ∀ (h8 : ¬ (((M.1 32 (nI r).toNatClampNeg) &&& (h) : Int32) = 0)), vp_in ((f) ||| (nI r)) 256) (k15 : ∀ (h1 : ¬ ((f : Int32) ≤ (nI r : Int32))), ∀ (h4 : ¬ ((M.1 31 (nI r).toNatClampNeg : Int32) = ((Int8.ofInt 99).toInt32 : Int32))), ∀ (h8 : ¬ (((M.1 32 (nI r).toNatClampNeg) &&& (h) : Int32) = 0)), AW l (pI pg 14) P kc ks 38 [(5, .int ((nI r) + Int32.ofInt 1)), (4, .int (f)), (3, .int (h)), (2, .int (nI w)), (1, .ref 4), (0, .ref 30)] [] SHF (aset (aset M 31 ((f) ||| (nI r)).toNatClampNeg (.int ((Int8.ofInt 99).toInt32))) 32 ((f) ||| (nI r)).toNatClampNeg (.int (((aset M 31 ((f) ||| (nI r)).toNatClampNeg (.int ((Int8.ofInt 99).toInt32))).1 32 (nI r).toNatClampNeg) ||| (h))))) : AW l (pI pg 14) P kc ks 38 [(5, .int (nI r)), (4, .int (f)), (3, .int (h)), (2, .int (nI w)), (1, .ref 4), (0, .ref 30)] [] SHF M := by
  refine AW.iload (dq rfl) rfl ?_
  show AW l (pI pg 14) P kc ks 40 _ _ SHF _
  refine AW.iload (dq rfl) rfl ?_
  show AW l (pI pg 14) P kc ks 42 _ _ SHF _
  refine AW.icmp_ge (dq rfl) (tgt := 135) (by decide) (fun h1 => ?_) (fun h1 => ?_)
  · have _ := h1
    refine AW.iinc (dq rfl) rfl (by decide +kernel) ?_
    show AW l (pI pg 14) P kc ks 138 [(2, .int ((nI w) + Int32.ofInt 1)), (5, .int (nI r)), (4, .int (f)), (3, .int (h)), (1, .ref 4), (0, .ref 30)] [] SHF _
    refine AW.goto (dq rfl) (tgt := 16) (by decide) ?_
    refine AW.drop (lv' := [(2, .int ((nI w) + Int32.ofInt 1)), (1, .ref 4), (0, .ref 30)]) (List.forall_mem_cons.mpr ⟨List.mem_of_getElem? (i := 0) rfl, List.forall_mem_cons.mpr ⟨List.mem_of_getElem? (i := 4) rfl, List.forall_mem_cons.mpr ⟨List.mem_of_getElem? (i := 5) rfl, fun _ h => absurd h List.not_mem_nil⟩⟩⟩) ?_
    exact k2 h1
  · have _ := h1
    refine AW.aload_n (dq rfl) rfl rfl ?_
    show AW l (pI pg 14) P kc ks 46 _ _ SHF _
    refine fw_get (dq rfl) (pg_ok.2.1 14 _ _ _ _ rfl) rfl (v := .ref 31) (isTA_ok rfl (rgR_ok hJ rfl)) ?_
    show AW l (pI pg 14) P kc ks 49 _ _ SHF _
    refine AW.iload (dq rfl) rfl ?_
    show AW l (pI pg 14) P kc ks 51 _ _ SHF _
    refine AW.iald (dq rfl) rfl (o3 h1) ?_
    show AW l (pI pg 14) P kc ks 52 _ _ SHF _
    refine AW.bipush (dq rfl) ?_
    show AW l (pI pg 14) P kc ks 54 _ _ SHF _
    refine AW.icmp_eq (dq rfl) (tgt := 69) (by decide) (fun h4 => ?_) (fun h4 => ?_)
    · have _ := h4
      refine AW.iconst (dq rfl) ?_
      show AW l (pI pg 14) P kc ks 70 _ _ SHF _
      refine AW.goto (dq rfl) (tgt := 74) (by decide) ?_
      refine AW.istore (dq rfl) (by decide +kernel) ?_
      show AW l (pI pg 14) P kc ks 76 [(6, .int (Int32.ofInt 1)), (5, .int (nI r)), (4, .int (f)), (3, .int (h)), (2, .int (nI w)), (1, .ref 4), (0, .ref 30)] [] SHF _
      refine AW.aload_n (dq rfl) rfl rfl ?_
      show AW l (pI pg 14) P kc ks 77 _ _ SHF _
      refine fw_get (dq rfl) (pg_ok.2.1 14 _ _ _ _ rfl) rfl (v := .ref 31) (isTA_ok rfl (rgR_ok hJ rfl)) ?_
      show AW l (pI pg 14) P kc ks 80 _ _ SHF _
      refine AW.iload (dq rfl) rfl ?_
      show AW l (pI pg 14) P kc ks 82 _ _ SHF _
      refine AW.iload (dq rfl) rfl ?_
      show AW l (pI pg 14) P kc ks 84 _ _ SHF _
      refine AW.ior (dq rfl) ?_
      show AW l (pI pg 14) P kc ks 85 _ _ SHF _
      refine AW.iload (dq rfl) rfl ?_
      show AW l (pI pg 14) P kc ks 87 _ _ SHF _
      refine AW.if_eq (dq rfl) (tgt := 95) (by decide) (fun h5 => ?_) (fun h5 => ?_)
      · exact absurd h5 (by decide)
      refine AW.bipush (dq rfl) ?_
      show AW l (pI pg 14) P kc ks 92 _ _ SHF _
      refine AW.goto (dq rfl) (tgt := 109) (by decide) ?_
      refine AW.iast (dq rfl) rfl (o6 h1 h4) ?_
      show AW l (pI pg 14) P kc ks 110 _ _ SHF _
      refine AW.aload_n (dq rfl) rfl rfl ?_
      show AW l (pI pg 14) P kc ks 111 _ _ SHF _
      refine fw_get (dq rfl) (pg_ok.2.1 14 _ _ _ _ rfl) rfl (v := .ref 32) (isTA_ok rfl (rgR_ok hJ rfl)) ?_
      show AW l (pI pg 14) P kc ks 114 _ _ SHF _
      refine AW.iload (dq rfl) rfl ?_
      show AW l (pI pg 14) P kc ks 116 _ _ SHF _
      refine AW.iload (dq rfl) rfl ?_
      show AW l (pI pg 14) P kc ks 118 _ _ SHF _
      refine AW.ior (dq rfl) ?_
      show AW l (pI pg 14) P kc ks 119 _ _ SHF _
      refine AW.aload_n (dq rfl) rfl rfl ?_
      show AW l (pI pg 14) P kc ks 120 _ _ SHF _
      refine fw_get (dq rfl) (pg_ok.2.1 14 _ _ _ _ rfl) rfl (v := .ref 32) (isTA_ok rfl (rgR_ok hJ rfl)) ?_
      show AW l (pI pg 14) P kc ks 123 _ _ SHF _
      refine AW.iload (dq rfl) rfl ?_
      show AW l (pI pg 14) P kc ks 125 _ _ SHF _
      refine AW.iald (dq rfl) rfl (o3 h1) ?_
      show AW l (pI pg 14) P kc ks 126 _ _ SHF _
      refine AW.iload_n (dq rfl) rfl ?_
      show AW l (pI pg 14) P kc ks 127 _ _ SHF _
      refine AW.ior (dq rfl) ?_
      show AW l (pI pg 14) P kc ks 128 _ _ SHF _
      refine AW.iast (dq rfl) rfl (o6 h1 h4) ?_
      show AW l (pI pg 14) P kc ks 129 _ _ SHF _
      refine AW.iinc (dq rfl) rfl (by decide +kernel) ?_
      show AW l (pI pg 14) P kc ks 132 [(5, .int ((nI r) + Int32.ofInt 1)), (6, .int (Int32.ofInt 1)), (4, .int (f)), (3, .int (h)), (2, .int (nI w)), (1, .ref 4), (0, .ref 30)] [] SHF _
      refine AW.goto (dq rfl) (tgt := 38) (by decide) ?_
      refine AW.drop (lv' := [(5, .int ((nI r) + Int32.ofInt 1)), (4, .int (f)), (3, .int (h)), (2, .int (nI w)), (1, .ref 4), (0, .ref 30)]) (List.forall_mem_cons.mpr ⟨List.mem_of_getElem? (i := 0) rfl, List.forall_mem_cons.mpr ⟨List.mem_of_getElem? (i := 2) rfl, List.forall_mem_cons.mpr ⟨List.mem_of_getElem? (i := 3) rfl, List.forall_mem_cons.mpr ⟨List.mem_of_getElem? (i := 4) rfl, List.forall_mem_cons.mpr ⟨List.mem_of_getElem? (i := 5) rfl, List.forall_mem_cons.mpr ⟨List.mem_of_getElem? (i := 6) rfl, fun _ h => absurd h List.not_mem_nil⟩⟩⟩⟩⟩⟩) ?_
      exact k7 h1 h4
    · have _ := h4
      refine AW.aload_n (dq rfl) rfl rfl ?_
      show AW l (pI pg 14) P kc ks 58 _ _ SHF _
      refine fw_get (dq rfl) (pg_ok.2.1 14 _ _ _ _ rfl) rfl (v := .ref 32) (isTA_ok rfl (rgR_ok hJ rfl)) ?_
      show AW l (pI pg 14) P kc ks 61 _ _ SHF _
      refine AW.iload (dq rfl) rfl ?_
      show AW l (pI pg 14) P kc ks 63 _ _ SHF _
      refine AW.iald (dq rfl) rfl (o3 h1) ?_
      show AW l (pI pg 14) P kc ks 64 _ _ SHF _
      refine AW.iload_n (dq rfl) rfl ?_
      show AW l (pI pg 14) P kc ks 65 _ _ SHF _
      refine AW.iand (dq rfl) ?_
      show AW l (pI pg 14) P kc ks 66 _ _ SHF _
      refine AW.if_eq (dq rfl) (tgt := 73) (by decide) (fun h8 => ?_) (fun h8 => ?_)
      · have _ := h8
        refine AW.iconst (dq rfl) ?_
        show AW l (pI pg 14) P kc ks 74 _ _ SHF _
        refine AW.istore (dq rfl) (by decide +kernel) ?_
        show AW l (pI pg 14) P kc ks 76 [(6, .int (Int32.ofInt 0)), (5, .int (nI r)), (4, .int (f)), (3, .int (h)), (2, .int (nI w)), (1, .ref 4), (0, .ref 30)] [] SHF _
        refine AW.aload_n (dq rfl) rfl rfl ?_
        show AW l (pI pg 14) P kc ks 77 _ _ SHF _
        refine fw_get (dq rfl) (pg_ok.2.1 14 _ _ _ _ rfl) rfl (v := .ref 31) (isTA_ok rfl (rgR_ok hJ rfl)) ?_
        show AW l (pI pg 14) P kc ks 80 _ _ SHF _
        refine AW.iload (dq rfl) rfl ?_
        show AW l (pI pg 14) P kc ks 82 _ _ SHF _
        refine AW.iload (dq rfl) rfl ?_
        show AW l (pI pg 14) P kc ks 84 _ _ SHF _
        refine AW.ior (dq rfl) ?_
        show AW l (pI pg 14) P kc ks 85 _ _ SHF _
        refine AW.iload (dq rfl) rfl ?_
        show AW l (pI pg 14) P kc ks 87 _ _ SHF _
        refine AW.if_eq (dq rfl) (tgt := 95) (by decide) (fun h9 => ?_) (fun h9 => ?_)
        rotate_left
        · exact absurd h9 (by decide)
        refine AW.aload_n (dq rfl) rfl rfl ?_
        show AW l (pI pg 14) P kc ks 96 _ _ SHF _
        refine fw_get (dq rfl) (pg_ok.2.1 14 _ _ _ _ rfl) rfl (v := .ref 31) (isTA_ok rfl (rgR_ok hJ rfl)) ?_
        show AW l (pI pg 14) P kc ks 99 _ _ SHF _
        refine AW.iload (dq rfl) rfl ?_
        show AW l (pI pg 14) P kc ks 101 _ _ SHF _
        refine AW.iald (dq rfl) rfl (o3 h1) ?_
        show AW l (pI pg 14) P kc ks 102 _ _ SHF _
        refine AW.aload_n (dq rfl) rfl rfl ?_
        show AW l (pI pg 14) P kc ks 103 _ _ SHF _
        refine fw_get (dq rfl) (pg_ok.2.1 14 _ _ _ _ rfl) rfl (v := .ref 10) (isTA_ok rfl (rgR_ok hJ rfl)) ?_
        show AW l (pI pg 14) P kc ks 106 _ _ SHF _
        refine AW.iload_n (dq rfl) rfl ?_
        show AW l (pI pg 14) P kc ks 107 _ _ SHF _
        refine AW.iald (dq rfl) rfl (o10 h1 h4 h8) ?_
        show AW l (pI pg 14) P kc ks 108 _ _ SHF _
        refine AW.iadd (dq rfl) ?_
        show AW l (pI pg 14) P kc ks 109 _ _ SHF _
        refine AW.iast (dq rfl) rfl (o11 h1 h4 h8) ?_
        show AW l (pI pg 14) P kc ks 110 _ _ SHF _
        refine AW.aload_n (dq rfl) rfl rfl ?_
        show AW l (pI pg 14) P kc ks 111 _ _ SHF _
        refine fw_get (dq rfl) (pg_ok.2.1 14 _ _ _ _ rfl) rfl (v := .ref 32) (isTA_ok rfl (rgR_ok hJ rfl)) ?_
        show AW l (pI pg 14) P kc ks 114 _ _ SHF _
        refine AW.iload (dq rfl) rfl ?_
        show AW l (pI pg 14) P kc ks 116 _ _ SHF _
        refine AW.iload (dq rfl) rfl ?_
        show AW l (pI pg 14) P kc ks 118 _ _ SHF _
        refine AW.ior (dq rfl) ?_
        show AW l (pI pg 14) P kc ks 119 _ _ SHF _
        refine AW.aload_n (dq rfl) rfl rfl ?_
        show AW l (pI pg 14) P kc ks 120 _ _ SHF _
        refine fw_get (dq rfl) (pg_ok.2.1 14 _ _ _ _ rfl) rfl (v := .ref 32) (isTA_ok rfl (rgR_ok hJ rfl)) ?_
        show AW l (pI pg 14) P kc ks 123 _ _ SHF _
        refine AW.iload (dq rfl) rfl ?_
        show AW l (pI pg 14) P kc ks 125 _ _ SHF _
        refine AW.iald (dq rfl) rfl (o3 h1) ?_
        show AW l (pI pg 14) P kc ks 126 _ _ SHF _
        refine AW.iload_n (dq rfl) rfl ?_
        show AW l (pI pg 14) P kc ks 127 _ _ SHF _
        refine AW.ior (dq rfl) ?_
        show AW l (pI pg 14) P kc ks 128 _ _ SHF _
        refine AW.iast (dq rfl) rfl (o11 h1 h4 h8) ?_
        show AW l (pI pg 14) P kc ks 129 _ _ SHF _
        refine AW.iinc (dq rfl) rfl (by decide +kernel) ?_
        show AW l (pI pg 14) P kc ks 132 [(5, .int ((nI r) + Int32.ofInt 1)), (6, .int (Int32.ofInt 0)), (4, .int (f)), (3, .int (h)), (2, .int (nI w)), (1, .ref 4), (0, .ref 30)] [] SHF _
        refine AW.goto (dq rfl) (tgt := 38) (by decide) ?_
        refine AW.drop (lv' := [(5, .int ((nI r) + Int32.ofInt 1)), (4, .int (f)), (3, .int (h)), (2, .int (nI w)), (1, .ref 4), (0, .ref 30)]) (List.forall_mem_cons.mpr ⟨List.mem_of_getElem? (i := 0) rfl, List.forall_mem_cons.mpr ⟨List.mem_of_getElem? (i := 2) rfl, List.forall_mem_cons.mpr ⟨List.mem_of_getElem? (i := 3) rfl, List.forall_mem_cons.mpr ⟨List.mem_of_getElem? (i := 4) rfl, List.forall_mem_cons.mpr ⟨List.mem_of_getElem? (i := 5) rfl, List.forall_mem_cons.mpr ⟨List.mem_of_getElem? (i := 6) rfl, fun _ h => absurd h List.not_mem_nil⟩⟩⟩⟩⟩⟩) ?_
        exact k12 h1 h4 h8
      · have _ := h8
        refine AW.iconst (dq rfl) ?_
        show AW l (pI pg 14) P kc ks 70 _ _ SHF _
        refine AW.goto (dq rfl) (tgt := 74) (by decide) ?_
        refine AW.istore (dq rfl) (by decide +kernel) ?_
        show AW l (pI pg 14) P kc ks 76 [(6, .int (Int32.ofInt 1)), (5, .int (nI r)), (4, .int (f)), (3, .int (h)), (2, .int (nI w)), (1, .ref 4), (0, .ref 30)] [] SHF _
        refine AW.aload_n (dq rfl) rfl rfl ?_
        show AW l (pI pg 14) P kc ks 77 _ _ SHF _
        refine fw_get (dq rfl) (pg_ok.2.1 14 _ _ _ _ rfl) rfl (v := .ref 31) (isTA_ok rfl (rgR_ok hJ rfl)) ?_
        show AW l (pI pg 14) P kc ks 80 _ _ SHF _
        refine AW.iload (dq rfl) rfl ?_
        show AW l (pI pg 14) P kc ks 82 _ _ SHF _
        refine AW.iload (dq rfl) rfl ?_
        show AW l (pI pg 14) P kc ks 84 _ _ SHF _
        refine AW.ior (dq rfl) ?_
        show AW l (pI pg 14) P kc ks 85 _ _ SHF _
        refine AW.iload (dq rfl) rfl ?_
        show AW l (pI pg 14) P kc ks 87 _ _ SHF _
        refine AW.if_eq (dq rfl) (tgt := 95) (by decide) (fun h13 => ?_) (fun h13 => ?_)
        · exact absurd h13 (by decide)
        refine AW.bipush (dq rfl) ?_
        show AW l (pI pg 14) P kc ks 92 _ _ SHF _
        refine AW.goto (dq rfl) (tgt := 109) (by decide) ?_
        refine AW.iast (dq rfl) rfl (o14 h1 h4 h8) ?_
        show AW l (pI pg 14) P kc ks 110 _ _ SHF _
        refine AW.aload_n (dq rfl) rfl rfl ?_
        show AW l (pI pg 14) P kc ks 111 _ _ SHF _
        refine fw_get (dq rfl) (pg_ok.2.1 14 _ _ _ _ rfl) rfl (v := .ref 32) (isTA_ok rfl (rgR_ok hJ rfl)) ?_
        show AW l (pI pg 14) P kc ks 114 _ _ SHF _
        refine AW.iload (dq rfl) rfl ?_
        show AW l (pI pg 14) P kc ks 116 _ _ SHF _
        refine AW.iload (dq rfl) rfl ?_
        show AW l (pI pg 14) P kc ks 118 _ _ SHF _
        refine AW.ior (dq rfl) ?_
        show AW l (pI pg 14) P kc ks 119 _ _ SHF _
        refine AW.aload_n (dq rfl) rfl rfl ?_
        show AW l (pI pg 14) P kc ks 120 _ _ SHF _
        refine fw_get (dq rfl) (pg_ok.2.1 14 _ _ _ _ rfl) rfl (v := .ref 32) (isTA_ok rfl (rgR_ok hJ rfl)) ?_
        show AW l (pI pg 14) P kc ks 123 _ _ SHF _
        refine AW.iload (dq rfl) rfl ?_
        show AW l (pI pg 14) P kc ks 125 _ _ SHF _
        refine AW.iald (dq rfl) rfl (o3 h1) ?_
        show AW l (pI pg 14) P kc ks 126 _ _ SHF _
        refine AW.iload_n (dq rfl) rfl ?_
        show AW l (pI pg 14) P kc ks 127 _ _ SHF _
        refine AW.ior (dq rfl) ?_
        show AW l (pI pg 14) P kc ks 128 _ _ SHF _
        refine AW.iast (dq rfl) rfl (o14 h1 h4 h8) ?_
        show AW l (pI pg 14) P kc ks 129 _ _ SHF _
        refine AW.iinc (dq rfl) rfl (by decide +kernel) ?_
        show AW l (pI pg 14) P kc ks 132 [(5, .int ((nI r) + Int32.ofInt 1)), (6, .int (Int32.ofInt 1)), (4, .int (f)), (3, .int (h)), (2, .int (nI w)), (1, .ref 4), (0, .ref 30)] [] SHF _
        refine AW.goto (dq rfl) (tgt := 38) (by decide) ?_
        refine AW.drop (lv' := [(5, .int ((nI r) + Int32.ofInt 1)), (4, .int (f)), (3, .int (h)), (2, .int (nI w)), (1, .ref 4), (0, .ref 30)]) (List.forall_mem_cons.mpr ⟨List.mem_of_getElem? (i := 0) rfl, List.forall_mem_cons.mpr ⟨List.mem_of_getElem? (i := 2) rfl, List.forall_mem_cons.mpr ⟨List.mem_of_getElem? (i := 3) rfl, List.forall_mem_cons.mpr ⟨List.mem_of_getElem? (i := 4) rfl, List.forall_mem_cons.mpr ⟨List.mem_of_getElem? (i := 5) rfl, List.forall_mem_cons.mpr ⟨List.mem_of_getElem? (i := 6) rfl, fun _ h => absurd h List.not_mem_nil⟩⟩⟩⟩⟩⟩) ?_
        exact k15 h1 h4 h8

theorem whe_0 {l : aL} {P : aP} {kc ks : Nat} {x y z : Int32} {M : aM} (hJ : ∀ e ∈ RL, M.2.2 e.1 e.2.1 = e.2.2) (hl0 : l.1.stackTraces = false) (o1 : vp_in (x) 256) (k2 : AW l (pI pg 19) P kc ks 17 [(8, .int ((x) &&& (y))), (6, .long (lgV M 34 (x).toNatClampNeg)), (5, .int ((x) &&& (y))), (4, .int (z)), (3, .int (y)), (2, .int (x)), (1, .ref 30), (0, .ref 33)] [] SHF M) : AW l (pI pg 19) P kc ks 0 [(0, .ref 33), (1, .ref 30), (2, .int (x)), (3, .int (y)), (4, .int (z))] [] SHF M := by
  refine AW.iload_n (dq rfl) rfl ?_
  show AW l (pI pg 19) P kc ks 1 _ _ SHF _
  refine AW.iload_n (dq rfl) rfl ?_
  show AW l (pI pg 19) P kc ks 2 _ _ SHF _
  refine AW.iand (dq rfl) ?_
  show AW l (pI pg 19) P kc ks 3 _ _ SHF _
  refine AW.istore (dq rfl) (by decide +kernel) ?_
  show AW l (pI pg 19) P kc ks 5 [(5, .int ((x) &&& (y))), (0, .ref 33), (1, .ref 30), (2, .int (x)), (3, .int (y)), (4, .int (z))] [] SHF _
  refine AW.aload_n (dq rfl) rfl rfl ?_
  show AW l (pI pg 19) P kc ks 6 _ _ SHF _
  refine fw_get (dq rfl) (pg_ok.2.1 19 _ _ _ _ rfl) rfl (v := .ref 34) (isTA_ok rfl (rgR_ok hJ rfl)) ?_
  show AW l (pI pg 19) P kc ks 9 _ _ SHF _
  refine AW.iload_n (dq rfl) rfl ?_
  show AW l (pI pg 19) P kc ks 10 _ _ SHF _
  refine AW.laldP (by decide) (dq rfl) rfl (o1) ?_
  show AW l (pI pg 19) P kc ks 11 _ _ SHF _
  refine AW.lstore (dq rfl) (by decide +kernel) ?_
  show AW l (pI pg 19) P kc ks 13 [(6, .long (lgV M 34 (x).toNatClampNeg)), (5, .int ((x) &&& (y))), (0, .ref 33), (1, .ref 30), (2, .int (x)), (3, .int (y)), (4, .int (z))] [] SHF _
  refine AW.iload (dq rfl) rfl ?_
  show AW l (pI pg 19) P kc ks 15 _ _ SHF _
  refine AW.istore (dq rfl) (by decide +kernel) ?_
  show AW l (pI pg 19) P kc ks 17 [(8, .int ((x) &&& (y))), (6, .long (lgV M 34 (x).toNatClampNeg)), (5, .int ((x) &&& (y))), (0, .ref 33), (1, .ref 30), (2, .int (x)), (3, .int (y)), (4, .int (z))] [] SHF _
  refine AW.drop (lv' := [(8, .int ((x) &&& (y))), (6, .long (lgV M 34 (x).toNatClampNeg)), (5, .int ((x) &&& (y))), (4, .int (z)), (3, .int (y)), (2, .int (x)), (1, .ref 30), (0, .ref 33)]) (List.forall_mem_cons.mpr ⟨List.mem_of_getElem? (i := 0) rfl, List.forall_mem_cons.mpr ⟨List.mem_of_getElem? (i := 1) rfl, List.forall_mem_cons.mpr ⟨List.mem_of_getElem? (i := 2) rfl, List.forall_mem_cons.mpr ⟨List.mem_of_getElem? (i := 7) rfl, List.forall_mem_cons.mpr ⟨List.mem_of_getElem? (i := 6) rfl, List.forall_mem_cons.mpr ⟨List.mem_of_getElem? (i := 5) rfl, List.forall_mem_cons.mpr ⟨List.mem_of_getElem? (i := 4) rfl, List.forall_mem_cons.mpr ⟨List.mem_of_getElem? (i := 3) rfl, fun _ h => absurd h List.not_mem_nil⟩⟩⟩⟩⟩⟩⟩⟩) ?_
  exact k2

theorem whe_17 {l : aL} {P : aP} {kc ks : Nat} {x y z w v : Int32} {f : Int64} {M : aM} (hJ : ∀ e ∈ RL, M.2.2 e.1 e.2.1 = e.2.2) (hl0 : l.1.stackTraces = false) (r2 : ∀ (h1 : (v : Int32) ≤ 0), P (.inl (some (.long (f)))) SHF M) (o3 : ∀ (h1 : ¬ ((v : Int32) ≤ 0)), vp_in (v) 256) (k5 : ∀ (h1 : ¬ ((v : Int32) ≤ 0)), ∀ (h4 : (z : Int32) < (M.1 31 (v).toNatClampNeg : Int32)), AW l (pI pg 19) P kc ks 17 [(8, .int (((v) - (Int32.ofInt 1)) &&& (w))), (6, .long (f)), (5, .int (w)), (4, .int (z)), (3, .int (y)), (2, .int (x)), (1, .ref 30), (0, .ref 33)] [] SHF M) (o6 : ∀ (h1 : ¬ ((v : Int32) ≤ 0)), ∀ (h4 : ¬ ((z : Int32) < (M.1 31 (v).toNatClampNeg : Int32))), vp_in ((x) ^^^ (v)) 256) (k7 : ∀ (h1 : ¬ ((v : Int32) ≤ 0)), ∀ (h4 : ¬ ((z : Int32) < (M.1 31 (v).toNatClampNeg : Int32))), AW l (pI pg 19) P kc ks 17 [(8, .int (((v) - (Int32.ofInt 1)) &&& (w))), (6, .long ((f) ||| (lgV M 34 ((x) ^^^ (v)).toNatClampNeg))), (5, .int (w)), (4, .int (z)), (3, .int (y)), (2, .int (x)), (1, .ref 30), (0, .ref 33)] [] SHF M) : AW l (pI pg 19) P kc ks 17 [(8, .int (v)), (6, .long (f)), (5, .int (w)), (4, .int (z)), (3, .int (y)), (2, .int (x)), (1, .ref 30), (0, .ref 33)] [] SHF M := by
  refine AW.iload (dq rfl) rfl ?_
  show AW l (pI pg 19) P kc ks 19 _ _ SHF _
  refine AW.if_le (dq rfl) (tgt := 60) (by decide) (fun h1 => ?_) (fun h1 => ?_)
  · have _ := h1
    refine AW.lload (dq rfl) rfl ?_
    show AW l (pI pg 19) P kc ks 62 _ _ SHF _
    refine AW.lret (dq rfl) rfl ?_
    exact r2 h1
  · have _ := h1
    refine AW.aload_n (dq rfl) rfl rfl ?_
    show AW l (pI pg 19) P kc ks 23 _ _ SHF _
    refine fw_get (dq rfl) (pg_ok.2.1 19 _ _ _ _ rfl) rfl (v := .ref 31) (isTA_ok rfl (rgR_ok hJ rfl)) ?_
    show AW l (pI pg 19) P kc ks 26 _ _ SHF _
    refine AW.iload (dq rfl) rfl ?_
    show AW l (pI pg 19) P kc ks 28 _ _ SHF _
    refine AW.iald (dq rfl) rfl (o3 h1) ?_
    show AW l (pI pg 19) P kc ks 29 _ _ SHF _
    refine AW.iload (dq rfl) rfl ?_
    show AW l (pI pg 19) P kc ks 31 _ _ SHF _
    refine AW.icmp_gt (dq rfl) (tgt := 48) (by decide) (fun h4 => ?_) (fun h4 => ?_)
    · have _ := h4
      refine AW.iload (dq rfl) rfl ?_
      show AW l (pI pg 19) P kc ks 50 _ _ SHF _
      refine AW.iconst (dq rfl) ?_
      show AW l (pI pg 19) P kc ks 51 _ _ SHF _
      refine AW.isub (dq rfl) ?_
      show AW l (pI pg 19) P kc ks 52 _ _ SHF _
      refine AW.iload (dq rfl) rfl ?_
      show AW l (pI pg 19) P kc ks 54 _ _ SHF _
      refine AW.iand (dq rfl) ?_
      show AW l (pI pg 19) P kc ks 55 _ _ SHF _
      refine AW.istore (dq rfl) (by decide +kernel) ?_
      show AW l (pI pg 19) P kc ks 57 [(8, .int (((v) - (Int32.ofInt 1)) &&& (w))), (6, .long (f)), (5, .int (w)), (4, .int (z)), (3, .int (y)), (2, .int (x)), (1, .ref 30), (0, .ref 33)] [] SHF _
      refine AW.goto (dq rfl) (tgt := 17) (by decide) ?_
      refine AW.drop (lv' := [(8, .int (((v) - (Int32.ofInt 1)) &&& (w))), (6, .long (f)), (5, .int (w)), (4, .int (z)), (3, .int (y)), (2, .int (x)), (1, .ref 30), (0, .ref 33)]) (List.forall_mem_cons.mpr ⟨List.mem_of_getElem? (i := 0) rfl, List.forall_mem_cons.mpr ⟨List.mem_of_getElem? (i := 1) rfl, List.forall_mem_cons.mpr ⟨List.mem_of_getElem? (i := 2) rfl, List.forall_mem_cons.mpr ⟨List.mem_of_getElem? (i := 3) rfl, List.forall_mem_cons.mpr ⟨List.mem_of_getElem? (i := 4) rfl, List.forall_mem_cons.mpr ⟨List.mem_of_getElem? (i := 5) rfl, List.forall_mem_cons.mpr ⟨List.mem_of_getElem? (i := 6) rfl, List.forall_mem_cons.mpr ⟨List.mem_of_getElem? (i := 7) rfl, fun _ h => absurd h List.not_mem_nil⟩⟩⟩⟩⟩⟩⟩⟩) ?_
      exact k5 h1 h4
    · have _ := h4
      refine AW.lload (dq rfl) rfl ?_
      show AW l (pI pg 19) P kc ks 36 _ _ SHF _
      refine AW.aload_n (dq rfl) rfl rfl ?_
      show AW l (pI pg 19) P kc ks 37 _ _ SHF _
      refine fw_get (dq rfl) (pg_ok.2.1 19 _ _ _ _ rfl) rfl (v := .ref 34) (isTA_ok rfl (rgR_ok hJ rfl)) ?_
      show AW l (pI pg 19) P kc ks 40 _ _ SHF _
      refine AW.iload_n (dq rfl) rfl ?_
      show AW l (pI pg 19) P kc ks 41 _ _ SHF _
      refine AW.iload (dq rfl) rfl ?_
      show AW l (pI pg 19) P kc ks 43 _ _ SHF _
      refine AW.ixor (dq rfl) ?_
      show AW l (pI pg 19) P kc ks 44 _ _ SHF _
      refine AW.laldP (by decide) (dq rfl) rfl (o6 h1 h4) ?_
      show AW l (pI pg 19) P kc ks 45 _ _ SHF _
      refine AW.lor (dq rfl) ?_
      show AW l (pI pg 19) P kc ks 46 _ _ SHF _
      refine AW.lstore (dq rfl) (by decide +kernel) ?_
      show AW l (pI pg 19) P kc ks 48 [(6, .long ((f) ||| (lgV M 34 ((x) ^^^ (v)).toNatClampNeg))), (8, .int (v)), (5, .int (w)), (4, .int (z)), (3, .int (y)), (2, .int (x)), (1, .ref 30), (0, .ref 33)] [] SHF _
      refine AW.iload (dq rfl) rfl ?_
      show AW l (pI pg 19) P kc ks 50 _ _ SHF _
      refine AW.iconst (dq rfl) ?_
      show AW l (pI pg 19) P kc ks 51 _ _ SHF _
      refine AW.isub (dq rfl) ?_
      show AW l (pI pg 19) P kc ks 52 _ _ SHF _
      refine AW.iload (dq rfl) rfl ?_
      show AW l (pI pg 19) P kc ks 54 _ _ SHF _
      refine AW.iand (dq rfl) ?_
      show AW l (pI pg 19) P kc ks 55 _ _ SHF _
      refine AW.istore (dq rfl) (by decide +kernel) ?_
      show AW l (pI pg 19) P kc ks 57 [(8, .int (((v) - (Int32.ofInt 1)) &&& (w))), (6, .long ((f) ||| (lgV M 34 ((x) ^^^ (v)).toNatClampNeg))), (5, .int (w)), (4, .int (z)), (3, .int (y)), (2, .int (x)), (1, .ref 30), (0, .ref 33)] [] SHF _
      refine AW.goto (dq rfl) (tgt := 17) (by decide) ?_
      refine AW.drop (lv' := [(8, .int (((v) - (Int32.ofInt 1)) &&& (w))), (6, .long ((f) ||| (lgV M 34 ((x) ^^^ (v)).toNatClampNeg))), (5, .int (w)), (4, .int (z)), (3, .int (y)), (2, .int (x)), (1, .ref 30), (0, .ref 33)]) (List.forall_mem_cons.mpr ⟨List.mem_of_getElem? (i := 0) rfl, List.forall_mem_cons.mpr ⟨List.mem_of_getElem? (i := 1) rfl, List.forall_mem_cons.mpr ⟨List.mem_of_getElem? (i := 2) rfl, List.forall_mem_cons.mpr ⟨List.mem_of_getElem? (i := 3) rfl, List.forall_mem_cons.mpr ⟨List.mem_of_getElem? (i := 4) rfl, List.forall_mem_cons.mpr ⟨List.mem_of_getElem? (i := 5) rfl, List.forall_mem_cons.mpr ⟨List.mem_of_getElem? (i := 6) rfl, List.forall_mem_cons.mpr ⟨List.mem_of_getElem? (i := 7) rfl, fun _ h => absurd h List.not_mem_nil⟩⟩⟩⟩⟩⟩⟩⟩) ?_
      exact k7 h1 h4

theorem fila_0 {l : aL} {P : aP} {kc ks : Nat} {M : aM} (hJ : ∀ e ∈ RR.2, M.2.2 e.1 e.2.1 = e.2.2) (hl0 : l.1.stackTraces = false) (Q1 : aM → Prop) (c2 : AC l (pI pg 17) (fcV M Q1) 0 0 [.ref 34, .long (Int64.ofNat (0 : Fin 2))] SHF M) (o3 : ∀ (M1 : aM), ∀ (e1 : M1.2.2 = M.2.2), ∀ (q1 : Q1 M1), vp_in (Int32.ofInt 0) 256) (k4 : ∀ (M1 : aM), ∀ (e1 : M1.2.2 = M.2.2), ∀ (q1 : Q1 M1), AW l (pI pg 16) P kc ks 18 [(4, .int (Int32.ofInt 0)), (3, .ref 7), (2, .ref 30), (1, .ref 4), (0, .ref 33)] [] SHF (asL M1 34 (Int32.ofInt 0).toNatClampNeg (Int64.ofNat (1 : Fin 2)))) : AW l (pI pg 16) P kc ks 0 [(0, .ref 33), (1, .ref 4), (2, .ref 30), (3, .ref 7)] [] SHF M := by
  refine AW.aload_n (dq rfl) rfl rfl ?_
  show AW l (pI pg 16) P kc ks 1 _ _ SHF _
  refine fw_get (dq rfl) (pg_ok.2.1 16 _ _ _ _ rfl) rfl (v := .ref 34) (isTA_ok rfl (rgR_ok hJ rfl)) ?_
  show AW l (pI pg 16) P kc ks 4 _ _ SHF _
  refine AW.lconst (dq rfl) ?_
  show AW l (pI pg 16) P kc ks 5 _ _ SHF _
  refine fw_callSV (as := [.ref 34, .long (Int64.ofNat (0 : Fin 2))]) (dq rfl) (pg_ok.2.2.1 16 _ _ _ _ rfl) (by decide +kernel) rfl rfl (c2) (fun M1 e1 q1 => ?_)
  have hJ1 : ∀ e ∈ RR.2, M1.2.2 e.1 e.2.1 = e.2.2 := fun e he => by rw [e1]; exact hJ e he
  show AW l (pI pg 16) P kc ks 8 [(0, .ref 33), (1, .ref 4), (2, .ref 30), (3, .ref 7)] [] SHF _
  refine AW.aload_n (dq rfl) rfl rfl ?_
  show AW l (pI pg 16) P kc ks 9 _ _ SHF _
  refine fw_get (dq rfl) (pg_ok.2.1 16 _ _ _ _ rfl) rfl (v := .ref 34) (isTA_ok rfl (rgR_ok hJ1 rfl)) ?_
  show AW l (pI pg 16) P kc ks 12 _ _ SHF _
  refine AW.iconst (dq rfl) ?_
  show AW l (pI pg 16) P kc ks 13 _ _ SHF _
  refine AW.lconst (dq rfl) ?_
  show AW l (pI pg 16) P kc ks 14 _ _ SHF _
  refine AW.lastP (by decide) (dq rfl) rfl (o3 M1 e1 q1) ?_
  show AW l (pI pg 16) P kc ks 15 _ _ SHF _
  refine AW.iconst (dq rfl) ?_
  show AW l (pI pg 16) P kc ks 16 _ _ SHF _
  refine AW.istore (dq rfl) (by decide +kernel) ?_
  show AW l (pI pg 16) P kc ks 18 [(4, .int (Int32.ofInt 0)), (0, .ref 33), (1, .ref 4), (2, .ref 30), (3, .ref 7)] [] SHF _
  refine AW.drop (lv' := [(4, .int (Int32.ofInt 0)), (3, .ref 7), (2, .ref 30), (1, .ref 4), (0, .ref 33)]) (List.forall_mem_cons.mpr ⟨List.mem_of_getElem? (i := 0) rfl, List.forall_mem_cons.mpr ⟨List.mem_of_getElem? (i := 4) rfl, List.forall_mem_cons.mpr ⟨List.mem_of_getElem? (i := 3) rfl, List.forall_mem_cons.mpr ⟨List.mem_of_getElem? (i := 2) rfl, List.forall_mem_cons.mpr ⟨List.mem_of_getElem? (i := 1) rfl, fun _ h => absurd h List.not_mem_nil⟩⟩⟩⟩⟩) ?_
  exact k4 M1 e1 q1

theorem fila_18 {l : aL} {P : aP} {kc ks : Nat} {p : Nat} {M : aM} (hJ : ∀ e ∈ RR.2, M.2.2 e.1 e.2.1 = e.2.2) (hl0 : l.1.stackTraces = false) (r2 : ∀ (h1 : (M.1 4 0 : Int32) ≤ (nI p : Int32)), P (.inl none) SHF M) (Q3 : Int32 → aM → Prop) (c4 : ∀ (h1 : ¬ ((M.1 4 0 : Int32) ≤ (nI p : Int32))), AC l (pI pg 18) (fcI M Q3) 0 0 [.ref 4] SHF M) (k5 : ∀ (h1 : ¬ ((M.1 4 0 : Int32) ≤ (nI p : Int32))), ∀ (y3 : Int32), ∀ (M3 : aM), ∀ (e3 : M3.2.2 = M.2.2), ∀ (q3 : Q3 y3 M3), AW l (pI pg 16) P kc ks 33 [(5, .int (y3)), (4, .int (nI p)), (3, .ref 7), (2, .ref 30), (1, .ref 4), (0, .ref 33)] [] SHF M3) : AW l (pI pg 16) P kc ks 18 [(4, .int (nI p)), (3, .ref 7), (2, .ref 30), (1, .ref 4), (0, .ref 33)] [] SHF M := by
  refine AW.iload (dq rfl) rfl ?_
  show AW l (pI pg 16) P kc ks 20 _ _ SHF _
  refine AW.aload_n (dq rfl) rfl rfl ?_
  show AW l (pI pg 16) P kc ks 21 _ _ SHF _
  refine fw_get (dq rfl) (pg_ok.2.1 16 _ _ _ _ rfl) rfl (v := .int (M.1 4 0)) rfl ?_
  show AW l (pI pg 16) P kc ks 24 _ _ SHF _
  refine AW.icmp_ge (dq rfl) (tgt := 87) (by decide) (fun h1 => ?_) (fun h1 => ?_)
  · have _ := h1
    refine AW.vret (dq rfl) rfl ?_
    exact r2 h1
  · have _ := h1
    refine AW.aload_n (dq rfl) rfl rfl ?_
    show AW l (pI pg 16) P kc ks 28 _ _ SHF _
    refine fw_callVI (as := []) (dq rfl) (pg_ok.2.2.1 16 _ _ _ _ rfl) rfl (by decide +kernel) rfl rfl (c4 h1) (fun y3 M3 e3 q3 => ?_)
    have hJ3 : ∀ e ∈ RR.2, M3.2.2 e.1 e.2.1 = e.2.2 := fun e he => by rw [e3]; exact hJ e he
    show AW l (pI pg 16) P kc ks 31 [(4, .int (nI p)), (3, .ref 7), (2, .ref 30), (1, .ref 4), (0, .ref 33)] [.int (y3)] SHF _
    refine AW.istore (dq rfl) (by decide +kernel) ?_
    show AW l (pI pg 16) P kc ks 33 [(5, .int (y3)), (4, .int (nI p)), (3, .ref 7), (2, .ref 30), (1, .ref 4), (0, .ref 33)] [] SHF _
    refine AW.drop (lv' := [(5, .int (y3)), (4, .int (nI p)), (3, .ref 7), (2, .ref 30), (1, .ref 4), (0, .ref 33)]) (List.forall_mem_cons.mpr ⟨List.mem_of_getElem? (i := 0) rfl, List.forall_mem_cons.mpr ⟨List.mem_of_getElem? (i := 1) rfl, List.forall_mem_cons.mpr ⟨List.mem_of_getElem? (i := 2) rfl, List.forall_mem_cons.mpr ⟨List.mem_of_getElem? (i := 3) rfl, List.forall_mem_cons.mpr ⟨List.mem_of_getElem? (i := 4) rfl, List.forall_mem_cons.mpr ⟨List.mem_of_getElem? (i := 5) rfl, fun _ h => absurd h List.not_mem_nil⟩⟩⟩⟩⟩⟩) ?_
    exact k5 h1 y3 M3 e3 q3

theorem fila_33 {l : aL} {P : aP} {kc ks : Nat} {p : Nat} {s : Int32} {M : aM} (hJ : ∀ e ∈ RR.2, M.2.2 e.1 e.2.1 = e.2.2) (hl0 : l.1.stackTraces = false) (k2 : ∀ (h1 : (s : Int32) < 0), AW l (pI pg 16) P kc ks 18 [(4, .int ((nI p) + Int32.ofInt 1)), (3, .ref 7), (2, .ref 30), (1, .ref 4), (0, .ref 33)] [] SHF M) (o3 : ∀ (h1 : ¬ ((s : Int32) < 0)), vp_in (nI p) 6) (Q4 : Int64 → aM → Prop) (c5 : ∀ (h1 : ¬ ((s : Int32) < 0)), AC l (pI pg 19) (fcJ M Q4) 0 0 [.ref 33, .ref 30, .int (s), .int (M.1 7 (nI p).toNatClampNeg), .int (M.1 5 (nI p).toNatClampNeg)] SHF M) (o6 : ∀ (h1 : ¬ ((s : Int32) < 0)), ∀ (y4 : Int64), ∀ (M4 : aM), ∀ (e4 : M4.2.2 = M.2.2), ∀ (q4 : Q4 y4 M4), vp_in (s) 256) (k7 : ∀ (h1 : ¬ ((s : Int32) < 0)), ∀ (y4 : Int64), ∀ (M4 : aM), ∀ (e4 : M4.2.2 = M.2.2), ∀ (q4 : Q4 y4 M4), AW l (pI pg 16) P kc ks 33 [(5, .int ((s) + Int32.ofInt (-1))), (4, .int (nI p)), (3, .ref 7), (2, .ref 30), (1, .ref 4), (0, .ref 33)] [] SHF (asL M4 34 (s).toNatClampNeg ((lgV M4 34 (s).toNatClampNeg) ||| ((y4) <<< (((Int32.ofInt 1) <<< ((nI p) &&& 31)).toInt64 &&& 63))))) : AW l (pI pg 16) P kc ks 33 [(5, .int (s)), (4, .int (nI p)), (3, .ref 7), (2, .ref 30), (1, .ref 4), (0, .ref 33)] [] SHF M := by
  refine AW.iload (dq rfl) rfl ?_
  show AW l (pI pg 16) P kc ks 35 _ _ SHF _
  refine AW.if_lt (dq rfl) (tgt := 81) (by decide) (fun h1 => ?_) (fun h1 => ?_)
  · have _ := h1
    refine AW.iinc (dq rfl) rfl (by decide +kernel) ?_
    show AW l (pI pg 16) P kc ks 84 [(4, .int ((nI p) + Int32.ofInt 1)), (5, .int (s)), (3, .ref 7), (2, .ref 30), (1, .ref 4), (0, .ref 33)] [] SHF _
    refine AW.goto (dq rfl) (tgt := 18) (by decide) ?_
    refine AW.drop (lv' := [(4, .int ((nI p) + Int32.ofInt 1)), (3, .ref 7), (2, .ref 30), (1, .ref 4), (0, .ref 33)]) (List.forall_mem_cons.mpr ⟨List.mem_of_getElem? (i := 0) rfl, List.forall_mem_cons.mpr ⟨List.mem_of_getElem? (i := 2) rfl, List.forall_mem_cons.mpr ⟨List.mem_of_getElem? (i := 3) rfl, List.forall_mem_cons.mpr ⟨List.mem_of_getElem? (i := 4) rfl, List.forall_mem_cons.mpr ⟨List.mem_of_getElem? (i := 5) rfl, fun _ h => absurd h List.not_mem_nil⟩⟩⟩⟩⟩) ?_
    exact k2 h1
  · have _ := h1
    refine AW.aload_n (dq rfl) rfl rfl ?_
    show AW l (pI pg 16) P kc ks 39 _ _ SHF _
    refine AW.aload_n (dq rfl) rfl rfl ?_
    show AW l (pI pg 16) P kc ks 40 _ _ SHF _
    refine AW.iload (dq rfl) rfl ?_
    show AW l (pI pg 16) P kc ks 42 _ _ SHF _
    refine AW.aload_n (dq rfl) rfl rfl ?_
    show AW l (pI pg 16) P kc ks 43 _ _ SHF _
    refine AW.iload (dq rfl) rfl ?_
    show AW l (pI pg 16) P kc ks 45 _ _ SHF _
    refine AW.iald (dq rfl) rfl (o3 h1) ?_
    show AW l (pI pg 16) P kc ks 46 _ _ SHF _
    refine AW.aload_n (dq rfl) rfl rfl ?_
    show AW l (pI pg 16) P kc ks 47 _ _ SHF _
    refine fw_get (dq rfl) (pg_ok.2.1 16 _ _ _ _ rfl) rfl (v := .ref 5) (isTA_ok rfl (rgR_ok hJ rfl)) ?_
    show AW l (pI pg 16) P kc ks 50 _ _ SHF _
    refine AW.iload (dq rfl) rfl ?_
    show AW l (pI pg 16) P kc ks 52 _ _ SHF _
    refine AW.iald (dq rfl) rfl (o3 h1) ?_
    show AW l (pI pg 16) P kc ks 53 _ _ SHF _
    refine fw_callVJ (as := [.ref 30, .int (s), .int (M.1 7 (nI p).toNatClampNeg), .int (M.1 5 (nI p).toNatClampNeg)]) (dq rfl) (pg_ok.2.2.1 16 _ _ _ _ rfl) rfl (by decide +kernel) rfl rfl (c5 h1) (fun y4 M4 e4 q4 => ?_)
    have hJ4 : ∀ e ∈ RR.2, M4.2.2 e.1 e.2.1 = e.2.2 := fun e he => by rw [e4]; exact hJ e he
    show AW l (pI pg 16) P kc ks 56 [(5, .int (s)), (4, .int (nI p)), (3, .ref 7), (2, .ref 30), (1, .ref 4), (0, .ref 33)] [.long (y4)] SHF _
    refine AW.lstore (dq rfl) (by decide +kernel) ?_
    show AW l (pI pg 16) P kc ks 58 [(6, .long (y4)), (5, .int (s)), (4, .int (nI p)), (3, .ref 7), (2, .ref 30), (1, .ref 4), (0, .ref 33)] [] SHF _
    refine AW.aload_n (dq rfl) rfl rfl ?_
    show AW l (pI pg 16) P kc ks 59 _ _ SHF _
    refine fw_get (dq rfl) (pg_ok.2.1 16 _ _ _ _ rfl) rfl (v := .ref 34) (isTA_ok rfl (rgR_ok hJ4 rfl)) ?_
    show AW l (pI pg 16) P kc ks 62 _ _ SHF _
    refine AW.iload (dq rfl) rfl ?_
    show AW l (pI pg 16) P kc ks 64 _ _ SHF _
    refine AW.dup2_11 (dq rfl) rfl rfl ?_
    show AW l (pI pg 16) P kc ks 65 _ _ SHF _
    refine AW.laldP (by decide) (dq rfl) rfl (o6 h1 y4 M4 e4 q4) ?_
    show AW l (pI pg 16) P kc ks 66 _ _ SHF _
    refine AW.lload (dq rfl) rfl ?_
    show AW l (pI pg 16) P kc ks 68 _ _ SHF _
    refine AW.iconst (dq rfl) ?_
    show AW l (pI pg 16) P kc ks 69 _ _ SHF _
    refine AW.iload (dq rfl) rfl ?_
    show AW l (pI pg 16) P kc ks 71 _ _ SHF _
    refine AW.ishl (dq rfl) ?_
    show AW l (pI pg 16) P kc ks 72 _ _ SHF _
    refine AW.lshl (dq rfl) ?_
    show AW l (pI pg 16) P kc ks 73 _ _ SHF _
    refine AW.lor (dq rfl) ?_
    show AW l (pI pg 16) P kc ks 74 _ _ SHF _
    refine AW.lastP (by decide) (dq rfl) rfl (o6 h1 y4 M4 e4 q4) ?_
    show AW l (pI pg 16) P kc ks 75 _ _ SHF _
    refine AW.iinc (dq rfl) rfl (by decide +kernel) ?_
    show AW l (pI pg 16) P kc ks 78 [(5, .int ((s) + Int32.ofInt (-1))), (6, .long (y4)), (4, .int (nI p)), (3, .ref 7), (2, .ref 30), (1, .ref 4), (0, .ref 33)] [] SHF _
    refine AW.goto (dq rfl) (tgt := 33) (by decide) ?_
    refine AW.drop (lv' := [(5, .int ((s) + Int32.ofInt (-1))), (4, .int (nI p)), (3, .ref 7), (2, .ref 30), (1, .ref 4), (0, .ref 33)]) (List.forall_mem_cons.mpr ⟨List.mem_of_getElem? (i := 0) rfl, List.forall_mem_cons.mpr ⟨List.mem_of_getElem? (i := 2) rfl, List.forall_mem_cons.mpr ⟨List.mem_of_getElem? (i := 3) rfl, List.forall_mem_cons.mpr ⟨List.mem_of_getElem? (i := 4) rfl, List.forall_mem_cons.mpr ⟨List.mem_of_getElem? (i := 5) rfl, List.forall_mem_cons.mpr ⟨List.mem_of_getElem? (i := 6) rfl, fun _ h => absurd h List.not_mem_nil⟩⟩⟩⟩⟩⟩) ?_
    exact k7 h1 y4 M4 e4 q4

theorem sbna_0 {l : aL} {P : aP} {kc ks : Nat} {M : aM} (hJ : ∀ e ∈ RR.2, M.2.2 e.1 e.2.1 = e.2.2) (hl0 : l.1.stackTraces = false) (Q1 : aM → Prop) (c2 : AC l (pI pg 17) (fcV M Q1) 0 0 [.ref 35, .long (Int64.ofNat (0 : Fin 2))] SHF M) (k3 : ∀ (M1 : aM), ∀ (e1 : M1.2.2 = M.2.2), ∀ (q1 : Q1 M1), AW l (pI pg 20) P kc ks 10 [(2, .int (Int32.ofInt 0)), (1, .ref 4), (0, .ref 33)] [] SHF M1) : AW l (pI pg 20) P kc ks 0 [(0, .ref 33), (1, .ref 4)] [] SHF M := by
  refine AW.aload_n (dq rfl) rfl rfl ?_
  show AW l (pI pg 20) P kc ks 1 _ _ SHF _
  refine fw_get (dq rfl) (pg_ok.2.1 20 _ _ _ _ rfl) rfl (v := .ref 35) (isTA_ok rfl (rgR_ok hJ rfl)) ?_
  show AW l (pI pg 20) P kc ks 4 _ _ SHF _
  refine AW.lconst (dq rfl) ?_
  show AW l (pI pg 20) P kc ks 5 _ _ SHF _
  refine fw_callSV (as := [.ref 35, .long (Int64.ofNat (0 : Fin 2))]) (dq rfl) (pg_ok.2.2.1 20 _ _ _ _ rfl) (by decide +kernel) rfl rfl (c2) (fun M1 e1 q1 => ?_)
  have hJ1 : ∀ e ∈ RR.2, M1.2.2 e.1 e.2.1 = e.2.2 := fun e he => by rw [e1]; exact hJ e he
  show AW l (pI pg 20) P kc ks 8 [(0, .ref 33), (1, .ref 4)] [] SHF _
  refine AW.iconst (dq rfl) ?_
  show AW l (pI pg 20) P kc ks 9 _ _ SHF _
  refine AW.istore_n (dq rfl) (by decide +kernel) ?_
  show AW l (pI pg 20) P kc ks 10 [(2, .int (Int32.ofInt 0)), (0, .ref 33), (1, .ref 4)] [] SHF _
  refine AW.drop (lv' := [(2, .int (Int32.ofInt 0)), (1, .ref 4), (0, .ref 33)]) (List.forall_mem_cons.mpr ⟨List.mem_of_getElem? (i := 0) rfl, List.forall_mem_cons.mpr ⟨List.mem_of_getElem? (i := 2) rfl, List.forall_mem_cons.mpr ⟨List.mem_of_getElem? (i := 1) rfl, fun _ h => absurd h List.not_mem_nil⟩⟩⟩) ?_
  exact k3 M1 e1 q1

theorem sbna_10 {l : aL} {P : aP} {kc ks : Nat} {s : Nat} {M : aM} (hJ : ∀ e ∈ RR.2, M.2.2 e.1 e.2.1 = e.2.2) (hl0 : l.1.stackTraces = false) (Q1 : Int32 → aM → Prop) (c2 : AC l (pI pg 18) (fcI M Q1) 0 0 [.ref 4] SHF M) (r4 : ∀ (y1 : Int32), ∀ (M1 : aM), ∀ (e1 : M1.2.2 = M.2.2), ∀ (q1 : Q1 y1 M1), ∀ (h3 : (y1 : Int32) < (nI s : Int32)), P (.inl none) SHF M1) (Q5 : Int32 → aM → Int32 → aM → Prop) (c6 : ∀ (y1 : Int32), ∀ (M1 : aM), ∀ (e1 : M1.2.2 = M.2.2), ∀ (q1 : Q1 y1 M1), ∀ (h3 : ¬ ((y1 : Int32) < (nI s : Int32))), AC l (pI pg 21) (fcI M1 (Q5 y1 M1)) 0 0 [.int (nI s)] SHF M1) (o7 : ∀ (y1 : Int32), ∀ (M1 : aM), ∀ (e1 : M1.2.2 = M.2.2), ∀ (q1 : Q1 y1 M1), ∀ (h3 : ¬ ((y1 : Int32) < (nI s : Int32))), ∀ (y5 : Int32), ∀ (M5 : aM), ∀ (e5 : M5.2.2 = M1.2.2), ∀ (q5 : (Q5 y1 M1) y5 M5), vp_in (y5) 9) (o8 : ∀ (y1 : Int32), ∀ (M1 : aM), ∀ (e1 : M1.2.2 = M.2.2), ∀ (q1 : Q1 y1 M1), ∀ (h3 : ¬ ((y1 : Int32) < (nI s : Int32))), ∀ (y5 : Int32), ∀ (M5 : aM), ∀ (e5 : M5.2.2 = M1.2.2), ∀ (q5 : (Q5 y1 M1) y5 M5), vp_in (nI s) 256) (k9 : ∀ (y1 : Int32), ∀ (M1 : aM), ∀ (e1 : M1.2.2 = M.2.2), ∀ (q1 : Q1 y1 M1), ∀ (h3 : ¬ ((y1 : Int32) < (nI s : Int32))), ∀ (y5 : Int32), ∀ (M5 : aM), ∀ (e5 : M5.2.2 = M1.2.2), ∀ (q5 : (Q5 y1 M1) y5 M5), AW l (pI pg 20) P kc ks 10 [(2, .int ((nI s) + Int32.ofInt 1)), (1, .ref 4), (0, .ref 33)] [] SHF (asL M5 35 (y5).toNatClampNeg ((lgV M5 35 (y5).toNatClampNeg) ||| (lgV M5 34 (nI s).toNatClampNeg)))) : AW l (pI pg 20) P kc ks 10 [(2, .int (nI s)), (1, .ref 4), (0, .ref 33)] [] SHF M := by
  refine AW.iload_n (dq rfl) rfl ?_
  show AW l (pI pg 20) P kc ks 11 _ _ SHF _
  refine AW.aload_n (dq rfl) rfl rfl ?_
  show AW l (pI pg 20) P kc ks 12 _ _ SHF _
  refine fw_callVI (as := []) (dq rfl) (pg_ok.2.2.1 20 _ _ _ _ rfl) rfl (by decide +kernel) rfl rfl (c2) (fun y1 M1 e1 q1 => ?_)
  have hJ1 : ∀ e ∈ RR.2, M1.2.2 e.1 e.2.1 = e.2.2 := fun e he => by rw [e1]; exact hJ e he
  show AW l (pI pg 20) P kc ks 15 [(2, .int (nI s)), (1, .ref 4), (0, .ref 33)] [.int (y1), .int (nI s)] SHF _
  refine AW.icmp_gt (dq rfl) (tgt := 42) (by decide) (fun h3 => ?_) (fun h3 => ?_)
  · have _ := h3
    refine AW.vret (dq rfl) rfl ?_
    exact r4 y1 M1 e1 q1 h3
  · have _ := h3
    refine AW.aload_n (dq rfl) rfl rfl ?_
    show AW l (pI pg 20) P kc ks 19 _ _ SHF _
    refine fw_get (dq rfl) (pg_ok.2.1 20 _ _ _ _ rfl) rfl (v := .ref 35) (isTA_ok rfl (rgR_ok hJ1 rfl)) ?_
    show AW l (pI pg 20) P kc ks 22 _ _ SHF _
    refine AW.iload_n (dq rfl) rfl ?_
    show AW l (pI pg 20) P kc ks 23 _ _ SHF _
    refine fw_callSI (as := [.int (nI s)]) (dq rfl) (pg_ok.2.2.1 20 _ _ _ _ rfl) (by decide +kernel) rfl rfl (c6 y1 M1 e1 q1 h3) (fun y5 M5 e5 q5 => ?_)
    have hJ5 : ∀ e ∈ RR.2, M5.2.2 e.1 e.2.1 = e.2.2 := fun e he => by rw [e5]; exact hJ1 e he
    show AW l (pI pg 20) P kc ks 26 [(2, .int (nI s)), (1, .ref 4), (0, .ref 33)] [.int (y5), .ref 35] SHF _
    refine AW.dup2_11 (dq rfl) rfl rfl ?_
    show AW l (pI pg 20) P kc ks 27 _ _ SHF _
    refine AW.laldP (by decide) (dq rfl) rfl (o7 y1 M1 e1 q1 h3 y5 M5 e5 q5) ?_
    show AW l (pI pg 20) P kc ks 28 _ _ SHF _
    refine AW.aload_n (dq rfl) rfl rfl ?_
    show AW l (pI pg 20) P kc ks 29 _ _ SHF _
    refine fw_get (dq rfl) (pg_ok.2.1 20 _ _ _ _ rfl) rfl (v := .ref 34) (isTA_ok rfl (rgR_ok hJ5 rfl)) ?_
    show AW l (pI pg 20) P kc ks 32 _ _ SHF _
    refine AW.iload_n (dq rfl) rfl ?_
    show AW l (pI pg 20) P kc ks 33 _ _ SHF _
    refine AW.laldP (by decide) (dq rfl) rfl (o8 y1 M1 e1 q1 h3 y5 M5 e5 q5) ?_
    show AW l (pI pg 20) P kc ks 34 _ _ SHF _
    refine AW.lor (dq rfl) ?_
    show AW l (pI pg 20) P kc ks 35 _ _ SHF _
    refine AW.lastP (by decide) (dq rfl) rfl (o7 y1 M1 e1 q1 h3 y5 M5 e5 q5) ?_
    show AW l (pI pg 20) P kc ks 36 _ _ SHF _
    refine AW.iinc (dq rfl) rfl (by decide +kernel) ?_
    show AW l (pI pg 20) P kc ks 39 [(2, .int ((nI s) + Int32.ofInt 1)), (1, .ref 4), (0, .ref 33)] [] SHF _
    refine AW.goto (dq rfl) (tgt := 10) (by decide) ?_
    refine AW.drop (lv' := [(2, .int ((nI s) + Int32.ofInt 1)), (1, .ref 4), (0, .ref 33)]) (List.forall_mem_cons.mpr ⟨List.mem_of_getElem? (i := 0) rfl, List.forall_mem_cons.mpr ⟨List.mem_of_getElem? (i := 1) rfl, List.forall_mem_cons.mpr ⟨List.mem_of_getElem? (i := 2) rfl, fun _ h => absurd h List.not_mem_nil⟩⟩⟩) ?_
    exact k9 y1 M1 e1 q1 h3 y5 M5 e5 q5

theorem gnu_0 {l : aL} {P : aP} {kc ks : Nat} {x : Int32} {M : aM} (hJ : ∀ e ∈ RL, M.2.2 e.1 e.2.1 = e.2.2) (hl0 : l.1.stackTraces = false) (k1 : AW l (pI pg 115) P kc ks 4 [(3, .int (Int32.ofInt 1)), (2, .int (Int32.ofInt 0)), (1, .int (x)), (0, .ref 33)] [] SHF M) : AW l (pI pg 115) P kc ks 0 [(0, .ref 33), (1, .int (x))] [] SHF M := by
  refine AW.iconst (dq rfl) ?_
  show AW l (pI pg 115) P kc ks 1 _ _ SHF _
  refine AW.istore_n (dq rfl) (by decide +kernel) ?_
  show AW l (pI pg 115) P kc ks 2 [(2, .int (Int32.ofInt 0)), (0, .ref 33), (1, .int (x))] [] SHF _
  refine AW.iconst (dq rfl) ?_
  show AW l (pI pg 115) P kc ks 3 _ _ SHF _
  refine AW.istore_n (dq rfl) (by decide +kernel) ?_
  show AW l (pI pg 115) P kc ks 4 [(3, .int (Int32.ofInt 1)), (2, .int (Int32.ofInt 0)), (0, .ref 33), (1, .int (x))] [] SHF _
  refine AW.drop (lv' := [(3, .int (Int32.ofInt 1)), (2, .int (Int32.ofInt 0)), (1, .int (x)), (0, .ref 33)]) (List.forall_mem_cons.mpr ⟨List.mem_of_getElem? (i := 0) rfl, List.forall_mem_cons.mpr ⟨List.mem_of_getElem? (i := 1) rfl, List.forall_mem_cons.mpr ⟨List.mem_of_getElem? (i := 3) rfl, List.forall_mem_cons.mpr ⟨List.mem_of_getElem? (i := 2) rfl, fun _ h => absurd h List.not_mem_nil⟩⟩⟩⟩) ?_
  exact k1

theorem gnu_4 {l : aL} {P : aP} {kc ks : Nat} {k : Nat} {x v : Int32} {M : aM} (hJ : ∀ e ∈ RL, M.2.2 e.1 e.2.1 = e.2.2) (hl0 : l.1.stackTraces = false) (r2 : ∀ (h1 : ((Int8.ofInt 8).toInt32 : Int32) < (nI k : Int32)), P (.inl (some (.int (v)))) SHF M) (o3 : ∀ (h1 : ¬ (((Int8.ofInt 8).toInt32 : Int32) < (nI k : Int32))), vp_in (nI k) 9) (k5 : ∀ (h1 : ¬ (((Int8.ofInt 8).toInt32 : Int32) < (nI k : Int32))), ∀ (h4 : (lg_cmp ((((lgV M 35 (nI k).toNatClampNeg).toUInt64 >>> ((x).toInt64.toUInt64 &&& Int64.toUInt64 63)).toInt64) &&& (Int64.ofNat (1 : Fin 2))) (Int64.ofNat (0 : Fin 2)) : Int32) = 0), AW l (pI pg 115) P kc ks 4 [(3, .int ((nI k) + Int32.ofInt 1)), (2, .int (v)), (1, .int (x)), (0, .ref 33)] [] SHF M) (k6 : ∀ (h1 : ¬ (((Int8.ofInt 8).toInt32 : Int32) < (nI k : Int32))), ∀ (h4 : ¬ ((lg_cmp ((((lgV M 35 (nI k).toNatClampNeg).toUInt64 >>> ((x).toInt64.toUInt64 &&& Int64.toUInt64 63)).toInt64) &&& (Int64.ofNat (1 : Fin 2))) (Int64.ofNat (0 : Fin 2)) : Int32) = 0)), AW l (pI pg 115) P kc ks 4 [(3, .int ((nI k) + Int32.ofInt 1)), (2, .int (nI k)), (1, .int (x)), (0, .ref 33)] [] SHF M) : AW l (pI pg 115) P kc ks 4 [(3, .int (nI k)), (2, .int (v)), (1, .int (x)), (0, .ref 33)] [] SHF M := by
  refine AW.iload_n (dq rfl) rfl ?_
  show AW l (pI pg 115) P kc ks 5 _ _ SHF _
  refine AW.bipush (dq rfl) ?_
  show AW l (pI pg 115) P kc ks 7 _ _ SHF _
  refine AW.icmp_gt (dq rfl) (tgt := 33) (by decide) (fun h1 => ?_) (fun h1 => ?_)
  · have _ := h1
    refine AW.iload_n (dq rfl) rfl ?_
    show AW l (pI pg 115) P kc ks 34 _ _ SHF _
    refine AW.iret (dq rfl) rfl ?_
    exact r2 h1
  · have _ := h1
    refine AW.aload_n (dq rfl) rfl rfl ?_
    show AW l (pI pg 115) P kc ks 11 _ _ SHF _
    refine fw_get (dq rfl) (pg_ok.2.1 115 _ _ _ _ rfl) rfl (v := .ref 35) (isTA_ok rfl (rgR_ok hJ rfl)) ?_
    show AW l (pI pg 115) P kc ks 14 _ _ SHF _
    refine AW.iload_n (dq rfl) rfl ?_
    show AW l (pI pg 115) P kc ks 15 _ _ SHF _
    refine AW.laldP (by decide) (dq rfl) rfl (o3 h1) ?_
    show AW l (pI pg 115) P kc ks 16 _ _ SHF _
    refine AW.iload_n (dq rfl) rfl ?_
    show AW l (pI pg 115) P kc ks 17 _ _ SHF _
    refine AW.lushr (dq rfl) ?_
    show AW l (pI pg 115) P kc ks 18 _ _ SHF _
    refine AW.lconst (dq rfl) ?_
    show AW l (pI pg 115) P kc ks 19 _ _ SHF _
    refine AW.land (dq rfl) ?_
    show AW l (pI pg 115) P kc ks 20 _ _ SHF _
    refine AW.lconst (dq rfl) ?_
    show AW l (pI pg 115) P kc ks 21 _ _ SHF _
    refine AW.lcmp (dq rfl) ?_
    show AW l (pI pg 115) P kc ks 22 _ _ SHF _
    refine AW.if_eq (dq rfl) (tgt := 27) (by decide) (fun h4 => ?_) (fun h4 => ?_)
    · have _ := h4
      refine AW.iinc (dq rfl) rfl (by decide +kernel) ?_
      show AW l (pI pg 115) P kc ks 30 [(3, .int ((nI k) + Int32.ofInt 1)), (2, .int (v)), (1, .int (x)), (0, .ref 33)] [] SHF _
      refine AW.goto (dq rfl) (tgt := 4) (by decide) ?_
      refine AW.drop (lv' := [(3, .int ((nI k) + Int32.ofInt 1)), (2, .int (v)), (1, .int (x)), (0, .ref 33)]) (List.forall_mem_cons.mpr ⟨List.mem_of_getElem? (i := 0) rfl, List.forall_mem_cons.mpr ⟨List.mem_of_getElem? (i := 1) rfl, List.forall_mem_cons.mpr ⟨List.mem_of_getElem? (i := 2) rfl, List.forall_mem_cons.mpr ⟨List.mem_of_getElem? (i := 3) rfl, fun _ h => absurd h List.not_mem_nil⟩⟩⟩⟩) ?_
      exact k5 h1 h4
    · have _ := h4
      refine AW.iload_n (dq rfl) rfl ?_
      show AW l (pI pg 115) P kc ks 26 _ _ SHF _
      refine AW.istore_n (dq rfl) (by decide +kernel) ?_
      show AW l (pI pg 115) P kc ks 27 [(2, .int (nI k)), (3, .int (nI k)), (1, .int (x)), (0, .ref 33)] [] SHF _
      refine AW.iinc (dq rfl) rfl (by decide +kernel) ?_
      show AW l (pI pg 115) P kc ks 30 [(3, .int ((nI k) + Int32.ofInt 1)), (2, .int (nI k)), (1, .int (x)), (0, .ref 33)] [] SHF _
      refine AW.goto (dq rfl) (tgt := 4) (by decide) ?_
      refine AW.drop (lv' := [(3, .int ((nI k) + Int32.ofInt 1)), (2, .int (nI k)), (1, .int (x)), (0, .ref 33)]) (List.forall_mem_cons.mpr ⟨List.mem_of_getElem? (i := 0) rfl, List.forall_mem_cons.mpr ⟨List.mem_of_getElem? (i := 1) rfl, List.forall_mem_cons.mpr ⟨List.mem_of_getElem? (i := 2) rfl, List.forall_mem_cons.mpr ⟨List.mem_of_getElem? (i := 3) rfl, fun _ h => absurd h List.not_mem_nil⟩⟩⟩⟩) ?_
      exact k6 h1 h4

theorem inc_0 {l : aL} {P : aP} {kc ks : Nat} {x : Int32} {f : Int64} {M : aM} (hJ : ∀ e ∈ RL, M.2.2 e.1 e.2.1 = e.2.2) (hl0 : l.1.stackTraces = false) (o1 : vp_in (x) 256) (r3 : ∀ (h2 : ¬ (lg_cmp ((lgV M 34 (x).toNatClampNeg) &&& (f)) (f) : Int32) = 0), P (.inl (some (.int (Int32.ofInt 0)))) SHF M) (r4 : ∀ (h2 : (lg_cmp ((lgV M 34 (x).toNatClampNeg) &&& (f)) (f) : Int32) = 0), P (.inl (some (.int (Int32.ofInt 1)))) SHF M) : AW l (pI pg 119) P kc ks 0 [(0, .ref 33), (1, .int (x)), (2, .long (f))] [] SHF M := by
  refine AW.aload_n (dq rfl) rfl rfl ?_
  show AW l (pI pg 119) P kc ks 1 _ _ SHF _
  refine fw_get (dq rfl) (pg_ok.2.1 119 _ _ _ _ rfl) rfl (v := .ref 34) (isTA_ok rfl (rgR_ok hJ rfl)) ?_
  show AW l (pI pg 119) P kc ks 4 _ _ SHF _
  refine AW.iload_n (dq rfl) rfl ?_
  show AW l (pI pg 119) P kc ks 5 _ _ SHF _
  refine AW.laldP (by decide) (dq rfl) rfl (o1) ?_
  show AW l (pI pg 119) P kc ks 6 _ _ SHF _
  refine AW.lload_n (dq rfl) rfl ?_
  show AW l (pI pg 119) P kc ks 7 _ _ SHF _
  refine AW.land (dq rfl) ?_
  show AW l (pI pg 119) P kc ks 8 _ _ SHF _
  refine AW.lload_n (dq rfl) rfl ?_
  show AW l (pI pg 119) P kc ks 9 _ _ SHF _
  refine AW.lcmp (dq rfl) ?_
  show AW l (pI pg 119) P kc ks 10 _ _ SHF _
  refine AW.if_ne (dq rfl) (tgt := 17) (by decide) (fun h2 => ?_) (fun h2 => ?_)
  · have _ := h2
    refine AW.iconst (dq rfl) ?_
    show AW l (pI pg 119) P kc ks 18 _ _ SHF _
    refine AW.zret (dq rfl) rfl (by decide) ?_
    exact r3 h2
  · have _ := h2
    refine AW.iconst (dq rfl) ?_
    show AW l (pI pg 119) P kc ks 14 _ _ SHF _
    refine AW.goto (dq rfl) (tgt := 18) (by decide) ?_
    refine AW.zret (dq rfl) rfl (by decide) ?_
    exact r4 h2

theorem suna_0 {l : aL} {P : aP} {kc ks : Nat} {x : Int32} {M : aM} (hJ : ∀ e ∈ RR.2, M.2.2 e.1 e.2.1 = e.2.2) (hl0 : l.1.stackTraces = false) (k1 : AW l (pI pg 118) P kc ks 5 [(4, .int (Int32.ofInt 0)), (3, .int (Int32.ofInt (-1))), (2, .int (x)), (1, .ref 4), (0, .ref 33)] [] SHF M) : AW l (pI pg 118) P kc ks 0 [(0, .ref 33), (1, .ref 4), (2, .int (x))] [] SHF M := by
  refine AW.iconst (dq rfl) ?_
  show AW l (pI pg 118) P kc ks 1 _ _ SHF _
  refine AW.istore_n (dq rfl) (by decide +kernel) ?_
  show AW l (pI pg 118) P kc ks 2 [(3, .int (Int32.ofInt (-1))), (0, .ref 33), (1, .ref 4), (2, .int (x))] [] SHF _
  refine AW.iconst (dq rfl) ?_
  show AW l (pI pg 118) P kc ks 3 _ _ SHF _
  refine AW.istore (dq rfl) (by decide +kernel) ?_
  show AW l (pI pg 118) P kc ks 5 [(4, .int (Int32.ofInt 0)), (3, .int (Int32.ofInt (-1))), (0, .ref 33), (1, .ref 4), (2, .int (x))] [] SHF _
  refine AW.drop (lv' := [(4, .int (Int32.ofInt 0)), (3, .int (Int32.ofInt (-1))), (2, .int (x)), (1, .ref 4), (0, .ref 33)]) (List.forall_mem_cons.mpr ⟨List.mem_of_getElem? (i := 0) rfl, List.forall_mem_cons.mpr ⟨List.mem_of_getElem? (i := 1) rfl, List.forall_mem_cons.mpr ⟨List.mem_of_getElem? (i := 4) rfl, List.forall_mem_cons.mpr ⟨List.mem_of_getElem? (i := 3) rfl, List.forall_mem_cons.mpr ⟨List.mem_of_getElem? (i := 2) rfl, fun _ h => absurd h List.not_mem_nil⟩⟩⟩⟩⟩) ?_
  exact k1

theorem suna_5 {l : aL} {P : aP} {kc ks : Nat} {s : Nat} {x v : Int32} {M : aM} (hJ : ∀ e ∈ RR.2, M.2.2 e.1 e.2.1 = e.2.2) (hl0 : l.1.stackTraces = false) (Q1 : Int32 → aM → Prop) (c2 : AC l (pI pg 18) (fcI M Q1) 0 0 [.ref 4] SHF M) (r4 : ∀ (y1 : Int32), ∀ (M1 : aM), ∀ (e1 : M1.2.2 = M.2.2), ∀ (q1 : Q1 y1 M1), ∀ (h3 : (y1 : Int32) < (nI s : Int32)), P (.inl (some (.int (v)))) SHF M1) (Q7 : Int32 → aM → Int32 → aM → Prop) (c8 : ∀ (y1 : Int32), ∀ (M1 : aM), ∀ (e1 : M1.2.2 = M.2.2), ∀ (q1 : Q1 y1 M1), ∀ (h3 : ¬ ((y1 : Int32) < (nI s : Int32))), ∀ (h5 : (v : Int32) = (Int32.ofInt (-1) : Int32)), AC l (pI pg 119) (fcI M1 (Q7 y1 M1)) 0 0 [.ref 33, .int (nI s), .long ((Int64.ofNat (1 : Fin 2)) <<< ((x).toInt64 &&& 63))] SHF M1) (k10 : ∀ (y1 : Int32), ∀ (M1 : aM), ∀ (e1 : M1.2.2 = M.2.2), ∀ (q1 : Q1 y1 M1), ∀ (h3 : ¬ ((y1 : Int32) < (nI s : Int32))), ∀ (h5 : (v : Int32) = (Int32.ofInt (-1) : Int32)), ∀ (y7 : Int32), ∀ (M7 : aM), ∀ (e7 : M7.2.2 = M1.2.2), ∀ (q7 : (Q7 y1 M1) y7 M7), ∀ (h9 : ¬ (y7 : Int32) = 0), AW l (pI pg 118) P kc ks 5 [(4, .int ((nI s) + Int32.ofInt 1)), (3, .int (v)), (2, .int (x)), (1, .ref 4), (0, .ref 33)] [] SHF M7) (k11 : ∀ (y1 : Int32), ∀ (M1 : aM), ∀ (e1 : M1.2.2 = M.2.2), ∀ (q1 : Q1 y1 M1), ∀ (h3 : ¬ ((y1 : Int32) < (nI s : Int32))), ∀ (h5 : (v : Int32) = (Int32.ofInt (-1) : Int32)), ∀ (y7 : Int32), ∀ (M7 : aM), ∀ (e7 : M7.2.2 = M1.2.2), ∀ (q7 : (Q7 y1 M1) y7 M7), ∀ (h9 : (y7 : Int32) = 0), AW l (pI pg 118) P kc ks 5 [(4, .int ((nI s) + Int32.ofInt 1)), (3, .int (nI s)), (2, .int (x)), (1, .ref 4), (0, .ref 33)] [] SHF M7) (Q12 : Int32 → aM → Int32 → aM → Prop) (c13 : ∀ (y1 : Int32), ∀ (M1 : aM), ∀ (e1 : M1.2.2 = M.2.2), ∀ (q1 : Q1 y1 M1), ∀ (h3 : ¬ ((y1 : Int32) < (nI s : Int32))), ∀ (h5 : ¬ ((v : Int32) = (Int32.ofInt (-1) : Int32))), AC l (pI pg 21) (fcI M1 (Q12 y1 M1)) 0 0 [.int (nI s)] SHF M1) (Q14 : Int32 → aM → Int32 → aM → Int32 → aM → Prop) (c15 : ∀ (y1 : Int32), ∀ (M1 : aM), ∀ (e1 : M1.2.2 = M.2.2), ∀ (q1 : Q1 y1 M1), ∀ (h3 : ¬ ((y1 : Int32) < (nI s : Int32))), ∀ (h5 : ¬ ((v : Int32) = (Int32.ofInt (-1) : Int32))), ∀ (y12 : Int32), ∀ (M12 : aM), ∀ (e12 : M12.2.2 = M1.2.2), ∀ (q12 : (Q12 y1 M1) y12 M12), AC l (pI pg 21) (fcI M12 (Q14 y1 M1 y12 M12)) 0 0 [.int (v)] SHF M12) (k18 : ∀ (y1 : Int32), ∀ (M1 : aM), ∀ (e1 : M1.2.2 = M.2.2), ∀ (q1 : Q1 y1 M1), ∀ (h3 : ¬ ((y1 : Int32) < (nI s : Int32))), ∀ (h5 : ¬ ((v : Int32) = (Int32.ofInt (-1) : Int32))), ∀ (y12 : Int32), ∀ (M12 : aM), ∀ (e12 : M12.2.2 = M1.2.2), ∀ (q12 : (Q12 y1 M1) y12 M12), ∀ (y14 : Int32), ∀ (M14 : aM), ∀ (e14 : M14.2.2 = M12.2.2), ∀ (q14 : (Q14 y1 M1 y12 M12) y14 M14), ∀ (h16 : (y14 : Int32) ≤ (y12 : Int32)), AW l (pI pg 118) P kc ks 5 [(4, .int ((nI s) + Int32.ofInt 1)), (3, .int (v)), (2, .int (x)), (1, .ref 4), (0, .ref 33)] [] SHF M14) (Q20 : Int32 → aM → Int32 → aM → Int32 → aM → Int32 → aM → Prop) (c21 : ∀ (y1 : Int32), ∀ (M1 : aM), ∀ (e1 : M1.2.2 = M.2.2), ∀ (q1 : Q1 y1 M1), ∀ (h3 : ¬ ((y1 : Int32) < (nI s : Int32))), ∀ (h5 : ¬ ((v : Int32) = (Int32.ofInt (-1) : Int32))), ∀ (y12 : Int32), ∀ (M12 : aM), ∀ (e12 : M12.2.2 = M1.2.2), ∀ (q12 : (Q12 y1 M1) y12 M12), ∀ (y14 : Int32), ∀ (M14 : aM), ∀ (e14 : M14.2.2 = M12.2.2), ∀ (q14 : (Q14 y1 M1 y12 M12) y14 M14), ∀ (h16 : ¬ ((y14 : Int32) ≤ (y12 : Int32))), AC l (pI pg 119) (fcI M14 (Q20 y1 M1 y12 M12 y14 M14)) 0 0 [.ref 33, .int (nI s), .long ((Int64.ofNat (1 : Fin 2)) <<< ((x).toInt64 &&& 63))] SHF M14) (k23 : ∀ (y1 : Int32), ∀ (M1 : aM), ∀ (e1 : M1.2.2 = M.2.2), ∀ (q1 : Q1 y1 M1), ∀ (h3 : ¬ ((y1 : Int32) < (nI s : Int32))), ∀ (h5 : ¬ ((v : Int32) = (Int32.ofInt (-1) : Int32))), ∀ (y12 : Int32), ∀ (M12 : aM), ∀ (e12 : M12.2.2 = M1.2.2), ∀ (q12 : (Q12 y1 M1) y12 M12), ∀ (y14 : Int32), ∀ (M14 : aM), ∀ (e14 : M14.2.2 = M12.2.2), ∀ (q14 : (Q14 y1 M1 y12 M12) y14 M14), ∀ (h16 : ¬ ((y14 : Int32) ≤ (y12 : Int32))), ∀ (y20 : Int32), ∀ (M20 : aM), ∀ (e20 : M20.2.2 = M14.2.2), ∀ (q20 : (Q20 y1 M1 y12 M12 y14 M14) y20 M20), ∀ (h22 : ¬ (y20 : Int32) = 0), AW l (pI pg 118) P kc ks 5 [(4, .int ((nI s) + Int32.ofInt 1)), (3, .int (v)), (2, .int (x)), (1, .ref 4), (0, .ref 33)] [] SHF M20) (k24 : ∀ (y1 : Int32), ∀ (M1 : aM), ∀ (e1 : M1.2.2 = M.2.2), ∀ (q1 : Q1 y1 M1), ∀ (h3 : ¬ ((y1 : Int32) < (nI s : Int32))), ∀ (h5 : ¬ ((v : Int32) = (Int32.ofInt (-1) : Int32))), ∀ (y12 : Int32), ∀ (M12 : aM), ∀ (e12 : M12.2.2 = M1.2.2), ∀ (q12 : (Q12 y1 M1) y12 M12), ∀ (y14 : Int32), ∀ (M14 : aM), ∀ (e14 : M14.2.2 = M12.2.2), ∀ (q14 : (Q14 y1 M1 y12 M12) y14 M14), ∀ (h16 : ¬ ((y14 : Int32) ≤ (y12 : Int32))), ∀ (y20 : Int32), ∀ (M20 : aM), ∀ (e20 : M20.2.2 = M14.2.2), ∀ (q20 : (Q20 y1 M1 y12 M12 y14 M14) y20 M20), ∀ (h22 : (y20 : Int32) = 0), AW l (pI pg 118) P kc ks 5 [(4, .int ((nI s) + Int32.ofInt 1)), (3, .int (nI s)), (2, .int (x)), (1, .ref 4), (0, .ref 33)] [] SHF M20) : AW l (pI pg 118) P kc ks 5 [(4, .int (nI s)), (3, .int (v)), (2, .int (x)), (1, .ref 4), (0, .ref 33)] [] SHF M := by
  refine AW.iload (dq rfl) rfl ?_
  show AW l (pI pg 118) P kc ks 7 _ _ SHF _
  refine AW.aload_n (dq rfl) rfl rfl ?_
  show AW l (pI pg 118) P kc ks 8 _ _ SHF _
  refine fw_callVI (as := []) (dq rfl) (pg_ok.2.2.1 118 _ _ _ _ rfl) rfl (by decide +kernel) rfl rfl (c2) (fun y1 M1 e1 q1 => ?_)
  have hJ1 : ∀ e ∈ RR.2, M1.2.2 e.1 e.2.1 = e.2.2 := fun e he => by rw [e1]; exact hJ e he
  show AW l (pI pg 118) P kc ks 11 [(4, .int (nI s)), (3, .int (v)), (2, .int (x)), (1, .ref 4), (0, .ref 33)] [.int (y1), .int (nI s)] SHF _
  refine AW.icmp_gt (dq rfl) (tgt := 64) (by decide) (fun h3 => ?_) (fun h3 => ?_)
  · have _ := h3
    refine AW.iload_n (dq rfl) rfl ?_
    show AW l (pI pg 118) P kc ks 65 _ _ SHF _
    refine AW.iret (dq rfl) rfl ?_
    exact r4 y1 M1 e1 q1 h3
  · have _ := h3
    refine AW.iload_n (dq rfl) rfl ?_
    show AW l (pI pg 118) P kc ks 15 _ _ SHF _
    refine AW.iconst (dq rfl) ?_
    show AW l (pI pg 118) P kc ks 16 _ _ SHF _
    refine AW.icmp_eq (dq rfl) (tgt := 31) (by decide) (fun h5 => ?_) (fun h5 => ?_)
    · have _ := h5
      refine AW.iconst (dq rfl) ?_
      show AW l (pI pg 118) P kc ks 32 _ _ SHF _
      refine AW.goto (dq rfl) (tgt := 36) (by decide) ?_
      refine AW.istore (dq rfl) (by decide +kernel) ?_
      show AW l (pI pg 118) P kc ks 38 [(5, .int (Int32.ofInt 1)), (4, .int (nI s)), (3, .int (v)), (2, .int (x)), (1, .ref 4), (0, .ref 33)] [] SHF _
      refine AW.iload (dq rfl) rfl ?_
      show AW l (pI pg 118) P kc ks 40 _ _ SHF _
      refine AW.if_eq (dq rfl) (tgt := 58) (by decide) (fun h6 => ?_) (fun h6 => ?_)
      · exact absurd h6 (by decide)
      refine AW.aload_n (dq rfl) rfl rfl ?_
      show AW l (pI pg 118) P kc ks 44 _ _ SHF _
      refine AW.iload (dq rfl) rfl ?_
      show AW l (pI pg 118) P kc ks 46 _ _ SHF _
      refine AW.lconst (dq rfl) ?_
      show AW l (pI pg 118) P kc ks 47 _ _ SHF _
      refine AW.iload_n (dq rfl) rfl ?_
      show AW l (pI pg 118) P kc ks 48 _ _ SHF _
      refine AW.lshl (dq rfl) ?_
      show AW l (pI pg 118) P kc ks 49 _ _ SHF _
      refine fw_callVI (as := [.int (nI s), .long ((Int64.ofNat (1 : Fin 2)) <<< ((x).toInt64 &&& 63))]) (dq rfl) (pg_ok.2.2.1 118 _ _ _ _ rfl) rfl (by decide +kernel) rfl rfl (c8 y1 M1 e1 q1 h3 h5) (fun y7 M7 e7 q7 => ?_)
      have hJ7 : ∀ e ∈ RR.2, M7.2.2 e.1 e.2.1 = e.2.2 := fun e he => by rw [e7]; exact hJ1 e he
      show AW l (pI pg 118) P kc ks 52 [(5, .int (Int32.ofInt 1)), (4, .int (nI s)), (3, .int (v)), (2, .int (x)), (1, .ref 4), (0, .ref 33)] [.int (y7)] SHF _
      refine AW.if_ne (dq rfl) (tgt := 58) (by decide) (fun h9 => ?_) (fun h9 => ?_)
      · have _ := h9
        refine AW.iinc (dq rfl) rfl (by decide +kernel) ?_
        show AW l (pI pg 118) P kc ks 61 [(4, .int ((nI s) + Int32.ofInt 1)), (5, .int (Int32.ofInt 1)), (3, .int (v)), (2, .int (x)), (1, .ref 4), (0, .ref 33)] [] SHF _
        refine AW.goto (dq rfl) (tgt := 5) (by decide) ?_
        refine AW.drop (lv' := [(4, .int ((nI s) + Int32.ofInt 1)), (3, .int (v)), (2, .int (x)), (1, .ref 4), (0, .ref 33)]) (List.forall_mem_cons.mpr ⟨List.mem_of_getElem? (i := 0) rfl, List.forall_mem_cons.mpr ⟨List.mem_of_getElem? (i := 2) rfl, List.forall_mem_cons.mpr ⟨List.mem_of_getElem? (i := 3) rfl, List.forall_mem_cons.mpr ⟨List.mem_of_getElem? (i := 4) rfl, List.forall_mem_cons.mpr ⟨List.mem_of_getElem? (i := 5) rfl, fun _ h => absurd h List.not_mem_nil⟩⟩⟩⟩⟩) ?_
        exact k10 y1 M1 e1 q1 h3 h5 y7 M7 e7 q7 h9
      · have _ := h9
        refine AW.iload (dq rfl) rfl ?_
        show AW l (pI pg 118) P kc ks 57 _ _ SHF _
        refine AW.istore_n (dq rfl) (by decide +kernel) ?_
        show AW l (pI pg 118) P kc ks 58 [(3, .int (nI s)), (5, .int (Int32.ofInt 1)), (4, .int (nI s)), (2, .int (x)), (1, .ref 4), (0, .ref 33)] [] SHF _
        refine AW.iinc (dq rfl) rfl (by decide +kernel) ?_
        show AW l (pI pg 118) P kc ks 61 [(4, .int ((nI s) + Int32.ofInt 1)), (3, .int (nI s)), (5, .int (Int32.ofInt 1)), (2, .int (x)), (1, .ref 4), (0, .ref 33)] [] SHF _
        refine AW.goto (dq rfl) (tgt := 5) (by decide) ?_
        refine AW.drop (lv' := [(4, .int ((nI s) + Int32.ofInt 1)), (3, .int (nI s)), (2, .int (x)), (1, .ref 4), (0, .ref 33)]) (List.forall_mem_cons.mpr ⟨List.mem_of_getElem? (i := 0) rfl, List.forall_mem_cons.mpr ⟨List.mem_of_getElem? (i := 1) rfl, List.forall_mem_cons.mpr ⟨List.mem_of_getElem? (i := 3) rfl, List.forall_mem_cons.mpr ⟨List.mem_of_getElem? (i := 4) rfl, List.forall_mem_cons.mpr ⟨List.mem_of_getElem? (i := 5) rfl, fun _ h => absurd h List.not_mem_nil⟩⟩⟩⟩⟩) ?_
        exact k11 y1 M1 e1 q1 h3 h5 y7 M7 e7 q7 h9
    · have _ := h5
      refine AW.iload (dq rfl) rfl ?_
      show AW l (pI pg 118) P kc ks 21 _ _ SHF _
      refine fw_callSI (as := [.int (nI s)]) (dq rfl) (pg_ok.2.2.1 118 _ _ _ _ rfl) (by decide +kernel) rfl rfl (c13 y1 M1 e1 q1 h3 h5) (fun y12 M12 e12 q12 => ?_)
      have hJ12 : ∀ e ∈ RR.2, M12.2.2 e.1 e.2.1 = e.2.2 := fun e he => by rw [e12]; exact hJ1 e he
      show AW l (pI pg 118) P kc ks 24 [(4, .int (nI s)), (3, .int (v)), (2, .int (x)), (1, .ref 4), (0, .ref 33)] [.int (y12)] SHF _
      refine AW.iload_n (dq rfl) rfl ?_
      show AW l (pI pg 118) P kc ks 25 _ _ SHF _
      refine fw_callSI (as := [.int (v)]) (dq rfl) (pg_ok.2.2.1 118 _ _ _ _ rfl) (by decide +kernel) rfl rfl (c15 y1 M1 e1 q1 h3 h5 y12 M12 e12 q12) (fun y14 M14 e14 q14 => ?_)
      have hJ14 : ∀ e ∈ RR.2, M14.2.2 e.1 e.2.1 = e.2.2 := fun e he => by rw [e14]; exact hJ12 e he
      show AW l (pI pg 118) P kc ks 28 [(4, .int (nI s)), (3, .int (v)), (2, .int (x)), (1, .ref 4), (0, .ref 33)] [.int (y14), .int (y12)] SHF _
      refine AW.icmp_ge (dq rfl) (tgt := 35) (by decide) (fun h16 => ?_) (fun h16 => ?_)
      · have _ := h16
        refine AW.iconst (dq rfl) ?_
        show AW l (pI pg 118) P kc ks 36 _ _ SHF _
        refine AW.istore (dq rfl) (by decide +kernel) ?_
        show AW l (pI pg 118) P kc ks 38 [(5, .int (Int32.ofInt 0)), (4, .int (nI s)), (3, .int (v)), (2, .int (x)), (1, .ref 4), (0, .ref 33)] [] SHF _
        refine AW.iload (dq rfl) rfl ?_
        show AW l (pI pg 118) P kc ks 40 _ _ SHF _
        refine AW.if_eq (dq rfl) (tgt := 58) (by decide) (fun h17 => ?_) (fun h17 => ?_)
        rotate_left
        · exact absurd h17 (by decide)
        refine AW.iinc (dq rfl) rfl (by decide +kernel) ?_
        show AW l (pI pg 118) P kc ks 61 [(4, .int ((nI s) + Int32.ofInt 1)), (5, .int (Int32.ofInt 0)), (3, .int (v)), (2, .int (x)), (1, .ref 4), (0, .ref 33)] [] SHF _
        refine AW.goto (dq rfl) (tgt := 5) (by decide) ?_
        refine AW.drop (lv' := [(4, .int ((nI s) + Int32.ofInt 1)), (3, .int (v)), (2, .int (x)), (1, .ref 4), (0, .ref 33)]) (List.forall_mem_cons.mpr ⟨List.mem_of_getElem? (i := 0) rfl, List.forall_mem_cons.mpr ⟨List.mem_of_getElem? (i := 2) rfl, List.forall_mem_cons.mpr ⟨List.mem_of_getElem? (i := 3) rfl, List.forall_mem_cons.mpr ⟨List.mem_of_getElem? (i := 4) rfl, List.forall_mem_cons.mpr ⟨List.mem_of_getElem? (i := 5) rfl, fun _ h => absurd h List.not_mem_nil⟩⟩⟩⟩⟩) ?_
        exact k18 y1 M1 e1 q1 h3 h5 y12 M12 e12 q12 y14 M14 e14 q14 h16
      · have _ := h16
        refine AW.iconst (dq rfl) ?_
        show AW l (pI pg 118) P kc ks 32 _ _ SHF _
        refine AW.goto (dq rfl) (tgt := 36) (by decide) ?_
        refine AW.istore (dq rfl) (by decide +kernel) ?_
        show AW l (pI pg 118) P kc ks 38 [(5, .int (Int32.ofInt 1)), (4, .int (nI s)), (3, .int (v)), (2, .int (x)), (1, .ref 4), (0, .ref 33)] [] SHF _
        refine AW.iload (dq rfl) rfl ?_
        show AW l (pI pg 118) P kc ks 40 _ _ SHF _
        refine AW.if_eq (dq rfl) (tgt := 58) (by decide) (fun h19 => ?_) (fun h19 => ?_)
        · exact absurd h19 (by decide)
        refine AW.aload_n (dq rfl) rfl rfl ?_
        show AW l (pI pg 118) P kc ks 44 _ _ SHF _
        refine AW.iload (dq rfl) rfl ?_
        show AW l (pI pg 118) P kc ks 46 _ _ SHF _
        refine AW.lconst (dq rfl) ?_
        show AW l (pI pg 118) P kc ks 47 _ _ SHF _
        refine AW.iload_n (dq rfl) rfl ?_
        show AW l (pI pg 118) P kc ks 48 _ _ SHF _
        refine AW.lshl (dq rfl) ?_
        show AW l (pI pg 118) P kc ks 49 _ _ SHF _
        refine fw_callVI (as := [.int (nI s), .long ((Int64.ofNat (1 : Fin 2)) <<< ((x).toInt64 &&& 63))]) (dq rfl) (pg_ok.2.2.1 118 _ _ _ _ rfl) rfl (by decide +kernel) rfl rfl (c21 y1 M1 e1 q1 h3 h5 y12 M12 e12 q12 y14 M14 e14 q14 h16) (fun y20 M20 e20 q20 => ?_)
        have hJ20 : ∀ e ∈ RR.2, M20.2.2 e.1 e.2.1 = e.2.2 := fun e he => by rw [e20]; exact hJ14 e he
        show AW l (pI pg 118) P kc ks 52 [(5, .int (Int32.ofInt 1)), (4, .int (nI s)), (3, .int (v)), (2, .int (x)), (1, .ref 4), (0, .ref 33)] [.int (y20)] SHF _
        refine AW.if_ne (dq rfl) (tgt := 58) (by decide) (fun h22 => ?_) (fun h22 => ?_)
        · have _ := h22
          refine AW.iinc (dq rfl) rfl (by decide +kernel) ?_
          show AW l (pI pg 118) P kc ks 61 [(4, .int ((nI s) + Int32.ofInt 1)), (5, .int (Int32.ofInt 1)), (3, .int (v)), (2, .int (x)), (1, .ref 4), (0, .ref 33)] [] SHF _
          refine AW.goto (dq rfl) (tgt := 5) (by decide) ?_
          refine AW.drop (lv' := [(4, .int ((nI s) + Int32.ofInt 1)), (3, .int (v)), (2, .int (x)), (1, .ref 4), (0, .ref 33)]) (List.forall_mem_cons.mpr ⟨List.mem_of_getElem? (i := 0) rfl, List.forall_mem_cons.mpr ⟨List.mem_of_getElem? (i := 2) rfl, List.forall_mem_cons.mpr ⟨List.mem_of_getElem? (i := 3) rfl, List.forall_mem_cons.mpr ⟨List.mem_of_getElem? (i := 4) rfl, List.forall_mem_cons.mpr ⟨List.mem_of_getElem? (i := 5) rfl, fun _ h => absurd h List.not_mem_nil⟩⟩⟩⟩⟩) ?_
          exact k23 y1 M1 e1 q1 h3 h5 y12 M12 e12 q12 y14 M14 e14 q14 h16 y20 M20 e20 q20 h22
        · have _ := h22
          refine AW.iload (dq rfl) rfl ?_
          show AW l (pI pg 118) P kc ks 57 _ _ SHF _
          refine AW.istore_n (dq rfl) (by decide +kernel) ?_
          show AW l (pI pg 118) P kc ks 58 [(3, .int (nI s)), (5, .int (Int32.ofInt 1)), (4, .int (nI s)), (2, .int (x)), (1, .ref 4), (0, .ref 33)] [] SHF _
          refine AW.iinc (dq rfl) rfl (by decide +kernel) ?_
          show AW l (pI pg 118) P kc ks 61 [(4, .int ((nI s) + Int32.ofInt 1)), (3, .int (nI s)), (5, .int (Int32.ofInt 1)), (2, .int (x)), (1, .ref 4), (0, .ref 33)] [] SHF _
          refine AW.goto (dq rfl) (tgt := 5) (by decide) ?_
          refine AW.drop (lv' := [(4, .int ((nI s) + Int32.ofInt 1)), (3, .int (nI s)), (2, .int (x)), (1, .ref 4), (0, .ref 33)]) (List.forall_mem_cons.mpr ⟨List.mem_of_getElem? (i := 0) rfl, List.forall_mem_cons.mpr ⟨List.mem_of_getElem? (i := 1) rfl, List.forall_mem_cons.mpr ⟨List.mem_of_getElem? (i := 3) rfl, List.forall_mem_cons.mpr ⟨List.mem_of_getElem? (i := 4) rfl, List.forall_mem_cons.mpr ⟨List.mem_of_getElem? (i := 5) rfl, fun _ h => absurd h List.not_mem_nil⟩⟩⟩⟩⟩) ?_
          exact k24 y1 M1 e1 q1 h3 h5 y12 M12 e12 q12 y14 M14 e14 q14 h16 y20 M20 e20 q20 h22

theorem msta_0 {l : aL} {P : aP} {kc ks : Nat} {x : Int32} {M : aM} (hJ : ∀ e ∈ RR.2, M.2.2 e.1 e.2.1 = e.2.2) (hl0 : l.1.stackTraces = false) (B1 : Prop) (c2 : AC l (pI pg 100) (tcV "java/lang/IllegalArgumentException" M B1) 1 6 [.ref 0, .int (x)] SHF M) (x3 : B1 → P (.inr "java/lang/IllegalArgumentException") SHF M) (Q4 : Int32 → aM → Prop) (c5 : ∀ (b1 : ¬ B1), AC l (pI pg 115) (fcI M Q4) 0 0 [.ref 33, .int (x)] SHF M) (r6 : ∀ (b1 : ¬ B1), ∀ (y4 : Int32), ∀ (M4 : aM), ∀ (e4 : M4.2.2 = M.2.2), ∀ (q4 : Q4 y4 M4), P (.inl (some (.int (y4)))) SHF M4) : AW l (pI pg 114) P (kc + 1) (ks + 6) 0 [(0, .ref 0), (1, .int (x))] [] SHF M := by
  refine AW.aload_n (dq rfl) rfl rfl ?_
  show AW l (pI pg 114) P (kc + 1) (ks + 6) 1 _ _ SHF _
  refine AW.iload_n (dq rfl) rfl ?_
  show AW l (pI pg 114) P (kc + 1) (ks + 6) 2 _ _ SHF _
  refine fw_tcV (as := [.int (x)]) (dq rfl) (pg_ok.2.2.1 114 _ _ _ _ rfl) rfl (by decide +kernel) rfl rfl (c2) (by decide +kernel) (x3) (fun b1 => ?_)
  show AW l (pI pg 114) P kc ks 5 [(0, .ref 0), (1, .int (x))] [] SHF _
  refine AW.aload_n (dq rfl) rfl rfl ?_
  show AW l (pI pg 114) P kc ks 6 _ _ SHF _
  refine fw_get (dq rfl) (pg_ok.2.1 114 _ _ _ _ rfl) rfl (v := .ref 33) (isTA_ok rfl (rgR_ok hJ rfl)) ?_
  show AW l (pI pg 114) P kc ks 9 _ _ SHF _
  refine AW.iload_n (dq rfl) rfl ?_
  show AW l (pI pg 114) P kc ks 10 _ _ SHF _
  refine fw_callVI (as := [.int (x)]) (dq rfl) (pg_ok.2.2.1 114 _ _ _ _ rfl) rfl (by decide +kernel) rfl rfl (c5 b1) (fun y4 M4 e4 q4 => ?_)
  have hJ4 : ∀ e ∈ RR.2, M4.2.2 e.1 e.2.1 = e.2.2 := fun e he => by rw [e4]; exact hJ e he
  show AW l (pI pg 114) P kc ks 13 [(0, .ref 0), (1, .int (x))] [.int (y4)] SHF _
  refine AW.iret (dq rfl) rfl ?_
  exact r6 b1 y4 M4 e4 q4

theorem brsa_0 {l : aL} {P : aP} {kc ks : Nat} {x : Int32} {M : aM} (hJ : ∀ e ∈ RR.2, M.2.2 e.1 e.2.1 = e.2.2) (hl0 : l.1.stackTraces = false) (B1 : Prop) (c2 : AC l (pI pg 100) (tcV "java/lang/IllegalArgumentException" M B1) 1 6 [.ref 0, .int (x)] SHF M) (x3 : B1 → P (.inr "java/lang/IllegalArgumentException") SHF M) (Q4 : Int32 → aM → Prop) (c5 : ∀ (b1 : ¬ B1), AC l (pI pg 118) (fcI M Q4) 0 0 [.ref 33, .ref 4, .int (x)] SHF M) (r6 : ∀ (b1 : ¬ B1), ∀ (y4 : Int32), ∀ (M4 : aM), ∀ (e4 : M4.2.2 = M.2.2), ∀ (q4 : Q4 y4 M4), P (.inl (some (.int (y4)))) SHF M4) : AW l (pI pg 117) P (kc + 1) (ks + 6) 0 [(0, .ref 0), (1, .int (x))] [] SHF M := by
  refine AW.aload_n (dq rfl) rfl rfl ?_
  show AW l (pI pg 117) P (kc + 1) (ks + 6) 1 _ _ SHF _
  refine AW.iload_n (dq rfl) rfl ?_
  show AW l (pI pg 117) P (kc + 1) (ks + 6) 2 _ _ SHF _
  refine fw_tcV (as := [.int (x)]) (dq rfl) (pg_ok.2.2.1 117 _ _ _ _ rfl) rfl (by decide +kernel) rfl rfl (c2) (by decide +kernel) (x3) (fun b1 => ?_)
  show AW l (pI pg 117) P kc ks 5 [(0, .ref 0), (1, .int (x))] [] SHF _
  refine AW.aload_n (dq rfl) rfl rfl ?_
  show AW l (pI pg 117) P kc ks 6 _ _ SHF _
  refine fw_get (dq rfl) (pg_ok.2.1 117 _ _ _ _ rfl) rfl (v := .ref 33) (isTA_ok rfl (rgR_ok hJ rfl)) ?_
  show AW l (pI pg 117) P kc ks 9 _ _ SHF _
  refine AW.aload_n (dq rfl) rfl rfl ?_
  show AW l (pI pg 117) P kc ks 10 _ _ SHF _
  refine fw_get (dq rfl) (pg_ok.2.1 117 _ _ _ _ rfl) rfl (v := .ref 4) (isTA_ok rfl (rgR_ok hJ rfl)) ?_
  show AW l (pI pg 117) P kc ks 13 _ _ SHF _
  refine AW.iload_n (dq rfl) rfl ?_
  show AW l (pI pg 117) P kc ks 14 _ _ SHF _
  refine fw_callVI (as := [.ref 4, .int (x)]) (dq rfl) (pg_ok.2.2.1 117 _ _ _ _ rfl) rfl (by decide +kernel) rfl rfl (c5 b1) (fun y4 M4 e4 q4 => ?_)
  have hJ4 : ∀ e ∈ RR.2, M4.2.2 e.1 e.2.1 = e.2.2 := fun e he => by rw [e4]; exact hJ e he
  show AW l (pI pg 117) P kc ks 17 [(0, .ref 0), (1, .int (x))] [.int (y4)] SHF _
  refine AW.iret (dq rfl) rfl ?_
  exact r6 b1 y4 M4 e4 q4

theorem hfob_0 {l : aL} {P : aP} {kc ks : Nat} {x : Int32} {M : aM} (hJ : ∀ e ∈ RK, M.2.2 e.1 e.2.1 = e.2.2) (hl0 : l.1.stackTraces = false) (o1 : vp_in (x) 8) (r2 : P (.inl (some (.int ((((Int32.ofInt 1) <<< ((M.1 23 (x).toNatClampNeg) &&& 31)) - (Int32.ofInt 1)) <<< ((M.1 22 (x).toNatClampNeg) &&& 31))))) SHF M) : AW l (pI pg 15) P kc ks 0 [(0, .ref 17), (1, .int (x))] [] SHF M := by
  refine AW.iconst (dq rfl) ?_
  show AW l (pI pg 15) P kc ks 1 _ _ SHF _
  refine AW.aload_n (dq rfl) rfl rfl ?_
  show AW l (pI pg 15) P kc ks 2 _ _ SHF _
  refine fw_get (dq rfl) (pg_ok.2.1 15 _ _ _ _ rfl) rfl (v := .ref 23) (isTA_ok rfl (rgR_ok hJ rfl)) ?_
  show AW l (pI pg 15) P kc ks 5 _ _ SHF _
  refine AW.iload_n (dq rfl) rfl ?_
  show AW l (pI pg 15) P kc ks 6 _ _ SHF _
  refine AW.iald (dq rfl) rfl (o1) ?_
  show AW l (pI pg 15) P kc ks 7 _ _ SHF _
  refine AW.ishl (dq rfl) ?_
  show AW l (pI pg 15) P kc ks 8 _ _ SHF _
  refine AW.iconst (dq rfl) ?_
  show AW l (pI pg 15) P kc ks 9 _ _ SHF _
  refine AW.isub (dq rfl) ?_
  show AW l (pI pg 15) P kc ks 10 _ _ SHF _
  refine AW.aload_n (dq rfl) rfl rfl ?_
  show AW l (pI pg 15) P kc ks 11 _ _ SHF _
  refine fw_get (dq rfl) (pg_ok.2.1 15 _ _ _ _ rfl) rfl (v := .ref 22) (isTA_ok rfl (rgR_ok hJ rfl)) ?_
  show AW l (pI pg 15) P kc ks 14 _ _ SHF _
  refine AW.iload_n (dq rfl) rfl ?_
  show AW l (pI pg 15) P kc ks 15 _ _ SHF _
  refine AW.iald (dq rfl) rfl (o1) ?_
  show AW l (pI pg 15) P kc ks 16 _ _ SHF _
  refine AW.ishl (dq rfl) ?_
  show AW l (pI pg 15) P kc ks 17 _ _ SHF _
  refine AW.iret (dq rfl) rfl ?_
  exact r2

theorem alwb_0 {l : aL} {P : aP} {kc ks : Nat} {M : aM}  (hl0 : l.1.stackTraces = false) (r1 : P (.inl (some (.int (((Int32.ofInt 1) <<< ((M.1 17 1) &&& 31)) - (Int32.ofInt 1))))) SHF M) : AW l (pI pg 18) P kc ks 0 [(0, .ref 17)] [] SHF M := by
  refine AW.iconst (dq rfl) ?_
  show AW l (pI pg 18) P kc ks 1 _ _ SHF _
  refine AW.aload_n (dq rfl) rfl rfl ?_
  show AW l (pI pg 18) P kc ks 2 _ _ SHF _
  refine fw_get (dq rfl) (pg_ok.2.1 18 _ _ _ _ rfl) rfl (v := .int (M.1 17 1)) rfl ?_
  show AW l (pI pg 18) P kc ks 5 _ _ SHF _
  refine AW.ishl (dq rfl) ?_
  show AW l (pI pg 18) P kc ks 6 _ _ SHF _
  refine AW.iconst (dq rfl) ?_
  show AW l (pI pg 18) P kc ks 7 _ _ SHF _
  refine AW.isub (dq rfl) ?_
  show AW l (pI pg 18) P kc ks 8 _ _ SHF _
  refine AW.iret (dq rfl) rfl ?_
  exact r1

theorem meab_0 {l : aL} {P : aP} {kc ks : Nat} {M : aM} (hJ : ∀ e ∈ RRS.2, M.2.2 e.1 e.2.1 = e.2.2) (hl0 : l.1.stackTraces = false) (o1 : vp_in (Int32.ofInt 0) 256) (k2 : AW l (pI pg 14) P kc ks 16 [(2, .int (Int32.ofInt 0)), (1, .ref 17), (0, .ref 30)] [] SHF (aset (aset M 31 (Int32.ofInt 0).toNatClampNeg (.int (Int32.ofInt 0))) 32 (Int32.ofInt 0).toNatClampNeg (.int (Int32.ofInt 0)))) : AW l (pI pg 14) P kc ks 0 [(0, .ref 30), (1, .ref 17)] [] SHF M := by
  refine AW.aload_n (dq rfl) rfl rfl ?_
  show AW l (pI pg 14) P kc ks 1 _ _ SHF _
  refine fw_get (dq rfl) (pg_ok.2.1 14 _ _ _ _ rfl) rfl (v := .ref 31) (isTA_ok rfl (rgR_ok hJ rfl)) ?_
  show AW l (pI pg 14) P kc ks 4 _ _ SHF _
  refine AW.iconst (dq rfl) ?_
  show AW l (pI pg 14) P kc ks 5 _ _ SHF _
  refine AW.iconst (dq rfl) ?_
  show AW l (pI pg 14) P kc ks 6 _ _ SHF _
  refine AW.iast (dq rfl) rfl (o1) ?_
  show AW l (pI pg 14) P kc ks 7 _ _ SHF _
  refine AW.aload_n (dq rfl) rfl rfl ?_
  show AW l (pI pg 14) P kc ks 8 _ _ SHF _
  refine fw_get (dq rfl) (pg_ok.2.1 14 _ _ _ _ rfl) rfl (v := .ref 32) (isTA_ok rfl (rgR_ok hJ rfl)) ?_
  show AW l (pI pg 14) P kc ks 11 _ _ SHF _
  refine AW.iconst (dq rfl) ?_
  show AW l (pI pg 14) P kc ks 12 _ _ SHF _
  refine AW.iconst (dq rfl) ?_
  show AW l (pI pg 14) P kc ks 13 _ _ SHF _
  refine AW.iast (dq rfl) rfl (o1) ?_
  show AW l (pI pg 14) P kc ks 14 _ _ SHF _
  refine AW.iconst (dq rfl) ?_
  show AW l (pI pg 14) P kc ks 15 _ _ SHF _
  refine AW.istore_n (dq rfl) (by decide +kernel) ?_
  show AW l (pI pg 14) P kc ks 16 [(2, .int (Int32.ofInt 0)), (0, .ref 30), (1, .ref 17)] [] SHF _
  refine AW.drop (lv' := [(2, .int (Int32.ofInt 0)), (1, .ref 17), (0, .ref 30)]) (List.forall_mem_cons.mpr ⟨List.mem_of_getElem? (i := 0) rfl, List.forall_mem_cons.mpr ⟨List.mem_of_getElem? (i := 2) rfl, List.forall_mem_cons.mpr ⟨List.mem_of_getElem? (i := 1) rfl, fun _ h => absurd h List.not_mem_nil⟩⟩⟩) ?_
  exact k2

theorem meab_16 {l : aL} {P : aP} {kc ks : Nat} {w : Nat} {M : aM} (hJ : ∀ e ∈ RRS.2, M.2.2 e.1 e.2.1 = e.2.2) (hl0 : l.1.stackTraces = false) (r2 : ∀ (h1 : (M.1 17 1 : Int32) ≤ (nI w : Int32)), P (.inl none) SHF M) (Q3 : Int32 → aM → Prop) (c4 : ∀ (h1 : ¬ ((M.1 17 1 : Int32) ≤ (nI w : Int32))), AC l (pI pg 15) (fcI M Q3) 0 0 [.ref 17, .int (nI w)] SHF M) (k5 : ∀ (h1 : ¬ ((M.1 17 1 : Int32) ≤ (nI w : Int32))), ∀ (y3 : Int32), ∀ (M3 : aM), ∀ (e3 : M3.2.2 = M.2.2), ∀ (q3 : Q3 y3 M3), AW l (pI pg 14) P kc ks 38 [(5, .int (Int32.ofInt 0)), (4, .int ((Int32.ofInt 1) <<< ((nI w) &&& 31))), (3, .int (y3)), (2, .int (nI w)), (1, .ref 17), (0, .ref 30)] [] SHF M3) : AW l (pI pg 14) P kc ks 16 [(2, .int (nI w)), (1, .ref 17), (0, .ref 30)] [] SHF M := by
  refine AW.iload_n (dq rfl) rfl ?_
  show AW l (pI pg 14) P kc ks 17 _ _ SHF _
  refine AW.aload_n (dq rfl) rfl rfl ?_
  show AW l (pI pg 14) P kc ks 18 _ _ SHF _
  refine fw_get (dq rfl) (pg_ok.2.1 14 _ _ _ _ rfl) rfl (v := .int (M.1 17 1)) rfl ?_
  show AW l (pI pg 14) P kc ks 21 _ _ SHF _
  refine AW.icmp_ge (dq rfl) (tgt := 141) (by decide) (fun h1 => ?_) (fun h1 => ?_)
  · have _ := h1
    refine AW.vret (dq rfl) rfl ?_
    exact r2 h1
  · have _ := h1
    refine AW.aload_n (dq rfl) rfl rfl ?_
    show AW l (pI pg 14) P kc ks 25 _ _ SHF _
    refine AW.iload_n (dq rfl) rfl ?_
    show AW l (pI pg 14) P kc ks 26 _ _ SHF _
    refine fw_callVI (as := [.int (nI w)]) (dq rfl) (pg_ok.2.2.1 14 _ _ _ _ rfl) rfl (by decide +kernel) rfl rfl (c4 h1) (fun y3 M3 e3 q3 => ?_)
    have hJ3 : ∀ e ∈ RRS.2, M3.2.2 e.1 e.2.1 = e.2.2 := fun e he => by rw [e3]; exact hJ e he
    show AW l (pI pg 14) P kc ks 29 [(2, .int (nI w)), (1, .ref 17), (0, .ref 30)] [.int (y3)] SHF _
    refine AW.istore_n (dq rfl) (by decide +kernel) ?_
    show AW l (pI pg 14) P kc ks 30 [(3, .int (y3)), (2, .int (nI w)), (1, .ref 17), (0, .ref 30)] [] SHF _
    refine AW.iconst (dq rfl) ?_
    show AW l (pI pg 14) P kc ks 31 _ _ SHF _
    refine AW.iload_n (dq rfl) rfl ?_
    show AW l (pI pg 14) P kc ks 32 _ _ SHF _
    refine AW.ishl (dq rfl) ?_
    show AW l (pI pg 14) P kc ks 33 _ _ SHF _
    refine AW.istore (dq rfl) (by decide +kernel) ?_
    show AW l (pI pg 14) P kc ks 35 [(4, .int ((Int32.ofInt 1) <<< ((nI w) &&& 31))), (3, .int (y3)), (2, .int (nI w)), (1, .ref 17), (0, .ref 30)] [] SHF _
    refine AW.iconst (dq rfl) ?_
    show AW l (pI pg 14) P kc ks 36 _ _ SHF _
    refine AW.istore (dq rfl) (by decide +kernel) ?_
    show AW l (pI pg 14) P kc ks 38 [(5, .int (Int32.ofInt 0)), (4, .int ((Int32.ofInt 1) <<< ((nI w) &&& 31))), (3, .int (y3)), (2, .int (nI w)), (1, .ref 17), (0, .ref 30)] [] SHF _
    refine AW.drop (lv' := [(5, .int (Int32.ofInt 0)), (4, .int ((Int32.ofInt 1) <<< ((nI w) &&& 31))), (3, .int (y3)), (2, .int (nI w)), (1, .ref 17), (0, .ref 30)]) (List.forall_mem_cons.mpr ⟨List.mem_of_getElem? (i := 0) rfl, List.forall_mem_cons.mpr ⟨List.mem_of_getElem? (i := 1) rfl, List.forall_mem_cons.mpr ⟨List.mem_of_getElem? (i := 2) rfl, List.forall_mem_cons.mpr ⟨List.mem_of_getElem? (i := 3) rfl, List.forall_mem_cons.mpr ⟨List.mem_of_getElem? (i := 4) rfl, List.forall_mem_cons.mpr ⟨List.mem_of_getElem? (i := 5) rfl, fun _ h => absurd h List.not_mem_nil⟩⟩⟩⟩⟩⟩) ?_
    exact k5 h1 y3 M3 e3 q3

theorem meab_38 {l : aL} {P : aP} {kc ks : Nat} {r w : Nat} {f h : Int32} {M : aM} (hJ : ∀ e ∈ RRS.2, M.2.2 e.1 e.2.1 = e.2.2) (hl0 : l.1.stackTraces = false) (k2 : ∀ (h1 : (f : Int32) ≤ (nI r : Int32)), AW l (pI pg 14) P kc ks 16 [(2, .int ((nI w) + Int32.ofInt 1)), (1, .ref 17), (0, .ref 30)] [] SHF M) (o3 : ∀ (h1 : ¬ ((f : Int32) ≤ (nI r : Int32))), vp_in (nI r) 256) (o6 : ∀ (h1 : ¬ ((f : Int32) ≤ (nI r : Int32))), ∀ (h4 : (M.1 31 (nI r).toNatClampNeg : Int32) = ((Int8.ofInt 99).toInt32 : Int32)), vp_in ((f) ||| (nI r)) 256) (k7 : ∀ (h1 : ¬ ((f : Int32) ≤ (nI r : Int32))), ∀ (h4 : (M.1 31 (nI r).toNatClampNeg : Int32) = ((Int8.ofInt 99).toInt32 : Int32)), AW l (pI pg 14) P kc ks 38 [(5, .int ((nI r) + Int32.ofInt 1)), (4, .int (f)), (3, .int (h)), (2, .int (nI w)), (1, .ref 17), (0, .ref 30)] [] SHF (aset (aset M 31 ((f) ||| (nI r)).toNatClampNeg (.int ((Int8.ofInt 99).toInt32))) 32 ((f) ||| (nI r)).toNatClampNeg (.int (((aset M 31 ((f) ||| (nI r)).toNatClampNeg (.int ((Int8.ofInt 99).toInt32))).1 32 (nI r).toNatClampNeg) ||| (h))))) (o10 : ∀ (h1 : ¬ ((f : Int32) ≤ (nI r : Int32))), ∀ (h4 : ¬ ((M.1 31 (nI r).toNatClampNeg : Int32) = ((Int8.ofInt 99).toInt32 : Int32))), ∀ (h8 : ((M.1 32 (nI r).toNatClampNeg) &&& (h) : Int32) = 0), vp_in (nI w) 8) (o11 : ∀ (h1 : ¬ ((f : Int32) ≤ (nI r : Int32))), ∀ (h4 : ¬ ((M.1 31 (nI r).toNatClampNeg : Int32) = ((Int8.ofInt 99).toInt32 : Int32))), ∀ (h8 : ((M.1 32 (nI r).toNatClampNeg) &&& (h) : Int32) = 0), vp_in ((f) ||| (nI r)) 256) (k12 : ∀ (h1 : ¬ ((f : Int32) ≤ (nI r : Int32))), ∀ (h4 : ¬ ((M.1 31 (nI r).toNatClampNeg : Int32) = ((Int8.ofInt 99).toInt32 : Int32))), ∀ (h8 : ((M.1 32 (nI r).toNatClampNeg) &&& (h) : Int32) = 0), AW l (pI pg 14) P kc ks 38 [(5, .int ((nI r) + Int32.ofInt 1)), (4, .int (f)), (3, .int (h)), (2, .int (nI w)), (1, .ref 17), (0, .ref 30)] [] SHF (aset (aset M 31 ((f) ||| (nI r)).toNatClampNeg (.int ((M.1 31 (nI r).toNatClampNeg) + (M.1 23 (nI w).toNatClampNeg)))) 32 ((f) ||| (nI r)).toNatClampNeg (.int (((aset M 31 ((f) ||| (nI r)).toNatClampNeg (.int ((M.1 31 (nI r).toNatClampNeg) + (M.1 23 (nI w).toNatClampNeg)))).1 32 (nI r).toNatClampNeg) ||| (h))))) (o14 : ∀ (h1 : ¬ ((f : Int32) ≤ (nI r : Int32))), ∀ (h4 : ¬ ((M.1 31 (nI r).toNatClampNeg : Int32) = ((Int8.ofInt 99).toInt32 : Int32))), ∀ (h8 : ¬ (((M.1 32 (nI r).toNatClampNeg) &&& (h) : Int32) = 0)), vp_in ((f) ||| (nI r)) 256) (k15 : ∀ (h1 : ¬ ((f : Int32) ≤ (nI r : Int32))), ∀ (h4 : ¬ ((M.1 31 (nI r).toNatClampNeg : Int32) = ((Int8.ofInt 99).toInt32 : Int32))), ∀ (h8 : ¬ (((M.1 32 (nI r).toNatClampNeg) &&& (h) : Int32) = 0)), AW l (pI pg 14) P kc ks 38 [(5, .int ((nI r) + Int32.ofInt 1)), (4, .int (f)), (3, .int (h)), (2, .int (nI w)), (1, .ref 17), (0, .ref 30)] [] SHF (aset (aset M 31 ((f) ||| (nI r)).toNatClampNeg (.int ((Int8.ofInt 99).toInt32))) 32 ((f) ||| (nI r)).toNatClampNeg (.int (((aset M 31 ((f) ||| (nI r)).toNatClampNeg (.int ((Int8.ofInt 99).toInt32))).1 32 (nI r).toNatClampNeg) ||| (h))))) : AW l (pI pg 14) P kc ks 38 [(5, .int (nI r)), (4, .int (f)), (3, .int (h)), (2, .int (nI w)), (1, .ref 17), (0, .ref 30)] [] SHF M := by
  refine AW.iload (dq rfl) rfl ?_
  show AW l (pI pg 14) P kc ks 40 _ _ SHF _
  refine AW.iload (dq rfl) rfl ?_
  show AW l (pI pg 14) P kc ks 42 _ _ SHF _
  refine AW.icmp_ge (dq rfl) (tgt := 135) (by decide) (fun h1 => ?_) (fun h1 => ?_)
  · have _ := h1
    refine AW.iinc (dq rfl) rfl (by decide +kernel) ?_
    show AW l (pI pg 14) P kc ks 138 [(2, .int ((nI w) + Int32.ofInt 1)), (5, .int (nI r)), (4, .int (f)), (3, .int (h)), (1, .ref 17), (0, .ref 30)] [] SHF _
    refine AW.goto (dq rfl) (tgt := 16) (by decide) ?_
    refine AW.drop (lv' := [(2, .int ((nI w) + Int32.ofInt 1)), (1, .ref 17), (0, .ref 30)]) (List.forall_mem_cons.mpr ⟨List.mem_of_getElem? (i := 0) rfl, List.forall_mem_cons.mpr ⟨List.mem_of_getElem? (i := 4) rfl, List.forall_mem_cons.mpr ⟨List.mem_of_getElem? (i := 5) rfl, fun _ h => absurd h List.not_mem_nil⟩⟩⟩) ?_
    exact k2 h1
  · have _ := h1
    refine AW.aload_n (dq rfl) rfl rfl ?_
    show AW l (pI pg 14) P kc ks 46 _ _ SHF _
    refine fw_get (dq rfl) (pg_ok.2.1 14 _ _ _ _ rfl) rfl (v := .ref 31) (isTA_ok rfl (rgR_ok hJ rfl)) ?_
    show AW l (pI pg 14) P kc ks 49 _ _ SHF _
    refine AW.iload (dq rfl) rfl ?_
    show AW l (pI pg 14) P kc ks 51 _ _ SHF _
    refine AW.iald (dq rfl) rfl (o3 h1) ?_
    show AW l (pI pg 14) P kc ks 52 _ _ SHF _
    refine AW.bipush (dq rfl) ?_
    show AW l (pI pg 14) P kc ks 54 _ _ SHF _
    refine AW.icmp_eq (dq rfl) (tgt := 69) (by decide) (fun h4 => ?_) (fun h4 => ?_)
    · have _ := h4
      refine AW.iconst (dq rfl) ?_
      show AW l (pI pg 14) P kc ks 70 _ _ SHF _
      refine AW.goto (dq rfl) (tgt := 74) (by decide) ?_
      refine AW.istore (dq rfl) (by decide +kernel) ?_
      show AW l (pI pg 14) P kc ks 76 [(6, .int (Int32.ofInt 1)), (5, .int (nI r)), (4, .int (f)), (3, .int (h)), (2, .int (nI w)), (1, .ref 17), (0, .ref 30)] [] SHF _
      refine AW.aload_n (dq rfl) rfl rfl ?_
      show AW l (pI pg 14) P kc ks 77 _ _ SHF _
      refine fw_get (dq rfl) (pg_ok.2.1 14 _ _ _ _ rfl) rfl (v := .ref 31) (isTA_ok rfl (rgR_ok hJ rfl)) ?_
      show AW l (pI pg 14) P kc ks 80 _ _ SHF _
      refine AW.iload (dq rfl) rfl ?_
      show AW l (pI pg 14) P kc ks 82 _ _ SHF _
      refine AW.iload (dq rfl) rfl ?_
      show AW l (pI pg 14) P kc ks 84 _ _ SHF _
      refine AW.ior (dq rfl) ?_
      show AW l (pI pg 14) P kc ks 85 _ _ SHF _
      refine AW.iload (dq rfl) rfl ?_
      show AW l (pI pg 14) P kc ks 87 _ _ SHF _
      refine AW.if_eq (dq rfl) (tgt := 95) (by decide) (fun h5 => ?_) (fun h5 => ?_)
      · exact absurd h5 (by decide)
      refine AW.bipush (dq rfl) ?_
      show AW l (pI pg 14) P kc ks 92 _ _ SHF _
      refine AW.goto (dq rfl) (tgt := 109) (by decide) ?_
      refine AW.iast (dq rfl) rfl (o6 h1 h4) ?_
      show AW l (pI pg 14) P kc ks 110 _ _ SHF _
      refine AW.aload_n (dq rfl) rfl rfl ?_
      show AW l (pI pg 14) P kc ks 111 _ _ SHF _
      refine fw_get (dq rfl) (pg_ok.2.1 14 _ _ _ _ rfl) rfl (v := .ref 32) (isTA_ok rfl (rgR_ok hJ rfl)) ?_
      show AW l (pI pg 14) P kc ks 114 _ _ SHF _
      refine AW.iload (dq rfl) rfl ?_
      show AW l (pI pg 14) P kc ks 116 _ _ SHF _
      refine AW.iload (dq rfl) rfl ?_
      show AW l (pI pg 14) P kc ks 118 _ _ SHF _
      refine AW.ior (dq rfl) ?_
      show AW l (pI pg 14) P kc ks 119 _ _ SHF _
      refine AW.aload_n (dq rfl) rfl rfl ?_
      show AW l (pI pg 14) P kc ks 120 _ _ SHF _
      refine fw_get (dq rfl) (pg_ok.2.1 14 _ _ _ _ rfl) rfl (v := .ref 32) (isTA_ok rfl (rgR_ok hJ rfl)) ?_
      show AW l (pI pg 14) P kc ks 123 _ _ SHF _
      refine AW.iload (dq rfl) rfl ?_
      show AW l (pI pg 14) P kc ks 125 _ _ SHF _
      refine AW.iald (dq rfl) rfl (o3 h1) ?_
      show AW l (pI pg 14) P kc ks 126 _ _ SHF _
      refine AW.iload_n (dq rfl) rfl ?_
      show AW l (pI pg 14) P kc ks 127 _ _ SHF _
      refine AW.ior (dq rfl) ?_
      show AW l (pI pg 14) P kc ks 128 _ _ SHF _
      refine AW.iast (dq rfl) rfl (o6 h1 h4) ?_
      show AW l (pI pg 14) P kc ks 129 _ _ SHF _
      refine AW.iinc (dq rfl) rfl (by decide +kernel) ?_
      show AW l (pI pg 14) P kc ks 132 [(5, .int ((nI r) + Int32.ofInt 1)), (6, .int (Int32.ofInt 1)), (4, .int (f)), (3, .int (h)), (2, .int (nI w)), (1, .ref 17), (0, .ref 30)] [] SHF _
      refine AW.goto (dq rfl) (tgt := 38) (by decide) ?_
      refine AW.drop (lv' := [(5, .int ((nI r) + Int32.ofInt 1)), (4, .int (f)), (3, .int (h)), (2, .int (nI w)), (1, .ref 17), (0, .ref 30)]) (List.forall_mem_cons.mpr ⟨List.mem_of_getElem? (i := 0) rfl, List.forall_mem_cons.mpr ⟨List.mem_of_getElem? (i := 2) rfl, List.forall_mem_cons.mpr ⟨List.mem_of_getElem? (i := 3) rfl, List.forall_mem_cons.mpr ⟨List.mem_of_getElem? (i := 4) rfl, List.forall_mem_cons.mpr ⟨List.mem_of_getElem? (i := 5) rfl, List.forall_mem_cons.mpr ⟨List.mem_of_getElem? (i := 6) rfl, fun _ h => absurd h List.not_mem_nil⟩⟩⟩⟩⟩⟩) ?_
      exact k7 h1 h4
    · have _ := h4
      refine AW.aload_n (dq rfl) rfl rfl ?_
      show AW l (pI pg 14) P kc ks 58 _ _ SHF _
      refine fw_get (dq rfl) (pg_ok.2.1 14 _ _ _ _ rfl) rfl (v := .ref 32) (isTA_ok rfl (rgR_ok hJ rfl)) ?_
      show AW l (pI pg 14) P kc ks 61 _ _ SHF _
      refine AW.iload (dq rfl) rfl ?_
      show AW l (pI pg 14) P kc ks 63 _ _ SHF _
      refine AW.iald (dq rfl) rfl (o3 h1) ?_
      show AW l (pI pg 14) P kc ks 64 _ _ SHF _
      refine AW.iload_n (dq rfl) rfl ?_
      show AW l (pI pg 14) P kc ks 65 _ _ SHF _
      refine AW.iand (dq rfl) ?_
      show AW l (pI pg 14) P kc ks 66 _ _ SHF _
      refine AW.if_eq (dq rfl) (tgt := 73) (by decide) (fun h8 => ?_) (fun h8 => ?_)
      · have _ := h8
        refine AW.iconst (dq rfl) ?_
        show AW l (pI pg 14) P kc ks 74 _ _ SHF _
        refine AW.istore (dq rfl) (by decide +kernel) ?_
        show AW l (pI pg 14) P kc ks 76 [(6, .int (Int32.ofInt 0)), (5, .int (nI r)), (4, .int (f)), (3, .int (h)), (2, .int (nI w)), (1, .ref 17), (0, .ref 30)] [] SHF _
        refine AW.aload_n (dq rfl) rfl rfl ?_
        show AW l (pI pg 14) P kc ks 77 _ _ SHF _
        refine fw_get (dq rfl) (pg_ok.2.1 14 _ _ _ _ rfl) rfl (v := .ref 31) (isTA_ok rfl (rgR_ok hJ rfl)) ?_
        show AW l (pI pg 14) P kc ks 80 _ _ SHF _
        refine AW.iload (dq rfl) rfl ?_
        show AW l (pI pg 14) P kc ks 82 _ _ SHF _
        refine AW.iload (dq rfl) rfl ?_
        show AW l (pI pg 14) P kc ks 84 _ _ SHF _
        refine AW.ior (dq rfl) ?_
        show AW l (pI pg 14) P kc ks 85 _ _ SHF _
        refine AW.iload (dq rfl) rfl ?_
        show AW l (pI pg 14) P kc ks 87 _ _ SHF _
        refine AW.if_eq (dq rfl) (tgt := 95) (by decide) (fun h9 => ?_) (fun h9 => ?_)
        rotate_left
        · exact absurd h9 (by decide)
        refine AW.aload_n (dq rfl) rfl rfl ?_
        show AW l (pI pg 14) P kc ks 96 _ _ SHF _
        refine fw_get (dq rfl) (pg_ok.2.1 14 _ _ _ _ rfl) rfl (v := .ref 31) (isTA_ok rfl (rgR_ok hJ rfl)) ?_
        show AW l (pI pg 14) P kc ks 99 _ _ SHF _
        refine AW.iload (dq rfl) rfl ?_
        show AW l (pI pg 14) P kc ks 101 _ _ SHF _
        refine AW.iald (dq rfl) rfl (o3 h1) ?_
        show AW l (pI pg 14) P kc ks 102 _ _ SHF _
        refine AW.aload_n (dq rfl) rfl rfl ?_
        show AW l (pI pg 14) P kc ks 103 _ _ SHF _
        refine fw_get (dq rfl) (pg_ok.2.1 14 _ _ _ _ rfl) rfl (v := .ref 23) (isTA_ok rfl (rgR_ok hJ rfl)) ?_
        show AW l (pI pg 14) P kc ks 106 _ _ SHF _
        refine AW.iload_n (dq rfl) rfl ?_
        show AW l (pI pg 14) P kc ks 107 _ _ SHF _
        refine AW.iald (dq rfl) rfl (o10 h1 h4 h8) ?_
        show AW l (pI pg 14) P kc ks 108 _ _ SHF _
        refine AW.iadd (dq rfl) ?_
        show AW l (pI pg 14) P kc ks 109 _ _ SHF _
        refine AW.iast (dq rfl) rfl (o11 h1 h4 h8) ?_
        show AW l (pI pg 14) P kc ks 110 _ _ SHF _
        refine AW.aload_n (dq rfl) rfl rfl ?_
        show AW l (pI pg 14) P kc ks 111 _ _ SHF _
        refine fw_get (dq rfl) (pg_ok.2.1 14 _ _ _ _ rfl) rfl (v := .ref 32) (isTA_ok rfl (rgR_ok hJ rfl)) ?_
        show AW l (pI pg 14) P kc ks 114 _ _ SHF _
        refine AW.iload (dq rfl) rfl ?_
        show AW l (pI pg 14) P kc ks 116 _ _ SHF _
        refine AW.iload (dq rfl) rfl ?_
        show AW l (pI pg 14) P kc ks 118 _ _ SHF _
        refine AW.ior (dq rfl) ?_
        show AW l (pI pg 14) P kc ks 119 _ _ SHF _
        refine AW.aload_n (dq rfl) rfl rfl ?_
        show AW l (pI pg 14) P kc ks 120 _ _ SHF _
        refine fw_get (dq rfl) (pg_ok.2.1 14 _ _ _ _ rfl) rfl (v := .ref 32) (isTA_ok rfl (rgR_ok hJ rfl)) ?_
        show AW l (pI pg 14) P kc ks 123 _ _ SHF _
        refine AW.iload (dq rfl) rfl ?_
        show AW l (pI pg 14) P kc ks 125 _ _ SHF _
        refine AW.iald (dq rfl) rfl (o3 h1) ?_
        show AW l (pI pg 14) P kc ks 126 _ _ SHF _
        refine AW.iload_n (dq rfl) rfl ?_
        show AW l (pI pg 14) P kc ks 127 _ _ SHF _
        refine AW.ior (dq rfl) ?_
        show AW l (pI pg 14) P kc ks 128 _ _ SHF _
        refine AW.iast (dq rfl) rfl (o11 h1 h4 h8) ?_
        show AW l (pI pg 14) P kc ks 129 _ _ SHF _
        refine AW.iinc (dq rfl) rfl (by decide +kernel) ?_
        show AW l (pI pg 14) P kc ks 132 [(5, .int ((nI r) + Int32.ofInt 1)), (6, .int (Int32.ofInt 0)), (4, .int (f)), (3, .int (h)), (2, .int (nI w)), (1, .ref 17), (0, .ref 30)] [] SHF _
        refine AW.goto (dq rfl) (tgt := 38) (by decide) ?_
        refine AW.drop (lv' := [(5, .int ((nI r) + Int32.ofInt 1)), (4, .int (f)), (3, .int (h)), (2, .int (nI w)), (1, .ref 17), (0, .ref 30)]) (List.forall_mem_cons.mpr ⟨List.mem_of_getElem? (i := 0) rfl, List.forall_mem_cons.mpr ⟨List.mem_of_getElem? (i := 2) rfl, List.forall_mem_cons.mpr ⟨List.mem_of_getElem? (i := 3) rfl, List.forall_mem_cons.mpr ⟨List.mem_of_getElem? (i := 4) rfl, List.forall_mem_cons.mpr ⟨List.mem_of_getElem? (i := 5) rfl, List.forall_mem_cons.mpr ⟨List.mem_of_getElem? (i := 6) rfl, fun _ h => absurd h List.not_mem_nil⟩⟩⟩⟩⟩⟩) ?_
        exact k12 h1 h4 h8
      · have _ := h8
        refine AW.iconst (dq rfl) ?_
        show AW l (pI pg 14) P kc ks 70 _ _ SHF _
        refine AW.goto (dq rfl) (tgt := 74) (by decide) ?_
        refine AW.istore (dq rfl) (by decide +kernel) ?_
        show AW l (pI pg 14) P kc ks 76 [(6, .int (Int32.ofInt 1)), (5, .int (nI r)), (4, .int (f)), (3, .int (h)), (2, .int (nI w)), (1, .ref 17), (0, .ref 30)] [] SHF _
        refine AW.aload_n (dq rfl) rfl rfl ?_
        show AW l (pI pg 14) P kc ks 77 _ _ SHF _
        refine fw_get (dq rfl) (pg_ok.2.1 14 _ _ _ _ rfl) rfl (v := .ref 31) (isTA_ok rfl (rgR_ok hJ rfl)) ?_
        show AW l (pI pg 14) P kc ks 80 _ _ SHF _
        refine AW.iload (dq rfl) rfl ?_
        show AW l (pI pg 14) P kc ks 82 _ _ SHF _
        refine AW.iload (dq rfl) rfl ?_
        show AW l (pI pg 14) P kc ks 84 _ _ SHF _
        refine AW.ior (dq rfl) ?_
        show AW l (pI pg 14) P kc ks 85 _ _ SHF _
        refine AW.iload (dq rfl) rfl ?_
        show AW l (pI pg 14) P kc ks 87 _ _ SHF _
        refine AW.if_eq (dq rfl) (tgt := 95) (by decide) (fun h13 => ?_) (fun h13 => ?_)
        · exact absurd h13 (by decide)
        refine AW.bipush (dq rfl) ?_
        show AW l (pI pg 14) P kc ks 92 _ _ SHF _
        refine AW.goto (dq rfl) (tgt := 109) (by decide) ?_
        refine AW.iast (dq rfl) rfl (o14 h1 h4 h8) ?_
        show AW l (pI pg 14) P kc ks 110 _ _ SHF _
        refine AW.aload_n (dq rfl) rfl rfl ?_
        show AW l (pI pg 14) P kc ks 111 _ _ SHF _
        refine fw_get (dq rfl) (pg_ok.2.1 14 _ _ _ _ rfl) rfl (v := .ref 32) (isTA_ok rfl (rgR_ok hJ rfl)) ?_
        show AW l (pI pg 14) P kc ks 114 _ _ SHF _
        refine AW.iload (dq rfl) rfl ?_
        show AW l (pI pg 14) P kc ks 116 _ _ SHF _
        refine AW.iload (dq rfl) rfl ?_
        show AW l (pI pg 14) P kc ks 118 _ _ SHF _
        refine AW.ior (dq rfl) ?_
        show AW l (pI pg 14) P kc ks 119 _ _ SHF _
        refine AW.aload_n (dq rfl) rfl rfl ?_
        show AW l (pI pg 14) P kc ks 120 _ _ SHF _
        refine fw_get (dq rfl) (pg_ok.2.1 14 _ _ _ _ rfl) rfl (v := .ref 32) (isTA_ok rfl (rgR_ok hJ rfl)) ?_
        show AW l (pI pg 14) P kc ks 123 _ _ SHF _
        refine AW.iload (dq rfl) rfl ?_
        show AW l (pI pg 14) P kc ks 125 _ _ SHF _
        refine AW.iald (dq rfl) rfl (o3 h1) ?_
        show AW l (pI pg 14) P kc ks 126 _ _ SHF _
        refine AW.iload_n (dq rfl) rfl ?_
        show AW l (pI pg 14) P kc ks 127 _ _ SHF _
        refine AW.ior (dq rfl) ?_
        show AW l (pI pg 14) P kc ks 128 _ _ SHF _
        refine AW.iast (dq rfl) rfl (o14 h1 h4 h8) ?_
        show AW l (pI pg 14) P kc ks 129 _ _ SHF _
        refine AW.iinc (dq rfl) rfl (by decide +kernel) ?_
        show AW l (pI pg 14) P kc ks 132 [(5, .int ((nI r) + Int32.ofInt 1)), (6, .int (Int32.ofInt 1)), (4, .int (f)), (3, .int (h)), (2, .int (nI w)), (1, .ref 17), (0, .ref 30)] [] SHF _
        refine AW.goto (dq rfl) (tgt := 38) (by decide) ?_
        refine AW.drop (lv' := [(5, .int ((nI r) + Int32.ofInt 1)), (4, .int (f)), (3, .int (h)), (2, .int (nI w)), (1, .ref 17), (0, .ref 30)]) (List.forall_mem_cons.mpr ⟨List.mem_of_getElem? (i := 0) rfl, List.forall_mem_cons.mpr ⟨List.mem_of_getElem? (i := 2) rfl, List.forall_mem_cons.mpr ⟨List.mem_of_getElem? (i := 3) rfl, List.forall_mem_cons.mpr ⟨List.mem_of_getElem? (i := 4) rfl, List.forall_mem_cons.mpr ⟨List.mem_of_getElem? (i := 5) rfl, List.forall_mem_cons.mpr ⟨List.mem_of_getElem? (i := 6) rfl, fun _ h => absurd h List.not_mem_nil⟩⟩⟩⟩⟩⟩) ?_
        exact k15 h1 h4 h8

theorem filb_0 {l : aL} {P : aP} {kc ks : Nat} {M : aM} (hJ : ∀ e ∈ RRS.2, M.2.2 e.1 e.2.1 = e.2.2) (hl0 : l.1.stackTraces = false) (Q1 : aM → Prop) (c2 : AC l (pI pg 17) (fcV M Q1) 0 0 [.ref 34, .long (Int64.ofNat (0 : Fin 2))] SHF M) (o3 : ∀ (M1 : aM), ∀ (e1 : M1.2.2 = M.2.2), ∀ (q1 : Q1 M1), vp_in (Int32.ofInt 0) 256) (k4 : ∀ (M1 : aM), ∀ (e1 : M1.2.2 = M.2.2), ∀ (q1 : Q1 M1), AW l (pI pg 16) P kc ks 18 [(4, .int (Int32.ofInt 0)), (3, .ref 20), (2, .ref 30), (1, .ref 17), (0, .ref 33)] [] SHF (asL M1 34 (Int32.ofInt 0).toNatClampNeg (Int64.ofNat (1 : Fin 2)))) : AW l (pI pg 16) P kc ks 0 [(0, .ref 33), (1, .ref 17), (2, .ref 30), (3, .ref 20)] [] SHF M := by
  refine AW.aload_n (dq rfl) rfl rfl ?_
  show AW l (pI pg 16) P kc ks 1 _ _ SHF _
  refine fw_get (dq rfl) (pg_ok.2.1 16 _ _ _ _ rfl) rfl (v := .ref 34) (isTA_ok rfl (rgR_ok hJ rfl)) ?_
  show AW l (pI pg 16) P kc ks 4 _ _ SHF _
  refine AW.lconst (dq rfl) ?_
  show AW l (pI pg 16) P kc ks 5 _ _ SHF _
  refine fw_callSV (as := [.ref 34, .long (Int64.ofNat (0 : Fin 2))]) (dq rfl) (pg_ok.2.2.1 16 _ _ _ _ rfl) (by decide +kernel) rfl rfl (c2) (fun M1 e1 q1 => ?_)
  have hJ1 : ∀ e ∈ RRS.2, M1.2.2 e.1 e.2.1 = e.2.2 := fun e he => by rw [e1]; exact hJ e he
  show AW l (pI pg 16) P kc ks 8 [(0, .ref 33), (1, .ref 17), (2, .ref 30), (3, .ref 20)] [] SHF _
  refine AW.aload_n (dq rfl) rfl rfl ?_
  show AW l (pI pg 16) P kc ks 9 _ _ SHF _
  refine fw_get (dq rfl) (pg_ok.2.1 16 _ _ _ _ rfl) rfl (v := .ref 34) (isTA_ok rfl (rgR_ok hJ1 rfl)) ?_
  show AW l (pI pg 16) P kc ks 12 _ _ SHF _
  refine AW.iconst (dq rfl) ?_
  show AW l (pI pg 16) P kc ks 13 _ _ SHF _
  refine AW.lconst (dq rfl) ?_
  show AW l (pI pg 16) P kc ks 14 _ _ SHF _
  refine AW.lastP (by decide) (dq rfl) rfl (o3 M1 e1 q1) ?_
  show AW l (pI pg 16) P kc ks 15 _ _ SHF _
  refine AW.iconst (dq rfl) ?_
  show AW l (pI pg 16) P kc ks 16 _ _ SHF _
  refine AW.istore (dq rfl) (by decide +kernel) ?_
  show AW l (pI pg 16) P kc ks 18 [(4, .int (Int32.ofInt 0)), (0, .ref 33), (1, .ref 17), (2, .ref 30), (3, .ref 20)] [] SHF _
  refine AW.drop (lv' := [(4, .int (Int32.ofInt 0)), (3, .ref 20), (2, .ref 30), (1, .ref 17), (0, .ref 33)]) (List.forall_mem_cons.mpr ⟨List.mem_of_getElem? (i := 0) rfl, List.forall_mem_cons.mpr ⟨List.mem_of_getElem? (i := 4) rfl, List.forall_mem_cons.mpr ⟨List.mem_of_getElem? (i := 3) rfl, List.forall_mem_cons.mpr ⟨List.mem_of_getElem? (i := 2) rfl, List.forall_mem_cons.mpr ⟨List.mem_of_getElem? (i := 1) rfl, fun _ h => absurd h List.not_mem_nil⟩⟩⟩⟩⟩) ?_
  exact k4 M1 e1 q1

theorem filb_18 {l : aL} {P : aP} {kc ks : Nat} {p : Nat} {M : aM} (hJ : ∀ e ∈ RRS.2, M.2.2 e.1 e.2.1 = e.2.2) (hl0 : l.1.stackTraces = false) (r2 : ∀ (h1 : (M.1 17 0 : Int32) ≤ (nI p : Int32)), P (.inl none) SHF M) (Q3 : Int32 → aM → Prop) (c4 : ∀ (h1 : ¬ ((M.1 17 0 : Int32) ≤ (nI p : Int32))), AC l (pI pg 18) (fcI M Q3) 0 0 [.ref 17] SHF M) (k5 : ∀ (h1 : ¬ ((M.1 17 0 : Int32) ≤ (nI p : Int32))), ∀ (y3 : Int32), ∀ (M3 : aM), ∀ (e3 : M3.2.2 = M.2.2), ∀ (q3 : Q3 y3 M3), AW l (pI pg 16) P kc ks 33 [(5, .int (y3)), (4, .int (nI p)), (3, .ref 20), (2, .ref 30), (1, .ref 17), (0, .ref 33)] [] SHF M3) : AW l (pI pg 16) P kc ks 18 [(4, .int (nI p)), (3, .ref 20), (2, .ref 30), (1, .ref 17), (0, .ref 33)] [] SHF M := by
  refine AW.iload (dq rfl) rfl ?_
  show AW l (pI pg 16) P kc ks 20 _ _ SHF _
  refine AW.aload_n (dq rfl) rfl rfl ?_
  show AW l (pI pg 16) P kc ks 21 _ _ SHF _
  refine fw_get (dq rfl) (pg_ok.2.1 16 _ _ _ _ rfl) rfl (v := .int (M.1 17 0)) rfl ?_
  show AW l (pI pg 16) P kc ks 24 _ _ SHF _
  refine AW.icmp_ge (dq rfl) (tgt := 87) (by decide) (fun h1 => ?_) (fun h1 => ?_)
  · have _ := h1
    refine AW.vret (dq rfl) rfl ?_
    exact r2 h1
  · have _ := h1
    refine AW.aload_n (dq rfl) rfl rfl ?_
    show AW l (pI pg 16) P kc ks 28 _ _ SHF _
    refine fw_callVI (as := []) (dq rfl) (pg_ok.2.2.1 16 _ _ _ _ rfl) rfl (by decide +kernel) rfl rfl (c4 h1) (fun y3 M3 e3 q3 => ?_)
    have hJ3 : ∀ e ∈ RRS.2, M3.2.2 e.1 e.2.1 = e.2.2 := fun e he => by rw [e3]; exact hJ e he
    show AW l (pI pg 16) P kc ks 31 [(4, .int (nI p)), (3, .ref 20), (2, .ref 30), (1, .ref 17), (0, .ref 33)] [.int (y3)] SHF _
    refine AW.istore (dq rfl) (by decide +kernel) ?_
    show AW l (pI pg 16) P kc ks 33 [(5, .int (y3)), (4, .int (nI p)), (3, .ref 20), (2, .ref 30), (1, .ref 17), (0, .ref 33)] [] SHF _
    refine AW.drop (lv' := [(5, .int (y3)), (4, .int (nI p)), (3, .ref 20), (2, .ref 30), (1, .ref 17), (0, .ref 33)]) (List.forall_mem_cons.mpr ⟨List.mem_of_getElem? (i := 0) rfl, List.forall_mem_cons.mpr ⟨List.mem_of_getElem? (i := 1) rfl, List.forall_mem_cons.mpr ⟨List.mem_of_getElem? (i := 2) rfl, List.forall_mem_cons.mpr ⟨List.mem_of_getElem? (i := 3) rfl, List.forall_mem_cons.mpr ⟨List.mem_of_getElem? (i := 4) rfl, List.forall_mem_cons.mpr ⟨List.mem_of_getElem? (i := 5) rfl, fun _ h => absurd h List.not_mem_nil⟩⟩⟩⟩⟩⟩) ?_
    exact k5 h1 y3 M3 e3 q3

theorem filb_33 {l : aL} {P : aP} {kc ks : Nat} {p : Nat} {s : Int32} {M : aM} (hJ : ∀ e ∈ RRS.2, M.2.2 e.1 e.2.1 = e.2.2) (hl0 : l.1.stackTraces = false) (k2 : ∀ (h1 : (s : Int32) < 0), AW l (pI pg 16) P kc ks 18 [(4, .int ((nI p) + Int32.ofInt 1)), (3, .ref 20), (2, .ref 30), (1, .ref 17), (0, .ref 33)] [] SHF M) (o3 : ∀ (h1 : ¬ ((s : Int32) < 0)), vp_in (nI p) 6) (Q4 : Int64 → aM → Prop) (c5 : ∀ (h1 : ¬ ((s : Int32) < 0)), AC l (pI pg 19) (fcJ M Q4) 0 0 [.ref 33, .ref 30, .int (s), .int (M.1 20 (nI p).toNatClampNeg), .int (M.1 18 (nI p).toNatClampNeg)] SHF M) (o6 : ∀ (h1 : ¬ ((s : Int32) < 0)), ∀ (y4 : Int64), ∀ (M4 : aM), ∀ (e4 : M4.2.2 = M.2.2), ∀ (q4 : Q4 y4 M4), vp_in (s) 256) (k7 : ∀ (h1 : ¬ ((s : Int32) < 0)), ∀ (y4 : Int64), ∀ (M4 : aM), ∀ (e4 : M4.2.2 = M.2.2), ∀ (q4 : Q4 y4 M4), AW l (pI pg 16) P kc ks 33 [(5, .int ((s) + Int32.ofInt (-1))), (4, .int (nI p)), (3, .ref 20), (2, .ref 30), (1, .ref 17), (0, .ref 33)] [] SHF (asL M4 34 (s).toNatClampNeg ((lgV M4 34 (s).toNatClampNeg) ||| ((y4) <<< (((Int32.ofInt 1) <<< ((nI p) &&& 31)).toInt64 &&& 63))))) : AW l (pI pg 16) P kc ks 33 [(5, .int (s)), (4, .int (nI p)), (3, .ref 20), (2, .ref 30), (1, .ref 17), (0, .ref 33)] [] SHF M := by
  refine AW.iload (dq rfl) rfl ?_
  show AW l (pI pg 16) P kc ks 35 _ _ SHF _
  refine AW.if_lt (dq rfl) (tgt := 81) (by decide) (fun h1 => ?_) (fun h1 => ?_)
  · have _ := h1
    refine AW.iinc (dq rfl) rfl (by decide +kernel) ?_
    show AW l (pI pg 16) P kc ks 84 [(4, .int ((nI p) + Int32.ofInt 1)), (5, .int (s)), (3, .ref 20), (2, .ref 30), (1, .ref 17), (0, .ref 33)] [] SHF _
    refine AW.goto (dq rfl) (tgt := 18) (by decide) ?_
    refine AW.drop (lv' := [(4, .int ((nI p) + Int32.ofInt 1)), (3, .ref 20), (2, .ref 30), (1, .ref 17), (0, .ref 33)]) (List.forall_mem_cons.mpr ⟨List.mem_of_getElem? (i := 0) rfl, List.forall_mem_cons.mpr ⟨List.mem_of_getElem? (i := 2) rfl, List.forall_mem_cons.mpr ⟨List.mem_of_getElem? (i := 3) rfl, List.forall_mem_cons.mpr ⟨List.mem_of_getElem? (i := 4) rfl, List.forall_mem_cons.mpr ⟨List.mem_of_getElem? (i := 5) rfl, fun _ h => absurd h List.not_mem_nil⟩⟩⟩⟩⟩) ?_
    exact k2 h1
  · have _ := h1
    refine AW.aload_n (dq rfl) rfl rfl ?_
    show AW l (pI pg 16) P kc ks 39 _ _ SHF _
    refine AW.aload_n (dq rfl) rfl rfl ?_
    show AW l (pI pg 16) P kc ks 40 _ _ SHF _
    refine AW.iload (dq rfl) rfl ?_
    show AW l (pI pg 16) P kc ks 42 _ _ SHF _
    refine AW.aload_n (dq rfl) rfl rfl ?_
    show AW l (pI pg 16) P kc ks 43 _ _ SHF _
    refine AW.iload (dq rfl) rfl ?_
    show AW l (pI pg 16) P kc ks 45 _ _ SHF _
    refine AW.iald (dq rfl) rfl (o3 h1) ?_
    show AW l (pI pg 16) P kc ks 46 _ _ SHF _
    refine AW.aload_n (dq rfl) rfl rfl ?_
    show AW l (pI pg 16) P kc ks 47 _ _ SHF _
    refine fw_get (dq rfl) (pg_ok.2.1 16 _ _ _ _ rfl) rfl (v := .ref 18) (isTA_ok rfl (rgR_ok hJ rfl)) ?_
    show AW l (pI pg 16) P kc ks 50 _ _ SHF _
    refine AW.iload (dq rfl) rfl ?_
    show AW l (pI pg 16) P kc ks 52 _ _ SHF _
    refine AW.iald (dq rfl) rfl (o3 h1) ?_
    show AW l (pI pg 16) P kc ks 53 _ _ SHF _
    refine fw_callVJ (as := [.ref 30, .int (s), .int (M.1 20 (nI p).toNatClampNeg), .int (M.1 18 (nI p).toNatClampNeg)]) (dq rfl) (pg_ok.2.2.1 16 _ _ _ _ rfl) rfl (by decide +kernel) rfl rfl (c5 h1) (fun y4 M4 e4 q4 => ?_)
    have hJ4 : ∀ e ∈ RRS.2, M4.2.2 e.1 e.2.1 = e.2.2 := fun e he => by rw [e4]; exact hJ e he
    show AW l (pI pg 16) P kc ks 56 [(5, .int (s)), (4, .int (nI p)), (3, .ref 20), (2, .ref 30), (1, .ref 17), (0, .ref 33)] [.long (y4)] SHF _
    refine AW.lstore (dq rfl) (by decide +kernel) ?_
    show AW l (pI pg 16) P kc ks 58 [(6, .long (y4)), (5, .int (s)), (4, .int (nI p)), (3, .ref 20), (2, .ref 30), (1, .ref 17), (0, .ref 33)] [] SHF _
    refine AW.aload_n (dq rfl) rfl rfl ?_
    show AW l (pI pg 16) P kc ks 59 _ _ SHF _
    refine fw_get (dq rfl) (pg_ok.2.1 16 _ _ _ _ rfl) rfl (v := .ref 34) (isTA_ok rfl (rgR_ok hJ4 rfl)) ?_
    show AW l (pI pg 16) P kc ks 62 _ _ SHF _
    refine AW.iload (dq rfl) rfl ?_
    show AW l (pI pg 16) P kc ks 64 _ _ SHF _
    refine AW.dup2_11 (dq rfl) rfl rfl ?_
    show AW l (pI pg 16) P kc ks 65 _ _ SHF _
    refine AW.laldP (by decide) (dq rfl) rfl (o6 h1 y4 M4 e4 q4) ?_
    show AW l (pI pg 16) P kc ks 66 _ _ SHF _
    refine AW.lload (dq rfl) rfl ?_
    show AW l (pI pg 16) P kc ks 68 _ _ SHF _
    refine AW.iconst (dq rfl) ?_
    show AW l (pI pg 16) P kc ks 69 _ _ SHF _
    refine AW.iload (dq rfl) rfl ?_
    show AW l (pI pg 16) P kc ks 71 _ _ SHF _
    refine AW.ishl (dq rfl) ?_
    show AW l (pI pg 16) P kc ks 72 _ _ SHF _
    refine AW.lshl (dq rfl) ?_
    show AW l (pI pg 16) P kc ks 73 _ _ SHF _
    refine AW.lor (dq rfl) ?_
    show AW l (pI pg 16) P kc ks 74 _ _ SHF _
    refine AW.lastP (by decide) (dq rfl) rfl (o6 h1 y4 M4 e4 q4) ?_
    show AW l (pI pg 16) P kc ks 75 _ _ SHF _
    refine AW.iinc (dq rfl) rfl (by decide +kernel) ?_
    show AW l (pI pg 16) P kc ks 78 [(5, .int ((s) + Int32.ofInt (-1))), (6, .long (y4)), (4, .int (nI p)), (3, .ref 20), (2, .ref 30), (1, .ref 17), (0, .ref 33)] [] SHF _
    refine AW.goto (dq rfl) (tgt := 33) (by decide) ?_
    refine AW.drop (lv' := [(5, .int ((s) + Int32.ofInt (-1))), (4, .int (nI p)), (3, .ref 20), (2, .ref 30), (1, .ref 17), (0, .ref 33)]) (List.forall_mem_cons.mpr ⟨List.mem_of_getElem? (i := 0) rfl, List.forall_mem_cons.mpr ⟨List.mem_of_getElem? (i := 2) rfl, List.forall_mem_cons.mpr ⟨List.mem_of_getElem? (i := 3) rfl, List.forall_mem_cons.mpr ⟨List.mem_of_getElem? (i := 4) rfl, List.forall_mem_cons.mpr ⟨List.mem_of_getElem? (i := 5) rfl, List.forall_mem_cons.mpr ⟨List.mem_of_getElem? (i := 6) rfl, fun _ h => absurd h List.not_mem_nil⟩⟩⟩⟩⟩⟩) ?_
    exact k7 h1 y4 M4 e4 q4

theorem sbnb_0 {l : aL} {P : aP} {kc ks : Nat} {M : aM} (hJ : ∀ e ∈ RRS.2, M.2.2 e.1 e.2.1 = e.2.2) (hl0 : l.1.stackTraces = false) (Q1 : aM → Prop) (c2 : AC l (pI pg 17) (fcV M Q1) 0 0 [.ref 35, .long (Int64.ofNat (0 : Fin 2))] SHF M) (k3 : ∀ (M1 : aM), ∀ (e1 : M1.2.2 = M.2.2), ∀ (q1 : Q1 M1), AW l (pI pg 20) P kc ks 10 [(2, .int (Int32.ofInt 0)), (1, .ref 17), (0, .ref 33)] [] SHF M1) : AW l (pI pg 20) P kc ks 0 [(0, .ref 33), (1, .ref 17)] [] SHF M := by
  refine AW.aload_n (dq rfl) rfl rfl ?_
  show AW l (pI pg 20) P kc ks 1 _ _ SHF _
  refine fw_get (dq rfl) (pg_ok.2.1 20 _ _ _ _ rfl) rfl (v := .ref 35) (isTA_ok rfl (rgR_ok hJ rfl)) ?_
  show AW l (pI pg 20) P kc ks 4 _ _ SHF _
  refine AW.lconst (dq rfl) ?_
  show AW l (pI pg 20) P kc ks 5 _ _ SHF _
  refine fw_callSV (as := [.ref 35, .long (Int64.ofNat (0 : Fin 2))]) (dq rfl) (pg_ok.2.2.1 20 _ _ _ _ rfl) (by decide +kernel) rfl rfl (c2) (fun M1 e1 q1 => ?_)
  have hJ1 : ∀ e ∈ RRS.2, M1.2.2 e.1 e.2.1 = e.2.2 := fun e he => by rw [e1]; exact hJ e he
  show AW l (pI pg 20) P kc ks 8 [(0, .ref 33), (1, .ref 17)] [] SHF _
  refine AW.iconst (dq rfl) ?_
  show AW l (pI pg 20) P kc ks 9 _ _ SHF _
  refine AW.istore_n (dq rfl) (by decide +kernel) ?_
  show AW l (pI pg 20) P kc ks 10 [(2, .int (Int32.ofInt 0)), (0, .ref 33), (1, .ref 17)] [] SHF _
  refine AW.drop (lv' := [(2, .int (Int32.ofInt 0)), (1, .ref 17), (0, .ref 33)]) (List.forall_mem_cons.mpr ⟨List.mem_of_getElem? (i := 0) rfl, List.forall_mem_cons.mpr ⟨List.mem_of_getElem? (i := 2) rfl, List.forall_mem_cons.mpr ⟨List.mem_of_getElem? (i := 1) rfl, fun _ h => absurd h List.not_mem_nil⟩⟩⟩) ?_
  exact k3 M1 e1 q1

theorem sbnb_10 {l : aL} {P : aP} {kc ks : Nat} {s : Nat} {M : aM} (hJ : ∀ e ∈ RRS.2, M.2.2 e.1 e.2.1 = e.2.2) (hl0 : l.1.stackTraces = false) (Q1 : Int32 → aM → Prop) (c2 : AC l (pI pg 18) (fcI M Q1) 0 0 [.ref 17] SHF M) (r4 : ∀ (y1 : Int32), ∀ (M1 : aM), ∀ (e1 : M1.2.2 = M.2.2), ∀ (q1 : Q1 y1 M1), ∀ (h3 : (y1 : Int32) < (nI s : Int32)), P (.inl none) SHF M1) (Q5 : Int32 → aM → Int32 → aM → Prop) (c6 : ∀ (y1 : Int32), ∀ (M1 : aM), ∀ (e1 : M1.2.2 = M.2.2), ∀ (q1 : Q1 y1 M1), ∀ (h3 : ¬ ((y1 : Int32) < (nI s : Int32))), AC l (pI pg 21) (fcI M1 (Q5 y1 M1)) 0 0 [.int (nI s)] SHF M1) (o7 : ∀ (y1 : Int32), ∀ (M1 : aM), ∀ (e1 : M1.2.2 = M.2.2), ∀ (q1 : Q1 y1 M1), ∀ (h3 : ¬ ((y1 : Int32) < (nI s : Int32))), ∀ (y5 : Int32), ∀ (M5 : aM), ∀ (e5 : M5.2.2 = M1.2.2), ∀ (q5 : (Q5 y1 M1) y5 M5), vp_in (y5) 9) (o8 : ∀ (y1 : Int32), ∀ (M1 : aM), ∀ (e1 : M1.2.2 = M.2.2), ∀ (q1 : Q1 y1 M1), ∀ (h3 : ¬ ((y1 : Int32) < (nI s : Int32))), ∀ (y5 : Int32), ∀ (M5 : aM), ∀ (e5 : M5.2.2 = M1.2.2), ∀ (q5 : (Q5 y1 M1) y5 M5), vp_in (nI s) 256) (k9 : ∀ (y1 : Int32), ∀ (M1 : aM), ∀ (e1 : M1.2.2 = M.2.2), ∀ (q1 : Q1 y1 M1), ∀ (h3 : ¬ ((y1 : Int32) < (nI s : Int32))), ∀ (y5 : Int32), ∀ (M5 : aM), ∀ (e5 : M5.2.2 = M1.2.2), ∀ (q5 : (Q5 y1 M1) y5 M5), AW l (pI pg 20) P kc ks 10 [(2, .int ((nI s) + Int32.ofInt 1)), (1, .ref 17), (0, .ref 33)] [] SHF (asL M5 35 (y5).toNatClampNeg ((lgV M5 35 (y5).toNatClampNeg) ||| (lgV M5 34 (nI s).toNatClampNeg)))) : AW l (pI pg 20) P kc ks 10 [(2, .int (nI s)), (1, .ref 17), (0, .ref 33)] [] SHF M := by
  refine AW.iload_n (dq rfl) rfl ?_
  show AW l (pI pg 20) P kc ks 11 _ _ SHF _
  refine AW.aload_n (dq rfl) rfl rfl ?_
  show AW l (pI pg 20) P kc ks 12 _ _ SHF _
  refine fw_callVI (as := []) (dq rfl) (pg_ok.2.2.1 20 _ _ _ _ rfl) rfl (by decide +kernel) rfl rfl (c2) (fun y1 M1 e1 q1 => ?_)
  have hJ1 : ∀ e ∈ RRS.2, M1.2.2 e.1 e.2.1 = e.2.2 := fun e he => by rw [e1]; exact hJ e he
  show AW l (pI pg 20) P kc ks 15 [(2, .int (nI s)), (1, .ref 17), (0, .ref 33)] [.int (y1), .int (nI s)] SHF _
  refine AW.icmp_gt (dq rfl) (tgt := 42) (by decide) (fun h3 => ?_) (fun h3 => ?_)
  · have _ := h3
    refine AW.vret (dq rfl) rfl ?_
    exact r4 y1 M1 e1 q1 h3
  · have _ := h3
    refine AW.aload_n (dq rfl) rfl rfl ?_
    show AW l (pI pg 20) P kc ks 19 _ _ SHF _
    refine fw_get (dq rfl) (pg_ok.2.1 20 _ _ _ _ rfl) rfl (v := .ref 35) (isTA_ok rfl (rgR_ok hJ1 rfl)) ?_
    show AW l (pI pg 20) P kc ks 22 _ _ SHF _
    refine AW.iload_n (dq rfl) rfl ?_
    show AW l (pI pg 20) P kc ks 23 _ _ SHF _
    refine fw_callSI (as := [.int (nI s)]) (dq rfl) (pg_ok.2.2.1 20 _ _ _ _ rfl) (by decide +kernel) rfl rfl (c6 y1 M1 e1 q1 h3) (fun y5 M5 e5 q5 => ?_)
    have hJ5 : ∀ e ∈ RRS.2, M5.2.2 e.1 e.2.1 = e.2.2 := fun e he => by rw [e5]; exact hJ1 e he
    show AW l (pI pg 20) P kc ks 26 [(2, .int (nI s)), (1, .ref 17), (0, .ref 33)] [.int (y5), .ref 35] SHF _
    refine AW.dup2_11 (dq rfl) rfl rfl ?_
    show AW l (pI pg 20) P kc ks 27 _ _ SHF _
    refine AW.laldP (by decide) (dq rfl) rfl (o7 y1 M1 e1 q1 h3 y5 M5 e5 q5) ?_
    show AW l (pI pg 20) P kc ks 28 _ _ SHF _
    refine AW.aload_n (dq rfl) rfl rfl ?_
    show AW l (pI pg 20) P kc ks 29 _ _ SHF _
    refine fw_get (dq rfl) (pg_ok.2.1 20 _ _ _ _ rfl) rfl (v := .ref 34) (isTA_ok rfl (rgR_ok hJ5 rfl)) ?_
    show AW l (pI pg 20) P kc ks 32 _ _ SHF _
    refine AW.iload_n (dq rfl) rfl ?_
    show AW l (pI pg 20) P kc ks 33 _ _ SHF _
    refine AW.laldP (by decide) (dq rfl) rfl (o8 y1 M1 e1 q1 h3 y5 M5 e5 q5) ?_
    show AW l (pI pg 20) P kc ks 34 _ _ SHF _
    refine AW.lor (dq rfl) ?_
    show AW l (pI pg 20) P kc ks 35 _ _ SHF _
    refine AW.lastP (by decide) (dq rfl) rfl (o7 y1 M1 e1 q1 h3 y5 M5 e5 q5) ?_
    show AW l (pI pg 20) P kc ks 36 _ _ SHF _
    refine AW.iinc (dq rfl) rfl (by decide +kernel) ?_
    show AW l (pI pg 20) P kc ks 39 [(2, .int ((nI s) + Int32.ofInt 1)), (1, .ref 17), (0, .ref 33)] [] SHF _
    refine AW.goto (dq rfl) (tgt := 10) (by decide) ?_
    refine AW.drop (lv' := [(2, .int ((nI s) + Int32.ofInt 1)), (1, .ref 17), (0, .ref 33)]) (List.forall_mem_cons.mpr ⟨List.mem_of_getElem? (i := 0) rfl, List.forall_mem_cons.mpr ⟨List.mem_of_getElem? (i := 1) rfl, List.forall_mem_cons.mpr ⟨List.mem_of_getElem? (i := 2) rfl, fun _ h => absurd h List.not_mem_nil⟩⟩⟩) ?_
    exact k9 y1 M1 e1 q1 h3 y5 M5 e5 q5

theorem sunb_0 {l : aL} {P : aP} {kc ks : Nat} {x : Int32} {M : aM} (hJ : ∀ e ∈ RRS.2, M.2.2 e.1 e.2.1 = e.2.2) (hl0 : l.1.stackTraces = false) (k1 : AW l (pI pg 118) P kc ks 5 [(4, .int (Int32.ofInt 0)), (3, .int (Int32.ofInt (-1))), (2, .int (x)), (1, .ref 17), (0, .ref 33)] [] SHF M) : AW l (pI pg 118) P kc ks 0 [(0, .ref 33), (1, .ref 17), (2, .int (x))] [] SHF M := by
  refine AW.iconst (dq rfl) ?_
  show AW l (pI pg 118) P kc ks 1 _ _ SHF _
  refine AW.istore_n (dq rfl) (by decide +kernel) ?_
  show AW l (pI pg 118) P kc ks 2 [(3, .int (Int32.ofInt (-1))), (0, .ref 33), (1, .ref 17), (2, .int (x))] [] SHF _
  refine AW.iconst (dq rfl) ?_
  show AW l (pI pg 118) P kc ks 3 _ _ SHF _
  refine AW.istore (dq rfl) (by decide +kernel) ?_
  show AW l (pI pg 118) P kc ks 5 [(4, .int (Int32.ofInt 0)), (3, .int (Int32.ofInt (-1))), (0, .ref 33), (1, .ref 17), (2, .int (x))] [] SHF _
  refine AW.drop (lv' := [(4, .int (Int32.ofInt 0)), (3, .int (Int32.ofInt (-1))), (2, .int (x)), (1, .ref 17), (0, .ref 33)]) (List.forall_mem_cons.mpr ⟨List.mem_of_getElem? (i := 0) rfl, List.forall_mem_cons.mpr ⟨List.mem_of_getElem? (i := 1) rfl, List.forall_mem_cons.mpr ⟨List.mem_of_getElem? (i := 4) rfl, List.forall_mem_cons.mpr ⟨List.mem_of_getElem? (i := 3) rfl, List.forall_mem_cons.mpr ⟨List.mem_of_getElem? (i := 2) rfl, fun _ h => absurd h List.not_mem_nil⟩⟩⟩⟩⟩) ?_
  exact k1

theorem sunb_5 {l : aL} {P : aP} {kc ks : Nat} {s : Nat} {x v : Int32} {M : aM} (hJ : ∀ e ∈ RRS.2, M.2.2 e.1 e.2.1 = e.2.2) (hl0 : l.1.stackTraces = false) (Q1 : Int32 → aM → Prop) (c2 : AC l (pI pg 18) (fcI M Q1) 0 0 [.ref 17] SHF M) (r4 : ∀ (y1 : Int32), ∀ (M1 : aM), ∀ (e1 : M1.2.2 = M.2.2), ∀ (q1 : Q1 y1 M1), ∀ (h3 : (y1 : Int32) < (nI s : Int32)), P (.inl (some (.int (v)))) SHF M1) (Q7 : Int32 → aM → Int32 → aM → Prop) (c8 : ∀ (y1 : Int32), ∀ (M1 : aM), ∀ (e1 : M1.2.2 = M.2.2), ∀ (q1 : Q1 y1 M1), ∀ (h3 : ¬ ((y1 : Int32) < (nI s : Int32))), ∀ (h5 : (v : Int32) = (Int32.ofInt (-1) : Int32)), AC l (pI pg 119) (fcI M1 (Q7 y1 M1)) 0 0 [.ref 33, .int (nI s), .long ((Int64.ofNat (1 : Fin 2)) <<< ((x).toInt64 &&& 63))] SHF M1) (k10 : ∀ (y1 : Int32), ∀ (M1 : aM), ∀ (e1 : M1.2.2 = M.2.2), ∀ (q1 : Q1 y1 M1), ∀ (h3 : ¬ ((y1 : Int32) < (nI s : Int32))), ∀ (h5 : (v : Int32) = (Int32.ofInt (-1) : Int32)), ∀ (y7 : Int32), ∀ (M7 : aM), ∀ (e7 : M7.2.2 = M1.2.2), ∀ (q7 : (Q7 y1 M1) y7 M7), ∀ (h9 : ¬ (y7 : Int32) = 0), AW l (pI pg 118) P kc ks 5 [(4, .int ((nI s) + Int32.ofInt 1)), (3, .int (v)), (2, .int (x)), (1, .ref 17), (0, .ref 33)] [] SHF M7) (k11 : ∀ (y1 : Int32), ∀ (M1 : aM), ∀ (e1 : M1.2.2 = M.2.2), ∀ (q1 : Q1 y1 M1), ∀ (h3 : ¬ ((y1 : Int32) < (nI s : Int32))), ∀ (h5 : (v : Int32) = (Int32.ofInt (-1) : Int32)), ∀ (y7 : Int32), ∀ (M7 : aM), ∀ (e7 : M7.2.2 = M1.2.2), ∀ (q7 : (Q7 y1 M1) y7 M7), ∀ (h9 : (y7 : Int32) = 0), AW l (pI pg 118) P kc ks 5 [(4, .int ((nI s) + Int32.ofInt 1)), (3, .int (nI s)), (2, .int (x)), (1, .ref 17), (0, .ref 33)] [] SHF M7) (Q12 : Int32 → aM → Int32 → aM → Prop) (c13 : ∀ (y1 : Int32), ∀ (M1 : aM), ∀ (e1 : M1.2.2 = M.2.2), ∀ (q1 : Q1 y1 M1), ∀ (h3 : ¬ ((y1 : Int32) < (nI s : Int32))), ∀ (h5 : ¬ ((v : Int32) = (Int32.ofInt (-1) : Int32))), AC l (pI pg 21) (fcI M1 (Q12 y1 M1)) 0 0 [.int (nI s)] SHF M1) (Q14 : Int32 → aM → Int32 → aM → Int32 → aM → Prop) (c15 : ∀ (y1 : Int32), ∀ (M1 : aM), ∀ (e1 : M1.2.2 = M.2.2), ∀ (q1 : Q1 y1 M1), ∀ (h3 : ¬ ((y1 : Int32) < (nI s : Int32))), ∀ (h5 : ¬ ((v : Int32) = (Int32.ofInt (-1) : Int32))), ∀ (y12 : Int32), ∀ (M12 : aM), ∀ (e12 : M12.2.2 = M1.2.2), ∀ (q12 : (Q12 y1 M1) y12 M12), AC l (pI pg 21) (fcI M12 (Q14 y1 M1 y12 M12)) 0 0 [.int (v)] SHF M12) (k18 : ∀ (y1 : Int32), ∀ (M1 : aM), ∀ (e1 : M1.2.2 = M.2.2), ∀ (q1 : Q1 y1 M1), ∀ (h3 : ¬ ((y1 : Int32) < (nI s : Int32))), ∀ (h5 : ¬ ((v : Int32) = (Int32.ofInt (-1) : Int32))), ∀ (y12 : Int32), ∀ (M12 : aM), ∀ (e12 : M12.2.2 = M1.2.2), ∀ (q12 : (Q12 y1 M1) y12 M12), ∀ (y14 : Int32), ∀ (M14 : aM), ∀ (e14 : M14.2.2 = M12.2.2), ∀ (q14 : (Q14 y1 M1 y12 M12) y14 M14), ∀ (h16 : (y14 : Int32) ≤ (y12 : Int32)), AW l (pI pg 118) P kc ks 5 [(4, .int ((nI s) + Int32.ofInt 1)), (3, .int (v)), (2, .int (x)), (1, .ref 17), (0, .ref 33)] [] SHF M14) (Q20 : Int32 → aM → Int32 → aM → Int32 → aM → Int32 → aM → Prop) (c21 : ∀ (y1 : Int32), ∀ (M1 : aM), ∀ (e1 : M1.2.2 = M.2.2), ∀ (q1 : Q1 y1 M1), ∀ (h3 : ¬ ((y1 : Int32) < (nI s : Int32))), ∀ (h5 : ¬ ((v : Int32) = (Int32.ofInt (-1) : Int32))), ∀ (y12 : Int32), ∀ (M12 : aM), ∀ (e12 : M12.2.2 = M1.2.2), ∀ (q12 : (Q12 y1 M1) y12 M12), ∀ (y14 : Int32), ∀ (M14 : aM), ∀ (e14 : M14.2.2 = M12.2.2), ∀ (q14 : (Q14 y1 M1 y12 M12) y14 M14), ∀ (h16 : ¬ ((y14 : Int32) ≤ (y12 : Int32))), AC l (pI pg 119) (fcI M14 (Q20 y1 M1 y12 M12 y14 M14)) 0 0 [.ref 33, .int (nI s), .long ((Int64.ofNat (1 : Fin 2)) <<< ((x).toInt64 &&& 63))] SHF M14) (k23 : ∀ (y1 : Int32), ∀ (M1 : aM), ∀ (e1 : M1.2.2 = M.2.2), ∀ (q1 : Q1 y1 M1), ∀ (h3 : ¬ ((y1 : Int32) < (nI s : Int32))), ∀ (h5 : ¬ ((v : Int32) = (Int32.ofInt (-1) : Int32))), ∀ (y12 : Int32), ∀ (M12 : aM), ∀ (e12 : M12.2.2 = M1.2.2), ∀ (q12 : (Q12 y1 M1) y12 M12), ∀ (y14 : Int32), ∀ (M14 : aM), ∀ (e14 : M14.2.2 = M12.2.2), ∀ (q14 : (Q14 y1 M1 y12 M12) y14 M14), ∀ (h16 : ¬ ((y14 : Int32) ≤ (y12 : Int32))), ∀ (y20 : Int32), ∀ (M20 : aM), ∀ (e20 : M20.2.2 = M14.2.2), ∀ (q20 : (Q20 y1 M1 y12 M12 y14 M14) y20 M20), ∀ (h22 : ¬ (y20 : Int32) = 0), AW l (pI pg 118) P kc ks 5 [(4, .int ((nI s) + Int32.ofInt 1)), (3, .int (v)), (2, .int (x)), (1, .ref 17), (0, .ref 33)] [] SHF M20) (k24 : ∀ (y1 : Int32), ∀ (M1 : aM), ∀ (e1 : M1.2.2 = M.2.2), ∀ (q1 : Q1 y1 M1), ∀ (h3 : ¬ ((y1 : Int32) < (nI s : Int32))), ∀ (h5 : ¬ ((v : Int32) = (Int32.ofInt (-1) : Int32))), ∀ (y12 : Int32), ∀ (M12 : aM), ∀ (e12 : M12.2.2 = M1.2.2), ∀ (q12 : (Q12 y1 M1) y12 M12), ∀ (y14 : Int32), ∀ (M14 : aM), ∀ (e14 : M14.2.2 = M12.2.2), ∀ (q14 : (Q14 y1 M1 y12 M12) y14 M14), ∀ (h16 : ¬ ((y14 : Int32) ≤ (y12 : Int32))), ∀ (y20 : Int32), ∀ (M20 : aM), ∀ (e20 : M20.2.2 = M14.2.2), ∀ (q20 : (Q20 y1 M1 y12 M12 y14 M14) y20 M20), ∀ (h22 : (y20 : Int32) = 0), AW l (pI pg 118) P kc ks 5 [(4, .int ((nI s) + Int32.ofInt 1)), (3, .int (nI s)), (2, .int (x)), (1, .ref 17), (0, .ref 33)] [] SHF M20) : AW l (pI pg 118) P kc ks 5 [(4, .int (nI s)), (3, .int (v)), (2, .int (x)), (1, .ref 17), (0, .ref 33)] [] SHF M := by
  refine AW.iload (dq rfl) rfl ?_
  show AW l (pI pg 118) P kc ks 7 _ _ SHF _
  refine AW.aload_n (dq rfl) rfl rfl ?_
  show AW l (pI pg 118) P kc ks 8 _ _ SHF _
  refine fw_callVI (as := []) (dq rfl) (pg_ok.2.2.1 118 _ _ _ _ rfl) rfl (by decide +kernel) rfl rfl (c2) (fun y1 M1 e1 q1 => ?_)
  have hJ1 : ∀ e ∈ RRS.2, M1.2.2 e.1 e.2.1 = e.2.2 := fun e he => by rw [e1]; exact hJ e he
  show AW l (pI pg 118) P kc ks 11 [(4, .int (nI s)), (3, .int (v)), (2, .int (x)), (1, .ref 17), (0, .ref 33)] [.int (y1), .int (nI s)] SHF _
  refine AW.icmp_gt (dq rfl) (tgt := 64) (by decide) (fun h3 => ?_) (fun h3 => ?_)
  · have _ := h3
    refine AW.iload_n (dq rfl) rfl ?_
    show AW l (pI pg 118) P kc ks 65 _ _ SHF _
    refine AW.iret (dq rfl) rfl ?_
    exact r4 y1 M1 e1 q1 h3
  · have _ := h3
    refine AW.iload_n (dq rfl) rfl ?_
    show AW l (pI pg 118) P kc ks 15 _ _ SHF _
    refine AW.iconst (dq rfl) ?_
    show AW l (pI pg 118) P kc ks 16 _ _ SHF _
    refine AW.icmp_eq (dq rfl) (tgt := 31) (by decide) (fun h5 => ?_) (fun h5 => ?_)
    · have _ := h5
      refine AW.iconst (dq rfl) ?_
      show AW l (pI pg 118) P kc ks 32 _ _ SHF _
      refine AW.goto (dq rfl) (tgt := 36) (by decide) ?_
      refine AW.istore (dq rfl) (by decide +kernel) ?_
      show AW l (pI pg 118) P kc ks 38 [(5, .int (Int32.ofInt 1)), (4, .int (nI s)), (3, .int (v)), (2, .int (x)), (1, .ref 17), (0, .ref 33)] [] SHF _
      refine AW.iload (dq rfl) rfl ?_
      show AW l (pI pg 118) P kc ks 40 _ _ SHF _
      refine AW.if_eq (dq rfl) (tgt := 58) (by decide) (fun h6 => ?_) (fun h6 => ?_)
      · exact absurd h6 (by decide)
      refine AW.aload_n (dq rfl) rfl rfl ?_
      show AW l (pI pg 118) P kc ks 44 _ _ SHF _
      refine AW.iload (dq rfl) rfl ?_
      show AW l (pI pg 118) P kc ks 46 _ _ SHF _
      refine AW.lconst (dq rfl) ?_
      show AW l (pI pg 118) P kc ks 47 _ _ SHF _
      refine AW.iload_n (dq rfl) rfl ?_
      show AW l (pI pg 118) P kc ks 48 _ _ SHF _
      refine AW.lshl (dq rfl) ?_
      show AW l (pI pg 118) P kc ks 49 _ _ SHF _
      refine fw_callVI (as := [.int (nI s), .long ((Int64.ofNat (1 : Fin 2)) <<< ((x).toInt64 &&& 63))]) (dq rfl) (pg_ok.2.2.1 118 _ _ _ _ rfl) rfl (by decide +kernel) rfl rfl (c8 y1 M1 e1 q1 h3 h5) (fun y7 M7 e7 q7 => ?_)
      have hJ7 : ∀ e ∈ RRS.2, M7.2.2 e.1 e.2.1 = e.2.2 := fun e he => by rw [e7]; exact hJ1 e he
      show AW l (pI pg 118) P kc ks 52 [(5, .int (Int32.ofInt 1)), (4, .int (nI s)), (3, .int (v)), (2, .int (x)), (1, .ref 17), (0, .ref 33)] [.int (y7)] SHF _
      refine AW.if_ne (dq rfl) (tgt := 58) (by decide) (fun h9 => ?_) (fun h9 => ?_)
      · have _ := h9
        refine AW.iinc (dq rfl) rfl (by decide +kernel) ?_
        show AW l (pI pg 118) P kc ks 61 [(4, .int ((nI s) + Int32.ofInt 1)), (5, .int (Int32.ofInt 1)), (3, .int (v)), (2, .int (x)), (1, .ref 17), (0, .ref 33)] [] SHF _
        refine AW.goto (dq rfl) (tgt := 5) (by decide) ?_
        refine AW.drop (lv' := [(4, .int ((nI s) + Int32.ofInt 1)), (3, .int (v)), (2, .int (x)), (1, .ref 17), (0, .ref 33)]) (List.forall_mem_cons.mpr ⟨List.mem_of_getElem? (i := 0) rfl, List.forall_mem_cons.mpr ⟨List.mem_of_getElem? (i := 2) rfl, List.forall_mem_cons.mpr ⟨List.mem_of_getElem? (i := 3) rfl, List.forall_mem_cons.mpr ⟨List.mem_of_getElem? (i := 4) rfl, List.forall_mem_cons.mpr ⟨List.mem_of_getElem? (i := 5) rfl, fun _ h => absurd h List.not_mem_nil⟩⟩⟩⟩⟩) ?_
        exact k10 y1 M1 e1 q1 h3 h5 y7 M7 e7 q7 h9
      · have _ := h9
        refine AW.iload (dq rfl) rfl ?_
        show AW l (pI pg 118) P kc ks 57 _ _ SHF _
        refine AW.istore_n (dq rfl) (by decide +kernel) ?_
        show AW l (pI pg 118) P kc ks 58 [(3, .int (nI s)), (5, .int (Int32.ofInt 1)), (4, .int (nI s)), (2, .int (x)), (1, .ref 17), (0, .ref 33)] [] SHF _
        refine AW.iinc (dq rfl) rfl (by decide +kernel) ?_
        show AW l (pI pg 118) P kc ks 61 [(4, .int ((nI s) + Int32.ofInt 1)), (3, .int (nI s)), (5, .int (Int32.ofInt 1)), (2, .int (x)), (1, .ref 17), (0, .ref 33)] [] SHF _
        refine AW.goto (dq rfl) (tgt := 5) (by decide) ?_
        refine AW.drop (lv' := [(4, .int ((nI s) + Int32.ofInt 1)), (3, .int (nI s)), (2, .int (x)), (1, .ref 17), (0, .ref 33)]) (List.forall_mem_cons.mpr ⟨List.mem_of_getElem? (i := 0) rfl, List.forall_mem_cons.mpr ⟨List.mem_of_getElem? (i := 1) rfl, List.forall_mem_cons.mpr ⟨List.mem_of_getElem? (i := 3) rfl, List.forall_mem_cons.mpr ⟨List.mem_of_getElem? (i := 4) rfl, List.forall_mem_cons.mpr ⟨List.mem_of_getElem? (i := 5) rfl, fun _ h => absurd h List.not_mem_nil⟩⟩⟩⟩⟩) ?_
        exact k11 y1 M1 e1 q1 h3 h5 y7 M7 e7 q7 h9
    · have _ := h5
      refine AW.iload (dq rfl) rfl ?_
      show AW l (pI pg 118) P kc ks 21 _ _ SHF _
      refine fw_callSI (as := [.int (nI s)]) (dq rfl) (pg_ok.2.2.1 118 _ _ _ _ rfl) (by decide +kernel) rfl rfl (c13 y1 M1 e1 q1 h3 h5) (fun y12 M12 e12 q12 => ?_)
      have hJ12 : ∀ e ∈ RRS.2, M12.2.2 e.1 e.2.1 = e.2.2 := fun e he => by rw [e12]; exact hJ1 e he
      show AW l (pI pg 118) P kc ks 24 [(4, .int (nI s)), (3, .int (v)), (2, .int (x)), (1, .ref 17), (0, .ref 33)] [.int (y12)] SHF _
      refine AW.iload_n (dq rfl) rfl ?_
      show AW l (pI pg 118) P kc ks 25 _ _ SHF _
      refine fw_callSI (as := [.int (v)]) (dq rfl) (pg_ok.2.2.1 118 _ _ _ _ rfl) (by decide +kernel) rfl rfl (c15 y1 M1 e1 q1 h3 h5 y12 M12 e12 q12) (fun y14 M14 e14 q14 => ?_)
      have hJ14 : ∀ e ∈ RRS.2, M14.2.2 e.1 e.2.1 = e.2.2 := fun e he => by rw [e14]; exact hJ12 e he
      show AW l (pI pg 118) P kc ks 28 [(4, .int (nI s)), (3, .int (v)), (2, .int (x)), (1, .ref 17), (0, .ref 33)] [.int (y14), .int (y12)] SHF _
      refine AW.icmp_ge (dq rfl) (tgt := 35) (by decide) (fun h16 => ?_) (fun h16 => ?_)
      · have _ := h16
        refine AW.iconst (dq rfl) ?_
        show AW l (pI pg 118) P kc ks 36 _ _ SHF _
        refine AW.istore (dq rfl) (by decide +kernel) ?_
        show AW l (pI pg 118) P kc ks 38 [(5, .int (Int32.ofInt 0)), (4, .int (nI s)), (3, .int (v)), (2, .int (x)), (1, .ref 17), (0, .ref 33)] [] SHF _
        refine AW.iload (dq rfl) rfl ?_
        show AW l (pI pg 118) P kc ks 40 _ _ SHF _
        refine AW.if_eq (dq rfl) (tgt := 58) (by decide) (fun h17 => ?_) (fun h17 => ?_)
        rotate_left
        · exact absurd h17 (by decide)
        refine AW.iinc (dq rfl) rfl (by decide +kernel) ?_
        show AW l (pI pg 118) P kc ks 61 [(4, .int ((nI s) + Int32.ofInt 1)), (5, .int (Int32.ofInt 0)), (3, .int (v)), (2, .int (x)), (1, .ref 17), (0, .ref 33)] [] SHF _
        refine AW.goto (dq rfl) (tgt := 5) (by decide) ?_
        refine AW.drop (lv' := [(4, .int ((nI s) + Int32.ofInt 1)), (3, .int (v)), (2, .int (x)), (1, .ref 17), (0, .ref 33)]) (List.forall_mem_cons.mpr ⟨List.mem_of_getElem? (i := 0) rfl, List.forall_mem_cons.mpr ⟨List.mem_of_getElem? (i := 2) rfl, List.forall_mem_cons.mpr ⟨List.mem_of_getElem? (i := 3) rfl, List.forall_mem_cons.mpr ⟨List.mem_of_getElem? (i := 4) rfl, List.forall_mem_cons.mpr ⟨List.mem_of_getElem? (i := 5) rfl, fun _ h => absurd h List.not_mem_nil⟩⟩⟩⟩⟩) ?_
        exact k18 y1 M1 e1 q1 h3 h5 y12 M12 e12 q12 y14 M14 e14 q14 h16
      · have _ := h16
        refine AW.iconst (dq rfl) ?_
        show AW l (pI pg 118) P kc ks 32 _ _ SHF _
        refine AW.goto (dq rfl) (tgt := 36) (by decide) ?_
        refine AW.istore (dq rfl) (by decide +kernel) ?_
        show AW l (pI pg 118) P kc ks 38 [(5, .int (Int32.ofInt 1)), (4, .int (nI s)), (3, .int (v)), (2, .int (x)), (1, .ref 17), (0, .ref 33)] [] SHF _
        refine AW.iload (dq rfl) rfl ?_
        show AW l (pI pg 118) P kc ks 40 _ _ SHF _
        refine AW.if_eq (dq rfl) (tgt := 58) (by decide) (fun h19 => ?_) (fun h19 => ?_)
        · exact absurd h19 (by decide)
        refine AW.aload_n (dq rfl) rfl rfl ?_
        show AW l (pI pg 118) P kc ks 44 _ _ SHF _
        refine AW.iload (dq rfl) rfl ?_
        show AW l (pI pg 118) P kc ks 46 _ _ SHF _
        refine AW.lconst (dq rfl) ?_
        show AW l (pI pg 118) P kc ks 47 _ _ SHF _
        refine AW.iload_n (dq rfl) rfl ?_
        show AW l (pI pg 118) P kc ks 48 _ _ SHF _
        refine AW.lshl (dq rfl) ?_
        show AW l (pI pg 118) P kc ks 49 _ _ SHF _
        refine fw_callVI (as := [.int (nI s), .long ((Int64.ofNat (1 : Fin 2)) <<< ((x).toInt64 &&& 63))]) (dq rfl) (pg_ok.2.2.1 118 _ _ _ _ rfl) rfl (by decide +kernel) rfl rfl (c21 y1 M1 e1 q1 h3 h5 y12 M12 e12 q12 y14 M14 e14 q14 h16) (fun y20 M20 e20 q20 => ?_)
        have hJ20 : ∀ e ∈ RRS.2, M20.2.2 e.1 e.2.1 = e.2.2 := fun e he => by rw [e20]; exact hJ14 e he
        show AW l (pI pg 118) P kc ks 52 [(5, .int (Int32.ofInt 1)), (4, .int (nI s)), (3, .int (v)), (2, .int (x)), (1, .ref 17), (0, .ref 33)] [.int (y20)] SHF _
        refine AW.if_ne (dq rfl) (tgt := 58) (by decide) (fun h22 => ?_) (fun h22 => ?_)
        · have _ := h22
          refine AW.iinc (dq rfl) rfl (by decide +kernel) ?_
          show AW l (pI pg 118) P kc ks 61 [(4, .int ((nI s) + Int32.ofInt 1)), (5, .int (Int32.ofInt 1)), (3, .int (v)), (2, .int (x)), (1, .ref 17), (0, .ref 33)] [] SHF _
          refine AW.goto (dq rfl) (tgt := 5) (by decide) ?_
          refine AW.drop (lv' := [(4, .int ((nI s) + Int32.ofInt 1)), (3, .int (v)), (2, .int (x)), (1, .ref 17), (0, .ref 33)]) (List.forall_mem_cons.mpr ⟨List.mem_of_getElem? (i := 0) rfl, List.forall_mem_cons.mpr ⟨List.mem_of_getElem? (i := 2) rfl, List.forall_mem_cons.mpr ⟨List.mem_of_getElem? (i := 3) rfl, List.forall_mem_cons.mpr ⟨List.mem_of_getElem? (i := 4) rfl, List.forall_mem_cons.mpr ⟨List.mem_of_getElem? (i := 5) rfl, fun _ h => absurd h List.not_mem_nil⟩⟩⟩⟩⟩) ?_
          exact k23 y1 M1 e1 q1 h3 h5 y12 M12 e12 q12 y14 M14 e14 q14 h16 y20 M20 e20 q20 h22
        · have _ := h22
          refine AW.iload (dq rfl) rfl ?_
          show AW l (pI pg 118) P kc ks 57 _ _ SHF _
          refine AW.istore_n (dq rfl) (by decide +kernel) ?_
          show AW l (pI pg 118) P kc ks 58 [(3, .int (nI s)), (5, .int (Int32.ofInt 1)), (4, .int (nI s)), (2, .int (x)), (1, .ref 17), (0, .ref 33)] [] SHF _
          refine AW.iinc (dq rfl) rfl (by decide +kernel) ?_
          show AW l (pI pg 118) P kc ks 61 [(4, .int ((nI s) + Int32.ofInt 1)), (3, .int (nI s)), (5, .int (Int32.ofInt 1)), (2, .int (x)), (1, .ref 17), (0, .ref 33)] [] SHF _
          refine AW.goto (dq rfl) (tgt := 5) (by decide) ?_
          refine AW.drop (lv' := [(4, .int ((nI s) + Int32.ofInt 1)), (3, .int (nI s)), (2, .int (x)), (1, .ref 17), (0, .ref 33)]) (List.forall_mem_cons.mpr ⟨List.mem_of_getElem? (i := 0) rfl, List.forall_mem_cons.mpr ⟨List.mem_of_getElem? (i := 1) rfl, List.forall_mem_cons.mpr ⟨List.mem_of_getElem? (i := 3) rfl, List.forall_mem_cons.mpr ⟨List.mem_of_getElem? (i := 4) rfl, List.forall_mem_cons.mpr ⟨List.mem_of_getElem? (i := 5) rfl, fun _ h => absurd h List.not_mem_nil⟩⟩⟩⟩⟩) ?_
          exact k24 y1 M1 e1 q1 h3 h5 y12 M12 e12 q12 y14 M14 e14 q14 h16 y20 M20 e20 q20 h22

theorem mstb_0 {l : aL} {P : aP} {kc ks : Nat} {x : Int32} {M : aM} (hJ : ∀ e ∈ RRS.2, M.2.2 e.1 e.2.1 = e.2.2) (hl0 : l.1.stackTraces = false) (B1 : Prop) (c2 : AC l (pI pg 100) (tcV "java/lang/IllegalArgumentException" M B1) 1 6 [.ref 0, .int (x)] SHF M) (x3 : B1 → P (.inr "java/lang/IllegalArgumentException") SHF M) (Q4 : Int32 → aM → Prop) (c5 : ∀ (b1 : ¬ B1), AC l (pI pg 115) (fcI M Q4) 0 0 [.ref 33, .int (x)] SHF M) (r6 : ∀ (b1 : ¬ B1), ∀ (y4 : Int32), ∀ (M4 : aM), ∀ (e4 : M4.2.2 = M.2.2), ∀ (q4 : Q4 y4 M4), P (.inl (some (.int (y4)))) SHF M4) : AW l (pI pg 114) P (kc + 1) (ks + 6) 0 [(0, .ref 0), (1, .int (x))] [] SHF M := by
  refine AW.aload_n (dq rfl) rfl rfl ?_
  show AW l (pI pg 114) P (kc + 1) (ks + 6) 1 _ _ SHF _
  refine AW.iload_n (dq rfl) rfl ?_
  show AW l (pI pg 114) P (kc + 1) (ks + 6) 2 _ _ SHF _
  refine fw_tcV (as := [.int (x)]) (dq rfl) (pg_ok.2.2.1 114 _ _ _ _ rfl) rfl (by decide +kernel) rfl rfl (c2) (by decide +kernel) (x3) (fun b1 => ?_)
  show AW l (pI pg 114) P kc ks 5 [(0, .ref 0), (1, .int (x))] [] SHF _
  refine AW.aload_n (dq rfl) rfl rfl ?_
  show AW l (pI pg 114) P kc ks 6 _ _ SHF _
  refine fw_get (dq rfl) (pg_ok.2.1 114 _ _ _ _ rfl) rfl (v := .ref 33) (isTA_ok rfl (rgR_ok hJ rfl)) ?_
  show AW l (pI pg 114) P kc ks 9 _ _ SHF _
  refine AW.iload_n (dq rfl) rfl ?_
  show AW l (pI pg 114) P kc ks 10 _ _ SHF _
  refine fw_callVI (as := [.int (x)]) (dq rfl) (pg_ok.2.2.1 114 _ _ _ _ rfl) rfl (by decide +kernel) rfl rfl (c5 b1) (fun y4 M4 e4 q4 => ?_)
  have hJ4 : ∀ e ∈ RRS.2, M4.2.2 e.1 e.2.1 = e.2.2 := fun e he => by rw [e4]; exact hJ e he
  show AW l (pI pg 114) P kc ks 13 [(0, .ref 0), (1, .int (x))] [.int (y4)] SHF _
  refine AW.iret (dq rfl) rfl ?_
  exact r6 b1 y4 M4 e4 q4

theorem brsb_0 {l : aL} {P : aP} {kc ks : Nat} {x : Int32} {M : aM} (hJ : ∀ e ∈ RRS.2, M.2.2 e.1 e.2.1 = e.2.2) (hl0 : l.1.stackTraces = false) (B1 : Prop) (c2 : AC l (pI pg 100) (tcV "java/lang/IllegalArgumentException" M B1) 1 6 [.ref 0, .int (x)] SHF M) (x3 : B1 → P (.inr "java/lang/IllegalArgumentException") SHF M) (Q4 : Int32 → aM → Prop) (c5 : ∀ (b1 : ¬ B1), AC l (pI pg 118) (fcI M Q4) 0 0 [.ref 33, .ref 17, .int (x)] SHF M) (r6 : ∀ (b1 : ¬ B1), ∀ (y4 : Int32), ∀ (M4 : aM), ∀ (e4 : M4.2.2 = M.2.2), ∀ (q4 : Q4 y4 M4), P (.inl (some (.int (y4)))) SHF M4) : AW l (pI pg 117) P (kc + 1) (ks + 6) 0 [(0, .ref 0), (1, .int (x))] [] SHF M := by
  refine AW.aload_n (dq rfl) rfl rfl ?_
  show AW l (pI pg 117) P (kc + 1) (ks + 6) 1 _ _ SHF _
  refine AW.iload_n (dq rfl) rfl ?_
  show AW l (pI pg 117) P (kc + 1) (ks + 6) 2 _ _ SHF _
  refine fw_tcV (as := [.int (x)]) (dq rfl) (pg_ok.2.2.1 117 _ _ _ _ rfl) rfl (by decide +kernel) rfl rfl (c2) (by decide +kernel) (x3) (fun b1 => ?_)
  show AW l (pI pg 117) P kc ks 5 [(0, .ref 0), (1, .int (x))] [] SHF _
  refine AW.aload_n (dq rfl) rfl rfl ?_
  show AW l (pI pg 117) P kc ks 6 _ _ SHF _
  refine fw_get (dq rfl) (pg_ok.2.1 117 _ _ _ _ rfl) rfl (v := .ref 33) (isTA_ok rfl (rgR_ok hJ rfl)) ?_
  show AW l (pI pg 117) P kc ks 9 _ _ SHF _
  refine AW.aload_n (dq rfl) rfl rfl ?_
  show AW l (pI pg 117) P kc ks 10 _ _ SHF _
  refine fw_get (dq rfl) (pg_ok.2.1 117 _ _ _ _ rfl) rfl (v := .ref 17) (isTA_ok rfl (rgR_ok hJ rfl)) ?_
  show AW l (pI pg 117) P kc ks 13 _ _ SHF _
  refine AW.iload_n (dq rfl) rfl ?_
  show AW l (pI pg 117) P kc ks 14 _ _ SHF _
  refine fw_callVI (as := [.ref 17, .int (x)]) (dq rfl) (pg_ok.2.2.1 117 _ _ _ _ rfl) rfl (by decide +kernel) rfl rfl (c5 b1) (fun y4 M4 e4 q4 => ?_)
  have hJ4 : ∀ e ∈ RRS.2, M4.2.2 e.1 e.2.1 = e.2.2 := fun e he => by rw [e4]; exact hJ e he
  show AW l (pI pg 117) P kc ks 17 [(0, .ref 0), (1, .int (x))] [.int (y4)] SHF _
  refine AW.iret (dq rfl) rfl ?_
  exact r6 b1 y4 M4 e4 q4

theorem fiJ34_0 {l : aL} {P : aP} {kc ks : Nat} {f : Int64} {M : aM}  (hl0 : l.1.stackTraces = false) (k1 : AW l (pI pg 17) P kc ks 6 [(0, .ref 34), (1, .long (f)), (3, .int (Int32.ofInt 0)), (4, .int (Int32.ofNat 256))] [] SHF M) : AW l (pI pg 17) P kc ks 0 [(0, .ref 34), (1, .long (f))] [] SHF M := by
  refine AW.iconst (dq rfl) ?_
  show AW l (pI pg 17) P kc ks 1 _ _ SHF _
  refine AW.istore_n (dq rfl) (by decide +kernel) ?_
  show AW l (pI pg 17) P kc ks 2 [(3, .int (Int32.ofInt 0)), (0, .ref 34), (1, .long (f))] [] SHF _
  refine AW.aload_n (dq rfl) rfl rfl ?_
  show AW l (pI pg 17) P kc ks 3 _ _ SHF _
  refine AW.alen (dq rfl) rfl ?_
  show AW l (pI pg 17) P kc ks 4 _ _ SHF _
  refine AW.istore (dq rfl) (by decide +kernel) ?_
  show AW l (pI pg 17) P kc ks 6 [(4, .int (Int32.ofNat 256)), (3, .int (Int32.ofInt 0)), (0, .ref 34), (1, .long (f))] [] SHF _
  refine AW.drop (lv' := [(0, .ref 34), (1, .long (f)), (3, .int (Int32.ofInt 0)), (4, .int (Int32.ofNat 256))]) (List.forall_mem_cons.mpr ⟨List.mem_of_getElem? (i := 2) rfl, List.forall_mem_cons.mpr ⟨List.mem_of_getElem? (i := 3) rfl, List.forall_mem_cons.mpr ⟨List.mem_of_getElem? (i := 1) rfl, List.forall_mem_cons.mpr ⟨List.mem_of_getElem? (i := 0) rfl, fun _ h => absurd h List.not_mem_nil⟩⟩⟩⟩) ?_
  exact k1

theorem fiJ34_6 {l : aL} {P : aP} {kc ks : Nat} {i : Nat} {f : Int64} {M : aM}  (hl0 : l.1.stackTraces = false) (r2 : ∀ (h1 : (Int32.ofNat 256 : Int32) ≤ (nI i : Int32)), P (.inl none) SHF M) (o3 : ∀ (h1 : ¬ ((Int32.ofNat 256 : Int32) ≤ (nI i : Int32))), vp_in (nI i) 256) (k4 : ∀ (h1 : ¬ ((Int32.ofNat 256 : Int32) ≤ (nI i : Int32))), AW l (pI pg 17) P kc ks 6 [(0, .ref 34), (1, .long (f)), (3, .int ((nI i) + Int32.ofInt 1)), (4, .int (Int32.ofNat 256))] [] SHF (asL M 34 (nI i).toNatClampNeg (f))) : AW l (pI pg 17) P kc ks 6 [(0, .ref 34), (1, .long (f)), (3, .int (nI i)), (4, .int (Int32.ofNat 256))] [] SHF M := by
  refine AW.iload_n (dq rfl) rfl ?_
  show AW l (pI pg 17) P kc ks 7 _ _ SHF _
  refine AW.iload (dq rfl) rfl ?_
  show AW l (pI pg 17) P kc ks 9 _ _ SHF _
  refine AW.icmp_ge (dq rfl) (tgt := 22) (by decide) (fun h1 => ?_) (fun h1 => ?_)
  · have _ := h1
    refine AW.vret (dq rfl) rfl ?_
    exact r2 h1
  · have _ := h1
    refine AW.aload_n (dq rfl) rfl rfl ?_
    show AW l (pI pg 17) P kc ks 13 _ _ SHF _
    refine AW.iload_n (dq rfl) rfl ?_
    show AW l (pI pg 17) P kc ks 14 _ _ SHF _
    refine AW.lload_n (dq rfl) rfl ?_
    show AW l (pI pg 17) P kc ks 15 _ _ SHF _
    refine AW.lastP (by decide) (dq rfl) rfl (o3 h1) ?_
    show AW l (pI pg 17) P kc ks 16 _ _ SHF _
    refine AW.iinc (dq rfl) rfl (by decide +kernel) ?_
    show AW l (pI pg 17) P kc ks 19 [(3, .int ((nI i) + Int32.ofInt 1)), (0, .ref 34), (1, .long (f)), (4, .int (Int32.ofNat 256))] [] SHF _
    refine AW.goto (dq rfl) (tgt := 6) (by decide) ?_
    refine AW.drop (lv' := [(0, .ref 34), (1, .long (f)), (3, .int ((nI i) + Int32.ofInt 1)), (4, .int (Int32.ofNat 256))]) (List.forall_mem_cons.mpr ⟨List.mem_of_getElem? (i := 1) rfl, List.forall_mem_cons.mpr ⟨List.mem_of_getElem? (i := 2) rfl, List.forall_mem_cons.mpr ⟨List.mem_of_getElem? (i := 0) rfl, List.forall_mem_cons.mpr ⟨List.mem_of_getElem? (i := 3) rfl, fun _ h => absurd h List.not_mem_nil⟩⟩⟩⟩) ?_
    exact k4 h1

theorem fiJ35_0 {l : aL} {P : aP} {kc ks : Nat} {f : Int64} {M : aM}  (hl0 : l.1.stackTraces = false) (k1 : AW l (pI pg 17) P kc ks 6 [(0, .ref 35), (1, .long (f)), (3, .int (Int32.ofInt 0)), (4, .int (Int32.ofNat 9))] [] SHF M) : AW l (pI pg 17) P kc ks 0 [(0, .ref 35), (1, .long (f))] [] SHF M := by
  refine AW.iconst (dq rfl) ?_
  show AW l (pI pg 17) P kc ks 1 _ _ SHF _
  refine AW.istore_n (dq rfl) (by decide +kernel) ?_
  show AW l (pI pg 17) P kc ks 2 [(3, .int (Int32.ofInt 0)), (0, .ref 35), (1, .long (f))] [] SHF _
  refine AW.aload_n (dq rfl) rfl rfl ?_
  show AW l (pI pg 17) P kc ks 3 _ _ SHF _
  refine AW.alen (dq rfl) rfl ?_
  show AW l (pI pg 17) P kc ks 4 _ _ SHF _
  refine AW.istore (dq rfl) (by decide +kernel) ?_
  show AW l (pI pg 17) P kc ks 6 [(4, .int (Int32.ofNat 9)), (3, .int (Int32.ofInt 0)), (0, .ref 35), (1, .long (f))] [] SHF _
  refine AW.drop (lv' := [(0, .ref 35), (1, .long (f)), (3, .int (Int32.ofInt 0)), (4, .int (Int32.ofNat 9))]) (List.forall_mem_cons.mpr ⟨List.mem_of_getElem? (i := 2) rfl, List.forall_mem_cons.mpr ⟨List.mem_of_getElem? (i := 3) rfl, List.forall_mem_cons.mpr ⟨List.mem_of_getElem? (i := 1) rfl, List.forall_mem_cons.mpr ⟨List.mem_of_getElem? (i := 0) rfl, fun _ h => absurd h List.not_mem_nil⟩⟩⟩⟩) ?_
  exact k1

theorem fiJ35_6 {l : aL} {P : aP} {kc ks : Nat} {i : Nat} {f : Int64} {M : aM}  (hl0 : l.1.stackTraces = false) (r2 : ∀ (h1 : (Int32.ofNat 9 : Int32) ≤ (nI i : Int32)), P (.inl none) SHF M) (o3 : ∀ (h1 : ¬ ((Int32.ofNat 9 : Int32) ≤ (nI i : Int32))), vp_in (nI i) 9) (k4 : ∀ (h1 : ¬ ((Int32.ofNat 9 : Int32) ≤ (nI i : Int32))), AW l (pI pg 17) P kc ks 6 [(0, .ref 35), (1, .long (f)), (3, .int ((nI i) + Int32.ofInt 1)), (4, .int (Int32.ofNat 9))] [] SHF (asL M 35 (nI i).toNatClampNeg (f))) : AW l (pI pg 17) P kc ks 6 [(0, .ref 35), (1, .long (f)), (3, .int (nI i)), (4, .int (Int32.ofNat 9))] [] SHF M := by
  refine AW.iload_n (dq rfl) rfl ?_
  show AW l (pI pg 17) P kc ks 7 _ _ SHF _
  refine AW.iload (dq rfl) rfl ?_
  show AW l (pI pg 17) P kc ks 9 _ _ SHF _
  refine AW.icmp_ge (dq rfl) (tgt := 22) (by decide) (fun h1 => ?_) (fun h1 => ?_)
  · have _ := h1
    refine AW.vret (dq rfl) rfl ?_
    exact r2 h1
  · have _ := h1
    refine AW.aload_n (dq rfl) rfl rfl ?_
    show AW l (pI pg 17) P kc ks 13 _ _ SHF _
    refine AW.iload_n (dq rfl) rfl ?_
    show AW l (pI pg 17) P kc ks 14 _ _ SHF _
    refine AW.lload_n (dq rfl) rfl ?_
    show AW l (pI pg 17) P kc ks 15 _ _ SHF _
    refine AW.lastP (by decide) (dq rfl) rfl (o3 h1) ?_
    show AW l (pI pg 17) P kc ks 16 _ _ SHF _
    refine AW.iinc (dq rfl) rfl (by decide +kernel) ?_
    show AW l (pI pg 17) P kc ks 19 [(3, .int ((nI i) + Int32.ofInt 1)), (0, .ref 35), (1, .long (f)), (4, .int (Int32.ofNat 9))] [] SHF _
    refine AW.goto (dq rfl) (tgt := 6) (by decide) ?_
    refine AW.drop (lv' := [(0, .ref 35), (1, .long (f)), (3, .int ((nI i) + Int32.ofInt 1)), (4, .int (Int32.ofNat 9))]) (List.forall_mem_cons.mpr ⟨List.mem_of_getElem? (i := 1) rfl, List.forall_mem_cons.mpr ⟨List.mem_of_getElem? (i := 2) rfl, List.forall_mem_cons.mpr ⟨List.mem_of_getElem? (i := 0) rfl, List.forall_mem_cons.mpr ⟨List.mem_of_getElem? (i := 3) rfl, fun _ h => absurd h List.not_mem_nil⟩⟩⟩⟩) ?_
    exact k4 h1

theorem cls_0 {l : aL} {P : aP} {kc ks : Nat} {x y : Int32} {M : aM} (hJ : ∀ e ∈ RM, M.2.2 e.1 e.2.1 = e.2.2) (hl0 : l.1.stackTraces = false) (o1 : vp_in (x) 8) (o2 : vp_in (y) 8) (r4 : ∀ (h3 : ((M.1 61 (y).toNatClampNeg) + (M.1 62 (y).toNatClampNeg) : Int32) ≤ (M.1 61 (x).toNatClampNeg : Int32)), P (.inl (some (.int (Int32.ofInt 0)))) SHF M) (r6 : ∀ (h3 : ¬ (((M.1 61 (y).toNatClampNeg) + (M.1 62 (y).toNatClampNeg) : Int32) ≤ (M.1 61 (x).toNatClampNeg : Int32))), ∀ (h5 : ((M.1 61 (x).toNatClampNeg) + (M.1 62 (x).toNatClampNeg) : Int32) ≤ (M.1 61 (y).toNatClampNeg : Int32)), P (.inl (some (.int (Int32.ofInt 0)))) SHF M) (r7 : ∀ (h3 : ¬ (((M.1 61 (y).toNatClampNeg) + (M.1 62 (y).toNatClampNeg) : Int32) ≤ (M.1 61 (x).toNatClampNeg : Int32))), ∀ (h5 : ¬ (((M.1 61 (x).toNatClampNeg) + (M.1 62 (x).toNatClampNeg) : Int32) ≤ (M.1 61 (y).toNatClampNeg : Int32))), P (.inl (some (.int (Int32.ofInt 1)))) SHF M) : AW l (pI pg 207) P kc ks 0 [(0, .ref 58), (1, .int (x)), (2, .int (y))] [] SHF M := by
  refine AW.aload_n (dq rfl) rfl rfl ?_
  show AW l (pI pg 207) P kc ks 1 _ _ SHF _
  refine fw_get (dq rfl) (pg_ok.2.1 207 _ _ _ _ rfl) rfl (v := .ref 61) (isTA_ok rfl (rgR_ok hJ rfl)) ?_
  show AW l (pI pg 207) P kc ks 4 _ _ SHF _
  refine AW.iload_n (dq rfl) rfl ?_
  show AW l (pI pg 207) P kc ks 5 _ _ SHF _
  refine AW.iald (dq rfl) rfl (o1) ?_
  show AW l (pI pg 207) P kc ks 6 _ _ SHF _
  refine AW.aload_n (dq rfl) rfl rfl ?_
  show AW l (pI pg 207) P kc ks 7 _ _ SHF _
  refine fw_get (dq rfl) (pg_ok.2.1 207 _ _ _ _ rfl) rfl (v := .ref 61) (isTA_ok rfl (rgR_ok hJ rfl)) ?_
  show AW l (pI pg 207) P kc ks 10 _ _ SHF _
  refine AW.iload_n (dq rfl) rfl ?_
  show AW l (pI pg 207) P kc ks 11 _ _ SHF _
  refine AW.iald (dq rfl) rfl (o2) ?_
  show AW l (pI pg 207) P kc ks 12 _ _ SHF _
  refine AW.aload_n (dq rfl) rfl rfl ?_
  show AW l (pI pg 207) P kc ks 13 _ _ SHF _
  refine fw_get (dq rfl) (pg_ok.2.1 207 _ _ _ _ rfl) rfl (v := .ref 62) (isTA_ok rfl (rgR_ok hJ rfl)) ?_
  show AW l (pI pg 207) P kc ks 16 _ _ SHF _
  refine AW.iload_n (dq rfl) rfl ?_
  show AW l (pI pg 207) P kc ks 17 _ _ SHF _
  refine AW.iald (dq rfl) rfl (o2) ?_
  show AW l (pI pg 207) P kc ks 18 _ _ SHF _
  refine AW.iadd (dq rfl) ?_
  show AW l (pI pg 207) P kc ks 19 _ _ SHF _
  refine AW.icmp_ge (dq rfl) (tgt := 48) (by decide) (fun h3 => ?_) (fun h3 => ?_)
  · have _ := h3
    refine AW.iconst (dq rfl) ?_
    show AW l (pI pg 207) P kc ks 49 _ _ SHF _
    refine AW.zret (dq rfl) rfl (by decide) ?_
    exact r4 h3
  · have _ := h3
    refine AW.aload_n (dq rfl) rfl rfl ?_
    show AW l (pI pg 207) P kc ks 23 _ _ SHF _
    refine fw_get (dq rfl) (pg_ok.2.1 207 _ _ _ _ rfl) rfl (v := .ref 61) (isTA_ok rfl (rgR_ok hJ rfl)) ?_
    show AW l (pI pg 207) P kc ks 26 _ _ SHF _
    refine AW.iload_n (dq rfl) rfl ?_
    show AW l (pI pg 207) P kc ks 27 _ _ SHF _
    refine AW.iald (dq rfl) rfl (o2) ?_
    show AW l (pI pg 207) P kc ks 28 _ _ SHF _
    refine AW.aload_n (dq rfl) rfl rfl ?_
    show AW l (pI pg 207) P kc ks 29 _ _ SHF _
    refine fw_get (dq rfl) (pg_ok.2.1 207 _ _ _ _ rfl) rfl (v := .ref 61) (isTA_ok rfl (rgR_ok hJ rfl)) ?_
    show AW l (pI pg 207) P kc ks 32 _ _ SHF _
    refine AW.iload_n (dq rfl) rfl ?_
    show AW l (pI pg 207) P kc ks 33 _ _ SHF _
    refine AW.iald (dq rfl) rfl (o1) ?_
    show AW l (pI pg 207) P kc ks 34 _ _ SHF _
    refine AW.aload_n (dq rfl) rfl rfl ?_
    show AW l (pI pg 207) P kc ks 35 _ _ SHF _
    refine fw_get (dq rfl) (pg_ok.2.1 207 _ _ _ _ rfl) rfl (v := .ref 62) (isTA_ok rfl (rgR_ok hJ rfl)) ?_
    show AW l (pI pg 207) P kc ks 38 _ _ SHF _
    refine AW.iload_n (dq rfl) rfl ?_
    show AW l (pI pg 207) P kc ks 39 _ _ SHF _
    refine AW.iald (dq rfl) rfl (o1) ?_
    show AW l (pI pg 207) P kc ks 40 _ _ SHF _
    refine AW.iadd (dq rfl) ?_
    show AW l (pI pg 207) P kc ks 41 _ _ SHF _
    refine AW.icmp_ge (dq rfl) (tgt := 48) (by decide) (fun h5 => ?_) (fun h5 => ?_)
    · have _ := h5
      refine AW.iconst (dq rfl) ?_
      show AW l (pI pg 207) P kc ks 49 _ _ SHF _
      refine AW.zret (dq rfl) rfl (by decide) ?_
      exact r6 h3 h5
    · have _ := h5
      refine AW.iconst (dq rfl) ?_
      show AW l (pI pg 207) P kc ks 45 _ _ SHF _
      refine AW.goto (dq rfl) (tgt := 49) (by decide) ?_
      refine AW.zret (dq rfl) rfl (by decide) ?_
      exact r7 h3 h5

theorem fts_0 {l : aL} {P : aP} {kc ks : Nat} {x y : Int32} {M : aM} (hJ : ∀ e ∈ RM, M.2.2 e.1 e.2.1 = e.2.2) (hl0 : l.1.stackTraces = false) (k1 : AW l (pI pg 206) P kc ks 5 [(4, .int (Int32.ofInt 0)), (3, .int (Int32.ofInt 0)), (2, .int (y)), (1, .int (x)), (0, .ref 58)] [] SHF M) : AW l (pI pg 206) P kc ks 0 [(0, .ref 58), (1, .int (x)), (2, .int (y))] [] SHF M := by
  refine AW.iconst (dq rfl) ?_
  show AW l (pI pg 206) P kc ks 1 _ _ SHF _
  refine AW.istore_n (dq rfl) (by decide +kernel) ?_
  show AW l (pI pg 206) P kc ks 2 [(3, .int (Int32.ofInt 0)), (0, .ref 58), (1, .int (x)), (2, .int (y))] [] SHF _
  refine AW.iconst (dq rfl) ?_
  show AW l (pI pg 206) P kc ks 3 _ _ SHF _
  refine AW.istore (dq rfl) (by decide +kernel) ?_
  show AW l (pI pg 206) P kc ks 5 [(4, .int (Int32.ofInt 0)), (3, .int (Int32.ofInt 0)), (0, .ref 58), (1, .int (x)), (2, .int (y))] [] SHF _
  refine AW.drop (lv' := [(4, .int (Int32.ofInt 0)), (3, .int (Int32.ofInt 0)), (2, .int (y)), (1, .int (x)), (0, .ref 58)]) (List.forall_mem_cons.mpr ⟨List.mem_of_getElem? (i := 0) rfl, List.forall_mem_cons.mpr ⟨List.mem_of_getElem? (i := 1) rfl, List.forall_mem_cons.mpr ⟨List.mem_of_getElem? (i := 4) rfl, List.forall_mem_cons.mpr ⟨List.mem_of_getElem? (i := 3) rfl, List.forall_mem_cons.mpr ⟨List.mem_of_getElem? (i := 2) rfl, fun _ h => absurd h List.not_mem_nil⟩⟩⟩⟩⟩) ?_
  exact k1

theorem fts_5 {l : aL} {P : aP} {kc ks : Nat} {a : Nat} {v x y : Int32} {M : aM} (hJ : ∀ e ∈ RM, M.2.2 e.1 e.2.1 = e.2.2) (hl0 : l.1.stackTraces = false) (r3 : ∀ (h1 : (M.1 58 2 : Int32) ≤ (nI a : Int32)), ∀ (h2 : (y : Int32) < (v : Int32)), P (.inl (some (.int (Int32.ofInt 0)))) SHF M) (r4 : ∀ (h1 : (M.1 58 2 : Int32) ≤ (nI a : Int32)), ∀ (h2 : ¬ ((y : Int32) < (v : Int32))), P (.inl (some (.int (Int32.ofInt 1)))) SHF M) (o6 : ∀ (h1 : ¬ ((M.1 58 2 : Int32) ≤ (nI a : Int32))), ∀ (h5 : ¬ (((x) >>> ((nI a) &&& 31)) &&& (Int32.ofInt 1) : Int32) = 0), vp_in (nI a) 8) (k7 : ∀ (h1 : ¬ ((M.1 58 2 : Int32) ≤ (nI a : Int32))), ∀ (h5 : ¬ (((x) >>> ((nI a) &&& 31)) &&& (Int32.ofInt 1) : Int32) = 0), AW l (pI pg 206) P kc ks 39 [(5, .int (Int32.ofInt 0)), (4, .int (nI a)), (3, .int ((v) + (M.1 62 (nI a).toNatClampNeg))), (2, .int (y)), (1, .int (x)), (0, .ref 58)] [] SHF M) (k8 : ∀ (h1 : ¬ ((M.1 58 2 : Int32) ≤ (nI a : Int32))), ∀ (h5 : (((x) >>> ((nI a) &&& 31)) &&& (Int32.ofInt 1) : Int32) = 0), AW l (pI pg 206) P kc ks 5 [(4, .int ((nI a) + Int32.ofInt 1)), (3, .int (v)), (2, .int (y)), (1, .int (x)), (0, .ref 58)] [] SHF M) : AW l (pI pg 206) P kc ks 5 [(4, .int (nI a)), (3, .int (v)), (2, .int (y)), (1, .int (x)), (0, .ref 58)] [] SHF M := by
  refine AW.iload (dq rfl) rfl ?_
  show AW l (pI pg 206) P kc ks 7 _ _ SHF _
  refine AW.aload_n (dq rfl) rfl rfl ?_
  show AW l (pI pg 206) P kc ks 8 _ _ SHF _
  refine fw_get (dq rfl) (pg_ok.2.1 206 _ _ _ _ rfl) rfl (v := .int (M.1 58 2)) rfl ?_
  show AW l (pI pg 206) P kc ks 11 _ _ SHF _
  refine AW.icmp_ge (dq rfl) (tgt := 81) (by decide) (fun h1 => ?_) (fun h1 => ?_)
  · have _ := h1
    refine AW.iload_n (dq rfl) rfl ?_
    show AW l (pI pg 206) P kc ks 82 _ _ SHF _
    refine AW.iload_n (dq rfl) rfl ?_
    show AW l (pI pg 206) P kc ks 83 _ _ SHF _
    refine AW.icmp_gt (dq rfl) (tgt := 90) (by decide) (fun h2 => ?_) (fun h2 => ?_)
    · have _ := h2
      refine AW.iconst (dq rfl) ?_
      show AW l (pI pg 206) P kc ks 91 _ _ SHF _
      refine AW.zret (dq rfl) rfl (by decide) ?_
      exact r3 h1 h2
    · have _ := h2
      refine AW.iconst (dq rfl) ?_
      show AW l (pI pg 206) P kc ks 87 _ _ SHF _
      refine AW.goto (dq rfl) (tgt := 91) (by decide) ?_
      refine AW.zret (dq rfl) rfl (by decide) ?_
      exact r4 h1 h2
  · have _ := h1
    refine AW.iload_n (dq rfl) rfl ?_
    show AW l (pI pg 206) P kc ks 15 _ _ SHF _
    refine AW.iload (dq rfl) rfl ?_
    show AW l (pI pg 206) P kc ks 17 _ _ SHF _
    refine AW.ishr (dq rfl) ?_
    show AW l (pI pg 206) P kc ks 18 _ _ SHF _
    refine AW.iconst (dq rfl) ?_
    show AW l (pI pg 206) P kc ks 19 _ _ SHF _
    refine AW.iand (dq rfl) ?_
    show AW l (pI pg 206) P kc ks 20 _ _ SHF _
    refine AW.if_ne (dq rfl) (tgt := 26) (by decide) (fun h5 => ?_) (fun h5 => ?_)
    · have _ := h5
      refine AW.iload_n (dq rfl) rfl ?_
      show AW l (pI pg 206) P kc ks 27 _ _ SHF _
      refine AW.aload_n (dq rfl) rfl rfl ?_
      show AW l (pI pg 206) P kc ks 28 _ _ SHF _
      refine fw_get (dq rfl) (pg_ok.2.1 206 _ _ _ _ rfl) rfl (v := .ref 62) (isTA_ok rfl (rgR_ok hJ rfl)) ?_
      show AW l (pI pg 206) P kc ks 31 _ _ SHF _
      refine AW.iload (dq rfl) rfl ?_
      show AW l (pI pg 206) P kc ks 33 _ _ SHF _
      refine AW.iald (dq rfl) rfl (o6 h1 h5) ?_
      show AW l (pI pg 206) P kc ks 34 _ _ SHF _
      refine AW.iadd (dq rfl) ?_
      show AW l (pI pg 206) P kc ks 35 _ _ SHF _
      refine AW.istore_n (dq rfl) (by decide +kernel) ?_
      show AW l (pI pg 206) P kc ks 36 [(3, .int ((v) + (M.1 62 (nI a).toNatClampNeg))), (4, .int (nI a)), (2, .int (y)), (1, .int (x)), (0, .ref 58)] [] SHF _
      refine AW.iconst (dq rfl) ?_
      show AW l (pI pg 206) P kc ks 37 _ _ SHF _
      refine AW.istore (dq rfl) (by decide +kernel) ?_
      show AW l (pI pg 206) P kc ks 39 [(5, .int (Int32.ofInt 0)), (3, .int ((v) + (M.1 62 (nI a).toNatClampNeg))), (4, .int (nI a)), (2, .int (y)), (1, .int (x)), (0, .ref 58)] [] SHF _
      refine AW.drop (lv' := [(5, .int (Int32.ofInt 0)), (4, .int (nI a)), (3, .int ((v) + (M.1 62 (nI a).toNatClampNeg))), (2, .int (y)), (1, .int (x)), (0, .ref 58)]) (List.forall_mem_cons.mpr ⟨List.mem_of_getElem? (i := 0) rfl, List.forall_mem_cons.mpr ⟨List.mem_of_getElem? (i := 2) rfl, List.forall_mem_cons.mpr ⟨List.mem_of_getElem? (i := 1) rfl, List.forall_mem_cons.mpr ⟨List.mem_of_getElem? (i := 3) rfl, List.forall_mem_cons.mpr ⟨List.mem_of_getElem? (i := 4) rfl, List.forall_mem_cons.mpr ⟨List.mem_of_getElem? (i := 5) rfl, fun _ h => absurd h List.not_mem_nil⟩⟩⟩⟩⟩⟩) ?_
      exact k7 h1 h5
    · have _ := h5
      refine AW.goto (dq rfl) (tgt := 75) (by decide) ?_
      refine AW.iinc (dq rfl) rfl (by decide +kernel) ?_
      show AW l (pI pg 206) P kc ks 78 [(4, .int ((nI a) + Int32.ofInt 1)), (3, .int (v)), (2, .int (y)), (1, .int (x)), (0, .ref 58)] [] SHF _
      refine AW.goto (dq rfl) (tgt := 5) (by decide) ?_
      refine AW.drop (lv' := [(4, .int ((nI a) + Int32.ofInt 1)), (3, .int (v)), (2, .int (y)), (1, .int (x)), (0, .ref 58)]) (List.forall_mem_cons.mpr ⟨List.mem_of_getElem? (i := 0) rfl, List.forall_mem_cons.mpr ⟨List.mem_of_getElem? (i := 1) rfl, List.forall_mem_cons.mpr ⟨List.mem_of_getElem? (i := 2) rfl, List.forall_mem_cons.mpr ⟨List.mem_of_getElem? (i := 3) rfl, List.forall_mem_cons.mpr ⟨List.mem_of_getElem? (i := 4) rfl, fun _ h => absurd h List.not_mem_nil⟩⟩⟩⟩⟩) ?_
      exact k8 h1 h5

theorem fts_39 {l : aL} {P : aP} {kc ks : Nat} {a b : Nat} {v x y : Int32} {M : aM} (hJ : ∀ e ∈ RM, M.2.2 e.1 e.2.1 = e.2.2) (hl0 : l.1.stackTraces = false) (k2 : ∀ (h1 : (nI a : Int32) ≤ (nI b : Int32)), AW l (pI pg 206) P kc ks 5 [(4, .int ((nI a) + Int32.ofInt 1)), (3, .int (v)), (2, .int (y)), (1, .int (x)), (0, .ref 58)] [] SHF M) (k4 : ∀ (h1 : ¬ ((nI a : Int32) ≤ (nI b : Int32))), ∀ (h3 : ¬ (((x) >>> ((nI b) &&& 31)) &&& (Int32.ofInt 1) : Int32) = (Int32.ofInt 1 : Int32)), AW l (pI pg 206) P kc ks 39 [(5, .int ((nI b) + Int32.ofInt 1)), (4, .int (nI a)), (3, .int (v)), (2, .int (y)), (1, .int (x)), (0, .ref 58)] [] SHF M) (Q5 : Int32 → aM → Prop) (c6 : ∀ (h1 : ¬ ((nI a : Int32) ≤ (nI b : Int32))), ∀ (h3 : (((x) >>> ((nI b) &&& 31)) &&& (Int32.ofInt 1) : Int32) = (Int32.ofInt 1 : Int32)), AC l (pI pg 207) (fcI M Q5) 0 0 [.ref 58, .int (nI a), .int (nI b)] SHF M) (k8 : ∀ (h1 : ¬ ((nI a : Int32) ≤ (nI b : Int32))), ∀ (h3 : (((x) >>> ((nI b) &&& 31)) &&& (Int32.ofInt 1) : Int32) = (Int32.ofInt 1 : Int32)), ∀ (y5 : Int32), ∀ (M5 : aM), ∀ (e5 : M5.2.2 = M.2.2), ∀ (q5 : Q5 y5 M5), ∀ (h7 : (y5 : Int32) = 0), AW l (pI pg 206) P kc ks 39 [(5, .int ((nI b) + Int32.ofInt 1)), (4, .int (nI a)), (3, .int (v)), (2, .int (y)), (1, .int (x)), (0, .ref 58)] [] SHF M5) (r9 : ∀ (h1 : ¬ ((nI a : Int32) ≤ (nI b : Int32))), ∀ (h3 : (((x) >>> ((nI b) &&& 31)) &&& (Int32.ofInt 1) : Int32) = (Int32.ofInt 1 : Int32)), ∀ (y5 : Int32), ∀ (M5 : aM), ∀ (e5 : M5.2.2 = M.2.2), ∀ (q5 : Q5 y5 M5), ∀ (h7 : ¬ ((y5 : Int32) = 0)), P (.inl (some (.int (Int32.ofInt 0)))) SHF M5) : AW l (pI pg 206) P kc ks 39 [(5, .int (nI b)), (4, .int (nI a)), (3, .int (v)), (2, .int (y)), (1, .int (x)), (0, .ref 58)] [] SHF M := by
  refine AW.iload (dq rfl) rfl ?_
  show AW l (pI pg 206) P kc ks 41 _ _ SHF _
  refine AW.iload (dq rfl) rfl ?_
  show AW l (pI pg 206) P kc ks 43 _ _ SHF _
  refine AW.icmp_ge (dq rfl) (tgt := 75) (by decide) (fun h1 => ?_) (fun h1 => ?_)
  · have _ := h1
    refine AW.iinc (dq rfl) rfl (by decide +kernel) ?_
    show AW l (pI pg 206) P kc ks 78 [(4, .int ((nI a) + Int32.ofInt 1)), (5, .int (nI b)), (3, .int (v)), (2, .int (y)), (1, .int (x)), (0, .ref 58)] [] SHF _
    refine AW.goto (dq rfl) (tgt := 5) (by decide) ?_
    refine AW.drop (lv' := [(4, .int ((nI a) + Int32.ofInt 1)), (3, .int (v)), (2, .int (y)), (1, .int (x)), (0, .ref 58)]) (List.forall_mem_cons.mpr ⟨List.mem_of_getElem? (i := 0) rfl, List.forall_mem_cons.mpr ⟨List.mem_of_getElem? (i := 2) rfl, List.forall_mem_cons.mpr ⟨List.mem_of_getElem? (i := 3) rfl, List.forall_mem_cons.mpr ⟨List.mem_of_getElem? (i := 4) rfl, List.forall_mem_cons.mpr ⟨List.mem_of_getElem? (i := 5) rfl, fun _ h => absurd h List.not_mem_nil⟩⟩⟩⟩⟩) ?_
    exact k2 h1
  · have _ := h1
    refine AW.iload_n (dq rfl) rfl ?_
    show AW l (pI pg 206) P kc ks 47 _ _ SHF _
    refine AW.iload (dq rfl) rfl ?_
    show AW l (pI pg 206) P kc ks 49 _ _ SHF _
    refine AW.ishr (dq rfl) ?_
    show AW l (pI pg 206) P kc ks 50 _ _ SHF _
    refine AW.iconst (dq rfl) ?_
    show AW l (pI pg 206) P kc ks 51 _ _ SHF _
    refine AW.iand (dq rfl) ?_
    show AW l (pI pg 206) P kc ks 52 _ _ SHF _
    refine AW.iconst (dq rfl) ?_
    show AW l (pI pg 206) P kc ks 53 _ _ SHF _
    refine AW.icmp_ne (dq rfl) (tgt := 69) (by decide) (fun h3 => ?_) (fun h3 => ?_)
    · have _ := h3
      refine AW.iinc (dq rfl) rfl (by decide +kernel) ?_
      show AW l (pI pg 206) P kc ks 72 [(5, .int ((nI b) + Int32.ofInt 1)), (4, .int (nI a)), (3, .int (v)), (2, .int (y)), (1, .int (x)), (0, .ref 58)] [] SHF _
      refine AW.goto (dq rfl) (tgt := 39) (by decide) ?_
      refine AW.drop (lv' := [(5, .int ((nI b) + Int32.ofInt 1)), (4, .int (nI a)), (3, .int (v)), (2, .int (y)), (1, .int (x)), (0, .ref 58)]) (List.forall_mem_cons.mpr ⟨List.mem_of_getElem? (i := 0) rfl, List.forall_mem_cons.mpr ⟨List.mem_of_getElem? (i := 1) rfl, List.forall_mem_cons.mpr ⟨List.mem_of_getElem? (i := 2) rfl, List.forall_mem_cons.mpr ⟨List.mem_of_getElem? (i := 3) rfl, List.forall_mem_cons.mpr ⟨List.mem_of_getElem? (i := 4) rfl, List.forall_mem_cons.mpr ⟨List.mem_of_getElem? (i := 5) rfl, fun _ h => absurd h List.not_mem_nil⟩⟩⟩⟩⟩⟩) ?_
      exact k4 h1 h3
    · have _ := h3
      refine AW.aload_n (dq rfl) rfl rfl ?_
      show AW l (pI pg 206) P kc ks 57 _ _ SHF _
      refine AW.iload (dq rfl) rfl ?_
      show AW l (pI pg 206) P kc ks 59 _ _ SHF _
      refine AW.iload (dq rfl) rfl ?_
      show AW l (pI pg 206) P kc ks 61 _ _ SHF _
      refine fw_callVI (as := [.int (nI a), .int (nI b)]) (dq rfl) (pg_ok.2.2.1 206 _ _ _ _ rfl) rfl (by decide +kernel) rfl rfl (c6 h1 h3) (fun y5 M5 e5 q5 => ?_)
      have hJ5 : ∀ e ∈ RM, M5.2.2 e.1 e.2.1 = e.2.2 := fun e he => by rw [e5]; exact hJ e he
      show AW l (pI pg 206) P kc ks 64 [(5, .int (nI b)), (4, .int (nI a)), (3, .int (v)), (2, .int (y)), (1, .int (x)), (0, .ref 58)] [.int (y5)] SHF _
      refine AW.if_eq (dq rfl) (tgt := 69) (by decide) (fun h7 => ?_) (fun h7 => ?_)
      · have _ := h7
        refine AW.iinc (dq rfl) rfl (by decide +kernel) ?_
        show AW l (pI pg 206) P kc ks 72 [(5, .int ((nI b) + Int32.ofInt 1)), (4, .int (nI a)), (3, .int (v)), (2, .int (y)), (1, .int (x)), (0, .ref 58)] [] SHF _
        refine AW.goto (dq rfl) (tgt := 39) (by decide) ?_
        refine AW.drop (lv' := [(5, .int ((nI b) + Int32.ofInt 1)), (4, .int (nI a)), (3, .int (v)), (2, .int (y)), (1, .int (x)), (0, .ref 58)]) (List.forall_mem_cons.mpr ⟨List.mem_of_getElem? (i := 0) rfl, List.forall_mem_cons.mpr ⟨List.mem_of_getElem? (i := 1) rfl, List.forall_mem_cons.mpr ⟨List.mem_of_getElem? (i := 2) rfl, List.forall_mem_cons.mpr ⟨List.mem_of_getElem? (i := 3) rfl, List.forall_mem_cons.mpr ⟨List.mem_of_getElem? (i := 4) rfl, List.forall_mem_cons.mpr ⟨List.mem_of_getElem? (i := 5) rfl, fun _ h => absurd h List.not_mem_nil⟩⟩⟩⟩⟩⟩) ?_
        exact k8 h1 h3 y5 M5 e5 q5 h7
      · have _ := h7
        refine AW.iconst (dq rfl) ?_
        show AW l (pI pg 206) P kc ks 68 _ _ SHF _
        refine AW.zret (dq rfl) rfl (by decide) ?_
        exact r9 h1 h3 y5 M5 e5 q5 h7

theorem lof_0 {l : aL} {P : aP} {kc ks : Nat} {x y : Int32} {M : aM} (hJ : ∀ e ∈ RM, M.2.2 e.1 e.2.1 = e.2.2) (hl0 : l.1.stackTraces = false) (o1 : vp_in (x) 6) (k2 : AW l (pI pg 205) P kc ks 9 [(3, .int (Int32.ofInt 0)), (2, .int (y)), (1, .int (x)), (0, .ref 58)] [] SHF (aset M 74 (x).toNatClampNeg (.int (Int32.ofInt 0)))) : AW l (pI pg 205) P kc ks 0 [(0, .ref 58), (1, .int (x)), (2, .int (y))] [] SHF M := by
  refine AW.aload_n (dq rfl) rfl rfl ?_
  show AW l (pI pg 205) P kc ks 1 _ _ SHF _
  refine fw_get (dq rfl) (pg_ok.2.1 205 _ _ _ _ rfl) rfl (v := .ref 74) (isTA_ok rfl (rgR_ok hJ rfl)) ?_
  show AW l (pI pg 205) P kc ks 4 _ _ SHF _
  refine AW.iload_n (dq rfl) rfl ?_
  show AW l (pI pg 205) P kc ks 5 _ _ SHF _
  refine AW.iconst (dq rfl) ?_
  show AW l (pI pg 205) P kc ks 6 _ _ SHF _
  refine AW.iast (dq rfl) rfl (o1) ?_
  show AW l (pI pg 205) P kc ks 7 _ _ SHF _
  refine AW.iconst (dq rfl) ?_
  show AW l (pI pg 205) P kc ks 8 _ _ SHF _
  refine AW.istore_n (dq rfl) (by decide +kernel) ?_
  show AW l (pI pg 205) P kc ks 9 [(3, .int (Int32.ofInt 0)), (0, .ref 58), (1, .int (x)), (2, .int (y))] [] SHF _
  refine AW.drop (lv' := [(3, .int (Int32.ofInt 0)), (2, .int (y)), (1, .int (x)), (0, .ref 58)]) (List.forall_mem_cons.mpr ⟨List.mem_of_getElem? (i := 0) rfl, List.forall_mem_cons.mpr ⟨List.mem_of_getElem? (i := 3) rfl, List.forall_mem_cons.mpr ⟨List.mem_of_getElem? (i := 2) rfl, List.forall_mem_cons.mpr ⟨List.mem_of_getElem? (i := 1) rfl, fun _ h => absurd h List.not_mem_nil⟩⟩⟩⟩) ?_
  exact k2

theorem lof_9 {l : aL} {P : aP} {kc ks : Nat} {s : Nat} {x y : Int32} {M : aM} (hJ : ∀ e ∈ RM, M.2.2 e.1 e.2.1 = e.2.2) (hl0 : l.1.stackTraces = false) (r2 : ∀ (h1 : ((Int32.ofInt 1) <<< ((M.1 58 2) &&& 31) : Int32) ≤ (nI s : Int32)), P (.inl none) SHF M) (k4 : ∀ (h1 : ¬ (((Int32.ofInt 1) <<< ((M.1 58 2) &&& 31) : Int32) ≤ (nI s : Int32))), ∀ (h3 : ¬ ((nI s) &&& ((y) ^^^ (Int32.ofInt (-1))) : Int32) = 0), AW l (pI pg 205) P kc ks 9 [(3, .int ((nI s) + Int32.ofInt 1)), (2, .int (y)), (1, .int (x)), (0, .ref 58)] [] SHF M) (o5 : ∀ (h1 : ¬ (((Int32.ofInt 1) <<< ((M.1 58 2) &&& 31) : Int32) ≤ (nI s : Int32))), ∀ (h3 : ((nI s) &&& ((y) ^^^ (Int32.ofInt (-1))) : Int32) = 0), vp_in (x) 6) (Q6 : Int32 → aM → Prop) (c7 : ∀ (h1 : ¬ (((Int32.ofInt 1) <<< ((M.1 58 2) &&& 31) : Int32) ≤ (nI s : Int32))), ∀ (h3 : ((nI s) &&& ((y) ^^^ (Int32.ofInt (-1))) : Int32) = 0), AC l (pI pg 206) (fcI M Q6) 0 0 [.ref 58, .int (nI s), .int (M.1 59 (x).toNatClampNeg)] SHF M) (o9 : ∀ (h1 : ¬ (((Int32.ofInt 1) <<< ((M.1 58 2) &&& 31) : Int32) ≤ (nI s : Int32))), ∀ (h3 : ((nI s) &&& ((y) ^^^ (Int32.ofInt (-1))) : Int32) = 0), ∀ (y6 : Int32), ∀ (M6 : aM), ∀ (e6 : M6.2.2 = M.2.2), ∀ (q6 : Q6 y6 M6), ∀ (h8 : ¬ (y6 : Int32) = 0), vp_in ((((Int16.ofInt 256).toInt32) * (x)) + (M6.1 74 (x).toNatClampNeg)) 1536) (k10 : ∀ (h1 : ¬ (((Int32.ofInt 1) <<< ((M.1 58 2) &&& 31) : Int32) ≤ (nI s : Int32))), ∀ (h3 : ((nI s) &&& ((y) ^^^ (Int32.ofInt (-1))) : Int32) = 0), ∀ (y6 : Int32), ∀ (M6 : aM), ∀ (e6 : M6.2.2 = M.2.2), ∀ (q6 : Q6 y6 M6), ∀ (h8 : ¬ (y6 : Int32) = 0), AW l (pI pg 205) P kc ks 9 [(3, .int ((nI s) + Int32.ofInt 1)), (2, .int (y)), (1, .int (x)), (0, .ref 58)] [] SHF (aset (aset M6 73 ((((Int16.ofInt 256).toInt32) * (x)) + (M6.1 74 (x).toNatClampNeg)).toNatClampNeg (.int (nI s))) 74 (x).toNatClampNeg (.int (((aset M6 73 ((((Int16.ofInt 256).toInt32) * (x)) + (M6.1 74 (x).toNatClampNeg)).toNatClampNeg (.int (nI s))).1 74 (x).toNatClampNeg) + (Int32.ofInt 1))))) (k11 : ∀ (h1 : ¬ (((Int32.ofInt 1) <<< ((M.1 58 2) &&& 31) : Int32) ≤ (nI s : Int32))), ∀ (h3 : ((nI s) &&& ((y) ^^^ (Int32.ofInt (-1))) : Int32) = 0), ∀ (y6 : Int32), ∀ (M6 : aM), ∀ (e6 : M6.2.2 = M.2.2), ∀ (q6 : Q6 y6 M6), ∀ (h8 : (y6 : Int32) = 0), AW l (pI pg 205) P kc ks 9 [(3, .int ((nI s) + Int32.ofInt 1)), (2, .int (y)), (1, .int (x)), (0, .ref 58)] [] SHF M6) : AW l (pI pg 205) P kc ks 9 [(3, .int (nI s)), (2, .int (y)), (1, .int (x)), (0, .ref 58)] [] SHF M := by
  refine AW.iload_n (dq rfl) rfl ?_
  show AW l (pI pg 205) P kc ks 10 _ _ SHF _
  refine AW.iconst (dq rfl) ?_
  show AW l (pI pg 205) P kc ks 11 _ _ SHF _
  refine AW.aload_n (dq rfl) rfl rfl ?_
  show AW l (pI pg 205) P kc ks 12 _ _ SHF _
  refine fw_get (dq rfl) (pg_ok.2.1 205 _ _ _ _ rfl) rfl (v := .int (M.1 58 2)) rfl ?_
  show AW l (pI pg 205) P kc ks 15 _ _ SHF _
  refine AW.ishl (dq rfl) ?_
  show AW l (pI pg 205) P kc ks 16 _ _ SHF _
  refine AW.icmp_ge (dq rfl) (tgt := 78) (by decide) (fun h1 => ?_) (fun h1 => ?_)
  · have _ := h1
    refine AW.vret (dq rfl) rfl ?_
    exact r2 h1
  · have _ := h1
    refine AW.iload_n (dq rfl) rfl ?_
    show AW l (pI pg 205) P kc ks 20 _ _ SHF _
    refine AW.iload_n (dq rfl) rfl ?_
    show AW l (pI pg 205) P kc ks 21 _ _ SHF _
    refine AW.iconst (dq rfl) ?_
    show AW l (pI pg 205) P kc ks 22 _ _ SHF _
    refine AW.ixor (dq rfl) ?_
    show AW l (pI pg 205) P kc ks 23 _ _ SHF _
    refine AW.iand (dq rfl) ?_
    show AW l (pI pg 205) P kc ks 24 _ _ SHF _
    refine AW.if_ne (dq rfl) (tgt := 72) (by decide) (fun h3 => ?_) (fun h3 => ?_)
    · have _ := h3
      refine AW.iinc (dq rfl) rfl (by decide +kernel) ?_
      show AW l (pI pg 205) P kc ks 75 [(3, .int ((nI s) + Int32.ofInt 1)), (2, .int (y)), (1, .int (x)), (0, .ref 58)] [] SHF _
      refine AW.goto (dq rfl) (tgt := 9) (by decide) ?_
      refine AW.drop (lv' := [(3, .int ((nI s) + Int32.ofInt 1)), (2, .int (y)), (1, .int (x)), (0, .ref 58)]) (List.forall_mem_cons.mpr ⟨List.mem_of_getElem? (i := 0) rfl, List.forall_mem_cons.mpr ⟨List.mem_of_getElem? (i := 1) rfl, List.forall_mem_cons.mpr ⟨List.mem_of_getElem? (i := 2) rfl, List.forall_mem_cons.mpr ⟨List.mem_of_getElem? (i := 3) rfl, fun _ h => absurd h List.not_mem_nil⟩⟩⟩⟩) ?_
      exact k4 h1 h3
    · have _ := h3
      refine AW.aload_n (dq rfl) rfl rfl ?_
      show AW l (pI pg 205) P kc ks 28 _ _ SHF _
      refine AW.iload_n (dq rfl) rfl ?_
      show AW l (pI pg 205) P kc ks 29 _ _ SHF _
      refine AW.aload_n (dq rfl) rfl rfl ?_
      show AW l (pI pg 205) P kc ks 30 _ _ SHF _
      refine fw_get (dq rfl) (pg_ok.2.1 205 _ _ _ _ rfl) rfl (v := .ref 59) (isTA_ok rfl (rgR_ok hJ rfl)) ?_
      show AW l (pI pg 205) P kc ks 33 _ _ SHF _
      refine AW.iload_n (dq rfl) rfl ?_
      show AW l (pI pg 205) P kc ks 34 _ _ SHF _
      refine AW.iald (dq rfl) rfl (o5 h1 h3) ?_
      show AW l (pI pg 205) P kc ks 35 _ _ SHF _
      refine fw_callVI (as := [.int (nI s), .int (M.1 59 (x).toNatClampNeg)]) (dq rfl) (pg_ok.2.2.1 205 _ _ _ _ rfl) rfl (by decide +kernel) rfl rfl (c7 h1 h3) (fun y6 M6 e6 q6 => ?_)
      have hJ6 : ∀ e ∈ RM, M6.2.2 e.1 e.2.1 = e.2.2 := fun e he => by rw [e6]; exact hJ e he
      show AW l (pI pg 205) P kc ks 38 [(3, .int (nI s)), (2, .int (y)), (1, .int (x)), (0, .ref 58)] [.int (y6)] SHF _
      refine AW.if_ne (dq rfl) (tgt := 44) (by decide) (fun h8 => ?_) (fun h8 => ?_)
      · have _ := h8
        refine AW.aload_n (dq rfl) rfl rfl ?_
        show AW l (pI pg 205) P kc ks 45 _ _ SHF _
        refine fw_get (dq rfl) (pg_ok.2.1 205 _ _ _ _ rfl) rfl (v := .ref 73) (isTA_ok rfl (rgR_ok hJ6 rfl)) ?_
        show AW l (pI pg 205) P kc ks 48 _ _ SHF _
        refine AW.sipush (dq rfl) ?_
        show AW l (pI pg 205) P kc ks 51 _ _ SHF _
        refine AW.iload_n (dq rfl) rfl ?_
        show AW l (pI pg 205) P kc ks 52 _ _ SHF _
        refine AW.imul (dq rfl) ?_
        show AW l (pI pg 205) P kc ks 53 _ _ SHF _
        refine AW.aload_n (dq rfl) rfl rfl ?_
        show AW l (pI pg 205) P kc ks 54 _ _ SHF _
        refine fw_get (dq rfl) (pg_ok.2.1 205 _ _ _ _ rfl) rfl (v := .ref 74) (isTA_ok rfl (rgR_ok hJ6 rfl)) ?_
        show AW l (pI pg 205) P kc ks 57 _ _ SHF _
        refine AW.iload_n (dq rfl) rfl ?_
        show AW l (pI pg 205) P kc ks 58 _ _ SHF _
        refine AW.iald (dq rfl) rfl (o5 h1 h3) ?_
        show AW l (pI pg 205) P kc ks 59 _ _ SHF _
        refine AW.iadd (dq rfl) ?_
        show AW l (pI pg 205) P kc ks 60 _ _ SHF _
        refine AW.iload_n (dq rfl) rfl ?_
        show AW l (pI pg 205) P kc ks 61 _ _ SHF _
        refine AW.iast (dq rfl) rfl (o9 h1 h3 y6 M6 e6 q6 h8) ?_
        show AW l (pI pg 205) P kc ks 62 _ _ SHF _
        refine AW.aload_n (dq rfl) rfl rfl ?_
        show AW l (pI pg 205) P kc ks 63 _ _ SHF _
        refine fw_get (dq rfl) (pg_ok.2.1 205 _ _ _ _ rfl) rfl (v := .ref 74) (isTA_ok rfl (rgR_ok hJ6 rfl)) ?_
        show AW l (pI pg 205) P kc ks 66 _ _ SHF _
        refine AW.iload_n (dq rfl) rfl ?_
        show AW l (pI pg 205) P kc ks 67 _ _ SHF _
        refine AW.dup2_11 (dq rfl) rfl rfl ?_
        show AW l (pI pg 205) P kc ks 68 _ _ SHF _
        refine AW.iald (dq rfl) rfl (o5 h1 h3) ?_
        show AW l (pI pg 205) P kc ks 69 _ _ SHF _
        refine AW.iconst (dq rfl) ?_
        show AW l (pI pg 205) P kc ks 70 _ _ SHF _
        refine AW.iadd (dq rfl) ?_
        show AW l (pI pg 205) P kc ks 71 _ _ SHF _
        refine AW.iast (dq rfl) rfl (o5 h1 h3) ?_
        show AW l (pI pg 205) P kc ks 72 _ _ SHF _
        refine AW.iinc (dq rfl) rfl (by decide +kernel) ?_
        show AW l (pI pg 205) P kc ks 75 [(3, .int ((nI s) + Int32.ofInt 1)), (2, .int (y)), (1, .int (x)), (0, .ref 58)] [] SHF _
        refine AW.goto (dq rfl) (tgt := 9) (by decide) ?_
        refine AW.drop (lv' := [(3, .int ((nI s) + Int32.ofInt 1)), (2, .int (y)), (1, .int (x)), (0, .ref 58)]) (List.forall_mem_cons.mpr ⟨List.mem_of_getElem? (i := 0) rfl, List.forall_mem_cons.mpr ⟨List.mem_of_getElem? (i := 1) rfl, List.forall_mem_cons.mpr ⟨List.mem_of_getElem? (i := 2) rfl, List.forall_mem_cons.mpr ⟨List.mem_of_getElem? (i := 3) rfl, fun _ h => absurd h List.not_mem_nil⟩⟩⟩⟩) ?_
        exact k10 h1 h3 y6 M6 e6 q6 h8
      · have _ := h8
        refine AW.goto (dq rfl) (tgt := 72) (by decide) ?_
        refine AW.iinc (dq rfl) rfl (by decide +kernel) ?_
        show AW l (pI pg 205) P kc ks 75 [(3, .int ((nI s) + Int32.ofInt 1)), (2, .int (y)), (1, .int (x)), (0, .ref 58)] [] SHF _
        refine AW.goto (dq rfl) (tgt := 9) (by decide) ?_
        refine AW.drop (lv' := [(3, .int ((nI s) + Int32.ofInt 1)), (2, .int (y)), (1, .int (x)), (0, .ref 58)]) (List.forall_mem_cons.mpr ⟨List.mem_of_getElem? (i := 0) rfl, List.forall_mem_cons.mpr ⟨List.mem_of_getElem? (i := 1) rfl, List.forall_mem_cons.mpr ⟨List.mem_of_getElem? (i := 2) rfl, List.forall_mem_cons.mpr ⟨List.mem_of_getElem? (i := 3) rfl, fun _ h => absurd h List.not_mem_nil⟩⟩⟩⟩) ?_
        exact k11 h1 h3 y6 M6 e6 q6 h8

theorem lal_0 {l : aL} {P : aP} {kc ks : Nat} {x : Int32} {M : aM} (hJ : ∀ e ∈ RM, M.2.2 e.1 e.2.1 = e.2.2) (hl0 : l.1.stackTraces = false) (k1 : AW l (pI pg 204) P kc ks 2 [(2, .int (Int32.ofInt 0)), (1, .int (x)), (0, .ref 58)] [] SHF M) : AW l (pI pg 204) P kc ks 0 [(0, .ref 58), (1, .int (x))] [] SHF M := by
  refine AW.iconst (dq rfl) ?_
  show AW l (pI pg 204) P kc ks 1 _ _ SHF _
  refine AW.istore_n (dq rfl) (by decide +kernel) ?_
  show AW l (pI pg 204) P kc ks 2 [(2, .int (Int32.ofInt 0)), (0, .ref 58), (1, .int (x))] [] SHF _
  refine AW.drop (lv' := [(2, .int (Int32.ofInt 0)), (1, .int (x)), (0, .ref 58)]) (List.forall_mem_cons.mpr ⟨List.mem_of_getElem? (i := 0) rfl, List.forall_mem_cons.mpr ⟨List.mem_of_getElem? (i := 2) rfl, List.forall_mem_cons.mpr ⟨List.mem_of_getElem? (i := 1) rfl, fun _ h => absurd h List.not_mem_nil⟩⟩⟩) ?_
  exact k1

theorem lal_2 {l : aL} {P : aP} {kc ks : Nat} {p : Nat} {x : Int32} {M : aM} (hJ : ∀ e ∈ RM, M.2.2 e.1 e.2.1 = e.2.2) (hl0 : l.1.stackTraces = false) (r2 : ∀ (h1 : (M.1 58 1 : Int32) ≤ (nI p : Int32)), P (.inl none) SHF M) (k3 : ∀ (h1 : ¬ ((M.1 58 1 : Int32) ≤ (nI p : Int32))), AW l (pI pg 204) P kc ks 15 [(4, .int (Int32.ofInt 0)), (3, .int (Int32.ofInt 0)), (2, .int (nI p)), (1, .int (x)), (0, .ref 58)] [] SHF M) : AW l (pI pg 204) P kc ks 2 [(2, .int (nI p)), (1, .int (x)), (0, .ref 58)] [] SHF M := by
  refine AW.iload_n (dq rfl) rfl ?_
  show AW l (pI pg 204) P kc ks 3 _ _ SHF _
  refine AW.aload_n (dq rfl) rfl rfl ?_
  show AW l (pI pg 204) P kc ks 4 _ _ SHF _
  refine fw_get (dq rfl) (pg_ok.2.1 204 _ _ _ _ rfl) rfl (v := .int (M.1 58 1)) rfl ?_
  show AW l (pI pg 204) P kc ks 7 _ _ SHF _
  refine AW.icmp_ge (dq rfl) (tgt := 153) (by decide) (fun h1 => ?_) (fun h1 => ?_)
  · have _ := h1
    refine AW.vret (dq rfl) rfl ?_
    exact r2 h1
  · have _ := h1
    refine AW.iconst (dq rfl) ?_
    show AW l (pI pg 204) P kc ks 11 _ _ SHF _
    refine AW.istore_n (dq rfl) (by decide +kernel) ?_
    show AW l (pI pg 204) P kc ks 12 [(3, .int (Int32.ofInt 0)), (2, .int (nI p)), (1, .int (x)), (0, .ref 58)] [] SHF _
    refine AW.iconst (dq rfl) ?_
    show AW l (pI pg 204) P kc ks 13 _ _ SHF _
    refine AW.istore (dq rfl) (by decide +kernel) ?_
    show AW l (pI pg 204) P kc ks 15 [(4, .int (Int32.ofInt 0)), (3, .int (Int32.ofInt 0)), (2, .int (nI p)), (1, .int (x)), (0, .ref 58)] [] SHF _
    refine AW.drop (lv' := [(4, .int (Int32.ofInt 0)), (3, .int (Int32.ofInt 0)), (2, .int (nI p)), (1, .int (x)), (0, .ref 58)]) (List.forall_mem_cons.mpr ⟨List.mem_of_getElem? (i := 0) rfl, List.forall_mem_cons.mpr ⟨List.mem_of_getElem? (i := 1) rfl, List.forall_mem_cons.mpr ⟨List.mem_of_getElem? (i := 2) rfl, List.forall_mem_cons.mpr ⟨List.mem_of_getElem? (i := 3) rfl, List.forall_mem_cons.mpr ⟨List.mem_of_getElem? (i := 4) rfl, fun _ h => absurd h List.not_mem_nil⟩⟩⟩⟩⟩) ?_
    exact k3 h1

theorem lal_15 {l : aL} {P : aP} {kc ks : Nat} {p w : Nat} {v x : Int32} {M : aM} (hJ : ∀ e ∈ RM, M.2.2 e.1 e.2.1 = e.2.2) (hl0 : l.1.stackTraces = false) (k2 : ∀ (h1 : (M.1 58 2 : Int32) ≤ (nI w : Int32)), AW l (pI pg 204) P kc ks 83 [(4, .int (Int32.ofInt 0)), (3, .int (v)), (2, .int (nI p)), (1, .int (x)), (0, .ref 58)] [] SHF M) (o3 : ∀ (h1 : ¬ ((M.1 58 2 : Int32) ≤ (nI w : Int32))), vp_in ((((Int8.ofInt 8).toInt32) * (nI p)) + (nI w)) 48) (k5 : ∀ (h1 : ¬ ((M.1 58 2 : Int32) ≤ (nI w : Int32))), ∀ (h4 : ((aset M 75 ((((Int8.ofInt 8).toInt32) * (nI p)) + (nI w)).toNatClampNeg (.int (M.1 63 ((((Int8.ofInt 8).toInt32) * (nI p)) + (nI w)).toNatClampNeg))).1 63 ((((Int8.ofInt 8).toInt32) * (nI p)) + (nI w)).toNatClampNeg : Int32) ≤ 0), AW l (pI pg 204) P kc ks 15 [(4, .int ((nI w) + Int32.ofInt 1)), (3, .int ((v) ||| (Int32.ofInt 0))), (2, .int (nI p)), (1, .int (x)), (0, .ref 58)] [] SHF (aset M 75 ((((Int8.ofInt 8).toInt32) * (nI p)) + (nI w)).toNatClampNeg (.int (M.1 63 ((((Int8.ofInt 8).toInt32) * (nI p)) + (nI w)).toNatClampNeg)))) (k6 : ∀ (h1 : ¬ ((M.1 58 2 : Int32) ≤ (nI w : Int32))), ∀ (h4 : ¬ (((aset M 75 ((((Int8.ofInt 8).toInt32) * (nI p)) + (nI w)).toNatClampNeg (.int (M.1 63 ((((Int8.ofInt 8).toInt32) * (nI p)) + (nI w)).toNatClampNeg))).1 63 ((((Int8.ofInt 8).toInt32) * (nI p)) + (nI w)).toNatClampNeg : Int32) ≤ 0)), AW l (pI pg 204) P kc ks 15 [(4, .int ((nI w) + Int32.ofInt 1)), (3, .int ((v) ||| ((Int32.ofInt 1) <<< ((nI w) &&& 31)))), (2, .int (nI p)), (1, .int (x)), (0, .ref 58)] [] SHF (aset M 75 ((((Int8.ofInt 8).toInt32) * (nI p)) + (nI w)).toNatClampNeg (.int (M.1 63 ((((Int8.ofInt 8).toInt32) * (nI p)) + (nI w)).toNatClampNeg)))) : AW l (pI pg 204) P kc ks 15 [(4, .int (nI w)), (3, .int (v)), (2, .int (nI p)), (1, .int (x)), (0, .ref 58)] [] SHF M := by
  refine AW.iload (dq rfl) rfl ?_
  show AW l (pI pg 204) P kc ks 17 _ _ SHF _
  refine AW.aload_n (dq rfl) rfl rfl ?_
  show AW l (pI pg 204) P kc ks 18 _ _ SHF _
  refine fw_get (dq rfl) (pg_ok.2.1 204 _ _ _ _ rfl) rfl (v := .int (M.1 58 2)) rfl ?_
  show AW l (pI pg 204) P kc ks 21 _ _ SHF _
  refine AW.icmp_ge (dq rfl) (tgt := 80) (by decide) (fun h1 => ?_) (fun h1 => ?_)
  · have _ := h1
    refine AW.iconst (dq rfl) ?_
    show AW l (pI pg 204) P kc ks 81 _ _ SHF _
    refine AW.istore (dq rfl) (by decide +kernel) ?_
    show AW l (pI pg 204) P kc ks 83 [(4, .int (Int32.ofInt 0)), (3, .int (v)), (2, .int (nI p)), (1, .int (x)), (0, .ref 58)] [] SHF _
    refine AW.drop (lv' := [(4, .int (Int32.ofInt 0)), (3, .int (v)), (2, .int (nI p)), (1, .int (x)), (0, .ref 58)]) (List.forall_mem_cons.mpr ⟨List.mem_of_getElem? (i := 0) rfl, List.forall_mem_cons.mpr ⟨List.mem_of_getElem? (i := 1) rfl, List.forall_mem_cons.mpr ⟨List.mem_of_getElem? (i := 2) rfl, List.forall_mem_cons.mpr ⟨List.mem_of_getElem? (i := 3) rfl, List.forall_mem_cons.mpr ⟨List.mem_of_getElem? (i := 4) rfl, fun _ h => absurd h List.not_mem_nil⟩⟩⟩⟩⟩) ?_
    exact k2 h1
  · have _ := h1
    refine AW.aload_n (dq rfl) rfl rfl ?_
    show AW l (pI pg 204) P kc ks 25 _ _ SHF _
    refine fw_get (dq rfl) (pg_ok.2.1 204 _ _ _ _ rfl) rfl (v := .ref 75) (isTA_ok rfl (rgR_ok hJ rfl)) ?_
    show AW l (pI pg 204) P kc ks 28 _ _ SHF _
    refine AW.bipush (dq rfl) ?_
    show AW l (pI pg 204) P kc ks 30 _ _ SHF _
    refine AW.iload_n (dq rfl) rfl ?_
    show AW l (pI pg 204) P kc ks 31 _ _ SHF _
    refine AW.imul (dq rfl) ?_
    show AW l (pI pg 204) P kc ks 32 _ _ SHF _
    refine AW.iload (dq rfl) rfl ?_
    show AW l (pI pg 204) P kc ks 34 _ _ SHF _
    refine AW.iadd (dq rfl) ?_
    show AW l (pI pg 204) P kc ks 35 _ _ SHF _
    refine AW.aload_n (dq rfl) rfl rfl ?_
    show AW l (pI pg 204) P kc ks 36 _ _ SHF _
    refine fw_get (dq rfl) (pg_ok.2.1 204 _ _ _ _ rfl) rfl (v := .ref 63) (isTA_ok rfl (rgR_ok hJ rfl)) ?_
    show AW l (pI pg 204) P kc ks 39 _ _ SHF _
    refine AW.bipush (dq rfl) ?_
    show AW l (pI pg 204) P kc ks 41 _ _ SHF _
    refine AW.iload_n (dq rfl) rfl ?_
    show AW l (pI pg 204) P kc ks 42 _ _ SHF _
    refine AW.imul (dq rfl) ?_
    show AW l (pI pg 204) P kc ks 43 _ _ SHF _
    refine AW.iload (dq rfl) rfl ?_
    show AW l (pI pg 204) P kc ks 45 _ _ SHF _
    refine AW.iadd (dq rfl) ?_
    show AW l (pI pg 204) P kc ks 46 _ _ SHF _
    refine AW.iald (dq rfl) rfl (o3 h1) ?_
    show AW l (pI pg 204) P kc ks 47 _ _ SHF _
    refine AW.iast (dq rfl) rfl (o3 h1) ?_
    show AW l (pI pg 204) P kc ks 48 _ _ SHF _
    refine AW.iload_n (dq rfl) rfl ?_
    show AW l (pI pg 204) P kc ks 49 _ _ SHF _
    refine AW.aload_n (dq rfl) rfl rfl ?_
    show AW l (pI pg 204) P kc ks 50 _ _ SHF _
    refine fw_get (dq rfl) (pg_ok.2.1 204 _ _ _ _ rfl) rfl (v := .ref 63) (isTA_ok rfl (rgR_ok hJ rfl)) ?_
    show AW l (pI pg 204) P kc ks 53 _ _ SHF _
    refine AW.bipush (dq rfl) ?_
    show AW l (pI pg 204) P kc ks 55 _ _ SHF _
    refine AW.iload_n (dq rfl) rfl ?_
    show AW l (pI pg 204) P kc ks 56 _ _ SHF _
    refine AW.imul (dq rfl) ?_
    show AW l (pI pg 204) P kc ks 57 _ _ SHF _
    refine AW.iload (dq rfl) rfl ?_
    show AW l (pI pg 204) P kc ks 59 _ _ SHF _
    refine AW.iadd (dq rfl) ?_
    show AW l (pI pg 204) P kc ks 60 _ _ SHF _
    refine AW.iald (dq rfl) rfl (o3 h1) ?_
    show AW l (pI pg 204) P kc ks 61 _ _ SHF _
    refine AW.if_le (dq rfl) (tgt := 71) (by decide) (fun h4 => ?_) (fun h4 => ?_)
    · have _ := h4
      refine AW.iconst (dq rfl) ?_
      show AW l (pI pg 204) P kc ks 72 _ _ SHF _
      refine AW.ior (dq rfl) ?_
      show AW l (pI pg 204) P kc ks 73 _ _ SHF _
      refine AW.istore_n (dq rfl) (by decide +kernel) ?_
      show AW l (pI pg 204) P kc ks 74 [(3, .int ((v) ||| (Int32.ofInt 0))), (4, .int (nI w)), (2, .int (nI p)), (1, .int (x)), (0, .ref 58)] [] SHF _
      refine AW.iinc (dq rfl) rfl (by decide +kernel) ?_
      show AW l (pI pg 204) P kc ks 77 [(4, .int ((nI w) + Int32.ofInt 1)), (3, .int ((v) ||| (Int32.ofInt 0))), (2, .int (nI p)), (1, .int (x)), (0, .ref 58)] [] SHF _
      refine AW.goto (dq rfl) (tgt := 15) (by decide) ?_
      refine AW.drop (lv' := [(4, .int ((nI w) + Int32.ofInt 1)), (3, .int ((v) ||| (Int32.ofInt 0))), (2, .int (nI p)), (1, .int (x)), (0, .ref 58)]) (List.forall_mem_cons.mpr ⟨List.mem_of_getElem? (i := 0) rfl, List.forall_mem_cons.mpr ⟨List.mem_of_getElem? (i := 1) rfl, List.forall_mem_cons.mpr ⟨List.mem_of_getElem? (i := 2) rfl, List.forall_mem_cons.mpr ⟨List.mem_of_getElem? (i := 3) rfl, List.forall_mem_cons.mpr ⟨List.mem_of_getElem? (i := 4) rfl, fun _ h => absurd h List.not_mem_nil⟩⟩⟩⟩⟩) ?_
      exact k5 h1 h4
    · have _ := h4
      refine AW.iconst (dq rfl) ?_
      show AW l (pI pg 204) P kc ks 65 _ _ SHF _
      refine AW.iload (dq rfl) rfl ?_
      show AW l (pI pg 204) P kc ks 67 _ _ SHF _
      refine AW.ishl (dq rfl) ?_
      show AW l (pI pg 204) P kc ks 68 _ _ SHF _
      refine AW.goto (dq rfl) (tgt := 72) (by decide) ?_
      refine AW.ior (dq rfl) ?_
      show AW l (pI pg 204) P kc ks 73 _ _ SHF _
      refine AW.istore_n (dq rfl) (by decide +kernel) ?_
      show AW l (pI pg 204) P kc ks 74 [(3, .int ((v) ||| ((Int32.ofInt 1) <<< ((nI w) &&& 31)))), (4, .int (nI w)), (2, .int (nI p)), (1, .int (x)), (0, .ref 58)] [] SHF _
      refine AW.iinc (dq rfl) rfl (by decide +kernel) ?_
      show AW l (pI pg 204) P kc ks 77 [(4, .int ((nI w) + Int32.ofInt 1)), (3, .int ((v) ||| ((Int32.ofInt 1) <<< ((nI w) &&& 31)))), (2, .int (nI p)), (1, .int (x)), (0, .ref 58)] [] SHF _
      refine AW.goto (dq rfl) (tgt := 15) (by decide) ?_
      refine AW.drop (lv' := [(4, .int ((nI w) + Int32.ofInt 1)), (3, .int ((v) ||| ((Int32.ofInt 1) <<< ((nI w) &&& 31)))), (2, .int (nI p)), (1, .int (x)), (0, .ref 58)]) (List.forall_mem_cons.mpr ⟨List.mem_of_getElem? (i := 0) rfl, List.forall_mem_cons.mpr ⟨List.mem_of_getElem? (i := 1) rfl, List.forall_mem_cons.mpr ⟨List.mem_of_getElem? (i := 2) rfl, List.forall_mem_cons.mpr ⟨List.mem_of_getElem? (i := 3) rfl, List.forall_mem_cons.mpr ⟨List.mem_of_getElem? (i := 4) rfl, fun _ h => absurd h List.not_mem_nil⟩⟩⟩⟩⟩) ?_
      exact k6 h1 h4

theorem lal_83 {l : aL} {P : aP} {kc ks : Nat} {p k : Nat} {v x : Int32} {M : aM} (hJ : ∀ e ∈ RM, M.2.2 e.1 e.2.1 = e.2.2) (hl0 : l.1.stackTraces = false) (Q2 : aM → Prop) (c3 : ∀ (h1 : (M.1 58 3 : Int32) ≤ (nI k : Int32)), AC l (pI pg 205) (fcV M Q2) 0 0 [.ref 58, .int (nI p), .int (v)] SHF M) (k4 : ∀ (h1 : (M.1 58 3 : Int32) ≤ (nI k : Int32)), ∀ (M2 : aM), ∀ (e2 : M2.2.2 = M.2.2), ∀ (q2 : Q2 M2), AW l (pI pg 204) P kc ks 2 [(2, .int ((nI p) + Int32.ofInt 1)), (1, .int (x)), (0, .ref 58)] [] SHF M2) (k6 : ∀ (h1 : ¬ ((M.1 58 3 : Int32) ≤ (nI k : Int32))), ∀ (h5 : ¬ (((x) >>> ((nI k) &&& 31)) &&& (Int32.ofInt 1) : Int32) = (Int32.ofInt 1 : Int32)), AW l (pI pg 204) P kc ks 83 [(4, .int ((nI k) + Int32.ofInt 1)), (3, .int ((v) ||| (Int32.ofInt 0))), (2, .int (nI p)), (1, .int (x)), (0, .ref 58)] [] SHF M) (o7 : ∀ (h1 : ¬ ((M.1 58 3 : Int32) ≤ (nI k : Int32))), ∀ (h5 : (((x) >>> ((nI k) &&& 31)) &&& (Int32.ofInt 1) : Int32) = (Int32.ofInt 1 : Int32)), vp_in ((Int32.ofInt 4) * (nI k)) 32) (k9 : ∀ (h1 : ¬ ((M.1 58 3 : Int32) ≤ (nI k : Int32))), ∀ (h5 : (((x) >>> ((nI k) &&& 31)) &&& (Int32.ofInt 1) : Int32) = (Int32.ofInt 1 : Int32)), ∀ (h8 : ¬ (M.1 64 ((Int32.ofInt 4) * (nI k)).toNatClampNeg : Int32) = (nI p : Int32)), AW l (pI pg 204) P kc ks 83 [(4, .int ((nI k) + Int32.ofInt 1)), (3, .int ((v) ||| (Int32.ofInt 0))), (2, .int (nI p)), (1, .int (x)), (0, .ref 58)] [] SHF M) (o10 : ∀ (h1 : ¬ ((M.1 58 3 : Int32) ≤ (nI k : Int32))), ∀ (h5 : (((x) >>> ((nI k) &&& 31)) &&& (Int32.ofInt 1) : Int32) = (Int32.ofInt 1 : Int32)), ∀ (h8 : (M.1 64 ((Int32.ofInt 4) * (nI k)).toNatClampNeg : Int32) = (nI p : Int32)), vp_in (((Int32.ofInt 4) * (nI k)) + (Int32.ofInt 1)) 32) (k11 : ∀ (h1 : ¬ ((M.1 58 3 : Int32) ≤ (nI k : Int32))), ∀ (h5 : (((x) >>> ((nI k) &&& 31)) &&& (Int32.ofInt 1) : Int32) = (Int32.ofInt 1 : Int32)), ∀ (h8 : (M.1 64 ((Int32.ofInt 4) * (nI k)).toNatClampNeg : Int32) = (nI p : Int32)), AW l (pI pg 204) P kc ks 83 [(4, .int ((nI k) + Int32.ofInt 1)), (3, .int ((v) ||| ((Int32.ofInt 1) <<< ((M.1 64 (((Int32.ofInt 4) * (nI k)) + (Int32.ofInt 1)).toNatClampNeg) &&& 31)))), (2, .int (nI p)), (1, .int (x)), (0, .ref 58)] [] SHF M) : AW l (pI pg 204) P kc ks 83 [(4, .int (nI k)), (3, .int (v)), (2, .int (nI p)), (1, .int (x)), (0, .ref 58)] [] SHF M := by
  refine AW.iload (dq rfl) rfl ?_
  show AW l (pI pg 204) P kc ks 85 _ _ SHF _
  refine AW.aload_n (dq rfl) rfl rfl ?_
  show AW l (pI pg 204) P kc ks 86 _ _ SHF _
  refine fw_get (dq rfl) (pg_ok.2.1 204 _ _ _ _ rfl) rfl (v := .int (M.1 58 3)) rfl ?_
  show AW l (pI pg 204) P kc ks 89 _ _ SHF _
  refine AW.icmp_ge (dq rfl) (tgt := 141) (by decide) (fun h1 => ?_) (fun h1 => ?_)
  · have _ := h1
    refine AW.aload_n (dq rfl) rfl rfl ?_
    show AW l (pI pg 204) P kc ks 142 _ _ SHF _
    refine AW.iload_n (dq rfl) rfl ?_
    show AW l (pI pg 204) P kc ks 143 _ _ SHF _
    refine AW.iload_n (dq rfl) rfl ?_
    show AW l (pI pg 204) P kc ks 144 _ _ SHF _
    refine fw_callVV (as := [.int (nI p), .int (v)]) (dq rfl) (pg_ok.2.2.1 204 _ _ _ _ rfl) rfl (by decide +kernel) rfl rfl (c3 h1) (fun M2 e2 q2 => ?_)
    have hJ2 : ∀ e ∈ RM, M2.2.2 e.1 e.2.1 = e.2.2 := fun e he => by rw [e2]; exact hJ e he
    show AW l (pI pg 204) P kc ks 147 [(4, .int (nI k)), (3, .int (v)), (2, .int (nI p)), (1, .int (x)), (0, .ref 58)] [] SHF _
    refine AW.iinc (dq rfl) rfl (by decide +kernel) ?_
    show AW l (pI pg 204) P kc ks 150 [(2, .int ((nI p) + Int32.ofInt 1)), (4, .int (nI k)), (3, .int (v)), (1, .int (x)), (0, .ref 58)] [] SHF _
    refine AW.goto (dq rfl) (tgt := 2) (by decide) ?_
    refine AW.drop (lv' := [(2, .int ((nI p) + Int32.ofInt 1)), (1, .int (x)), (0, .ref 58)]) (List.forall_mem_cons.mpr ⟨List.mem_of_getElem? (i := 0) rfl, List.forall_mem_cons.mpr ⟨List.mem_of_getElem? (i := 3) rfl, List.forall_mem_cons.mpr ⟨List.mem_of_getElem? (i := 4) rfl, fun _ h => absurd h List.not_mem_nil⟩⟩⟩) ?_
    exact k4 h1 M2 e2 q2
  · have _ := h1
    refine AW.iload_n (dq rfl) rfl ?_
    show AW l (pI pg 204) P kc ks 93 _ _ SHF _
    refine AW.iload_n (dq rfl) rfl ?_
    show AW l (pI pg 204) P kc ks 94 _ _ SHF _
    refine AW.iload (dq rfl) rfl ?_
    show AW l (pI pg 204) P kc ks 96 _ _ SHF _
    refine AW.ishr (dq rfl) ?_
    show AW l (pI pg 204) P kc ks 97 _ _ SHF _
    refine AW.iconst (dq rfl) ?_
    show AW l (pI pg 204) P kc ks 98 _ _ SHF _
    refine AW.iand (dq rfl) ?_
    show AW l (pI pg 204) P kc ks 99 _ _ SHF _
    refine AW.iconst (dq rfl) ?_
    show AW l (pI pg 204) P kc ks 100 _ _ SHF _
    refine AW.icmp_ne (dq rfl) (tgt := 132) (by decide) (fun h5 => ?_) (fun h5 => ?_)
    · have _ := h5
      refine AW.iconst (dq rfl) ?_
      show AW l (pI pg 204) P kc ks 133 _ _ SHF _
      refine AW.ior (dq rfl) ?_
      show AW l (pI pg 204) P kc ks 134 _ _ SHF _
      refine AW.istore_n (dq rfl) (by decide +kernel) ?_
      show AW l (pI pg 204) P kc ks 135 [(3, .int ((v) ||| (Int32.ofInt 0))), (4, .int (nI k)), (2, .int (nI p)), (1, .int (x)), (0, .ref 58)] [] SHF _
      refine AW.iinc (dq rfl) rfl (by decide +kernel) ?_
      show AW l (pI pg 204) P kc ks 138 [(4, .int ((nI k) + Int32.ofInt 1)), (3, .int ((v) ||| (Int32.ofInt 0))), (2, .int (nI p)), (1, .int (x)), (0, .ref 58)] [] SHF _
      refine AW.goto (dq rfl) (tgt := 83) (by decide) ?_
      refine AW.drop (lv' := [(4, .int ((nI k) + Int32.ofInt 1)), (3, .int ((v) ||| (Int32.ofInt 0))), (2, .int (nI p)), (1, .int (x)), (0, .ref 58)]) (List.forall_mem_cons.mpr ⟨List.mem_of_getElem? (i := 0) rfl, List.forall_mem_cons.mpr ⟨List.mem_of_getElem? (i := 1) rfl, List.forall_mem_cons.mpr ⟨List.mem_of_getElem? (i := 2) rfl, List.forall_mem_cons.mpr ⟨List.mem_of_getElem? (i := 3) rfl, List.forall_mem_cons.mpr ⟨List.mem_of_getElem? (i := 4) rfl, fun _ h => absurd h List.not_mem_nil⟩⟩⟩⟩⟩) ?_
      exact k6 h1 h5
    · have _ := h5
      refine AW.aload_n (dq rfl) rfl rfl ?_
      show AW l (pI pg 204) P kc ks 104 _ _ SHF _
      refine fw_get (dq rfl) (pg_ok.2.1 204 _ _ _ _ rfl) rfl (v := .ref 64) (isTA_ok rfl (rgR_ok hJ rfl)) ?_
      show AW l (pI pg 204) P kc ks 107 _ _ SHF _
      refine AW.iconst (dq rfl) ?_
      show AW l (pI pg 204) P kc ks 108 _ _ SHF _
      refine AW.iload (dq rfl) rfl ?_
      show AW l (pI pg 204) P kc ks 110 _ _ SHF _
      refine AW.imul (dq rfl) ?_
      show AW l (pI pg 204) P kc ks 111 _ _ SHF _
      refine AW.iald (dq rfl) rfl (o7 h1 h5) ?_
      show AW l (pI pg 204) P kc ks 112 _ _ SHF _
      refine AW.iload_n (dq rfl) rfl ?_
      show AW l (pI pg 204) P kc ks 113 _ _ SHF _
      refine AW.icmp_ne (dq rfl) (tgt := 132) (by decide) (fun h8 => ?_) (fun h8 => ?_)
      · have _ := h8
        refine AW.iconst (dq rfl) ?_
        show AW l (pI pg 204) P kc ks 133 _ _ SHF _
        refine AW.ior (dq rfl) ?_
        show AW l (pI pg 204) P kc ks 134 _ _ SHF _
        refine AW.istore_n (dq rfl) (by decide +kernel) ?_
        show AW l (pI pg 204) P kc ks 135 [(3, .int ((v) ||| (Int32.ofInt 0))), (4, .int (nI k)), (2, .int (nI p)), (1, .int (x)), (0, .ref 58)] [] SHF _
        refine AW.iinc (dq rfl) rfl (by decide +kernel) ?_
        show AW l (pI pg 204) P kc ks 138 [(4, .int ((nI k) + Int32.ofInt 1)), (3, .int ((v) ||| (Int32.ofInt 0))), (2, .int (nI p)), (1, .int (x)), (0, .ref 58)] [] SHF _
        refine AW.goto (dq rfl) (tgt := 83) (by decide) ?_
        refine AW.drop (lv' := [(4, .int ((nI k) + Int32.ofInt 1)), (3, .int ((v) ||| (Int32.ofInt 0))), (2, .int (nI p)), (1, .int (x)), (0, .ref 58)]) (List.forall_mem_cons.mpr ⟨List.mem_of_getElem? (i := 0) rfl, List.forall_mem_cons.mpr ⟨List.mem_of_getElem? (i := 1) rfl, List.forall_mem_cons.mpr ⟨List.mem_of_getElem? (i := 2) rfl, List.forall_mem_cons.mpr ⟨List.mem_of_getElem? (i := 3) rfl, List.forall_mem_cons.mpr ⟨List.mem_of_getElem? (i := 4) rfl, fun _ h => absurd h List.not_mem_nil⟩⟩⟩⟩⟩) ?_
        exact k9 h1 h5 h8
      · have _ := h8
        refine AW.iconst (dq rfl) ?_
        show AW l (pI pg 204) P kc ks 117 _ _ SHF _
        refine AW.aload_n (dq rfl) rfl rfl ?_
        show AW l (pI pg 204) P kc ks 118 _ _ SHF _
        refine fw_get (dq rfl) (pg_ok.2.1 204 _ _ _ _ rfl) rfl (v := .ref 64) (isTA_ok rfl (rgR_ok hJ rfl)) ?_
        show AW l (pI pg 204) P kc ks 121 _ _ SHF _
        refine AW.iconst (dq rfl) ?_
        show AW l (pI pg 204) P kc ks 122 _ _ SHF _
        refine AW.iload (dq rfl) rfl ?_
        show AW l (pI pg 204) P kc ks 124 _ _ SHF _
        refine AW.imul (dq rfl) ?_
        show AW l (pI pg 204) P kc ks 125 _ _ SHF _
        refine AW.iconst (dq rfl) ?_
        show AW l (pI pg 204) P kc ks 126 _ _ SHF _
        refine AW.iadd (dq rfl) ?_
        show AW l (pI pg 204) P kc ks 127 _ _ SHF _
        refine AW.iald (dq rfl) rfl (o10 h1 h5 h8) ?_
        show AW l (pI pg 204) P kc ks 128 _ _ SHF _
        refine AW.ishl (dq rfl) ?_
        show AW l (pI pg 204) P kc ks 129 _ _ SHF _
        refine AW.goto (dq rfl) (tgt := 133) (by decide) ?_
        refine AW.ior (dq rfl) ?_
        show AW l (pI pg 204) P kc ks 134 _ _ SHF _
        refine AW.istore_n (dq rfl) (by decide +kernel) ?_
        show AW l (pI pg 204) P kc ks 135 [(3, .int ((v) ||| ((Int32.ofInt 1) <<< ((M.1 64 (((Int32.ofInt 4) * (nI k)) + (Int32.ofInt 1)).toNatClampNeg) &&& 31)))), (4, .int (nI k)), (2, .int (nI p)), (1, .int (x)), (0, .ref 58)] [] SHF _
        refine AW.iinc (dq rfl) rfl (by decide +kernel) ?_
        show AW l (pI pg 204) P kc ks 138 [(4, .int ((nI k) + Int32.ofInt 1)), (3, .int ((v) ||| ((Int32.ofInt 1) <<< ((M.1 64 (((Int32.ofInt 4) * (nI k)) + (Int32.ofInt 1)).toNatClampNeg) &&& 31)))), (2, .int (nI p)), (1, .int (x)), (0, .ref 58)] [] SHF _
        refine AW.goto (dq rfl) (tgt := 83) (by decide) ?_
        refine AW.drop (lv' := [(4, .int ((nI k) + Int32.ofInt 1)), (3, .int ((v) ||| ((Int32.ofInt 1) <<< ((M.1 64 (((Int32.ofInt 4) * (nI k)) + (Int32.ofInt 1)).toNatClampNeg) &&& 31)))), (2, .int (nI p)), (1, .int (x)), (0, .ref 58)]) (List.forall_mem_cons.mpr ⟨List.mem_of_getElem? (i := 0) rfl, List.forall_mem_cons.mpr ⟨List.mem_of_getElem? (i := 1) rfl, List.forall_mem_cons.mpr ⟨List.mem_of_getElem? (i := 2) rfl, List.forall_mem_cons.mpr ⟨List.mem_of_getElem? (i := 3) rfl, List.forall_mem_cons.mpr ⟨List.mem_of_getElem? (i := 4) rfl, fun _ h => absurd h List.not_mem_nil⟩⟩⟩⟩⟩) ?_
        exact k11 h1 h5 h8

theorem bts_0 {l : aL} {P : aP} {kc ks : Nat} {x : Int32} {M : aM}  (hl0 : l.1.stackTraces = false) (k1 : AW l (pI pg 217) P kc ks 4 [(2, .int (Int32.ofInt 0)), (1, .int (Int32.ofInt 0)), (0, .int (x))] [] SHF M) : AW l (pI pg 217) P kc ks 0 [(0, .int (x))] [] SHF M := by
  refine AW.iconst (dq rfl) ?_
  show AW l (pI pg 217) P kc ks 1 _ _ SHF _
  refine AW.istore_n (dq rfl) (by decide +kernel) ?_
  show AW l (pI pg 217) P kc ks 2 [(1, .int (Int32.ofInt 0)), (0, .int (x))] [] SHF _
  refine AW.iconst (dq rfl) ?_
  show AW l (pI pg 217) P kc ks 3 _ _ SHF _
  refine AW.istore_n (dq rfl) (by decide +kernel) ?_
  show AW l (pI pg 217) P kc ks 4 [(2, .int (Int32.ofInt 0)), (1, .int (Int32.ofInt 0)), (0, .int (x))] [] SHF _
  refine AW.drop (lv' := [(2, .int (Int32.ofInt 0)), (1, .int (Int32.ofInt 0)), (0, .int (x))]) (List.forall_mem_cons.mpr ⟨List.mem_of_getElem? (i := 0) rfl, List.forall_mem_cons.mpr ⟨List.mem_of_getElem? (i := 1) rfl, List.forall_mem_cons.mpr ⟨List.mem_of_getElem? (i := 2) rfl, fun _ h => absurd h List.not_mem_nil⟩⟩⟩) ?_
  exact k1

theorem bts_4 {l : aL} {P : aP} {kc ks : Nat} {i : Nat} {v x : Int32} {M : aM}  (hl0 : l.1.stackTraces = false) (r2 : ∀ (h1 : ((Int8.ofInt 8).toInt32 : Int32) ≤ (nI i : Int32)), P (.inl (some (.int (v)))) SHF M) (k3 : ∀ (h1 : ¬ (((Int8.ofInt 8).toInt32 : Int32) ≤ (nI i : Int32))), AW l (pI pg 217) P kc ks 4 [(2, .int ((nI i) + Int32.ofInt 1)), (1, .int ((v) + (((x) >>> ((nI i) &&& 31)) &&& (Int32.ofInt 1)))), (0, .int (x))] [] SHF M) : AW l (pI pg 217) P kc ks 4 [(2, .int (nI i)), (1, .int (v)), (0, .int (x))] [] SHF M := by
  refine AW.iload_n (dq rfl) rfl ?_
  show AW l (pI pg 217) P kc ks 5 _ _ SHF _
  refine AW.bipush (dq rfl) ?_
  show AW l (pI pg 217) P kc ks 7 _ _ SHF _
  refine AW.icmp_ge (dq rfl) (tgt := 24) (by decide) (fun h1 => ?_) (fun h1 => ?_)
  · have _ := h1
    refine AW.iload_n (dq rfl) rfl ?_
    show AW l (pI pg 217) P kc ks 25 _ _ SHF _
    refine AW.iret (dq rfl) rfl ?_
    exact r2 h1
  · have _ := h1
    refine AW.iload_n (dq rfl) rfl ?_
    show AW l (pI pg 217) P kc ks 11 _ _ SHF _
    refine AW.iload_n (dq rfl) rfl ?_
    show AW l (pI pg 217) P kc ks 12 _ _ SHF _
    refine AW.iload_n (dq rfl) rfl ?_
    show AW l (pI pg 217) P kc ks 13 _ _ SHF _
    refine AW.ishr (dq rfl) ?_
    show AW l (pI pg 217) P kc ks 14 _ _ SHF _
    refine AW.iconst (dq rfl) ?_
    show AW l (pI pg 217) P kc ks 15 _ _ SHF _
    refine AW.iand (dq rfl) ?_
    show AW l (pI pg 217) P kc ks 16 _ _ SHF _
    refine AW.iadd (dq rfl) ?_
    show AW l (pI pg 217) P kc ks 17 _ _ SHF _
    refine AW.istore_n (dq rfl) (by decide +kernel) ?_
    show AW l (pI pg 217) P kc ks 18 [(1, .int ((v) + (((x) >>> ((nI i) &&& 31)) &&& (Int32.ofInt 1)))), (2, .int (nI i)), (0, .int (x))] [] SHF _
    refine AW.iinc (dq rfl) rfl (by decide +kernel) ?_
    show AW l (pI pg 217) P kc ks 21 [(2, .int ((nI i) + Int32.ofInt 1)), (1, .int ((v) + (((x) >>> ((nI i) &&& 31)) &&& (Int32.ofInt 1)))), (0, .int (x))] [] SHF _
    refine AW.goto (dq rfl) (tgt := 4) (by decide) ?_
    refine AW.drop (lv' := [(2, .int ((nI i) + Int32.ofInt 1)), (1, .int ((v) + (((x) >>> ((nI i) &&& 31)) &&& (Int32.ofInt 1)))), (0, .int (x))]) (List.forall_mem_cons.mpr ⟨List.mem_of_getElem? (i := 0) rfl, List.forall_mem_cons.mpr ⟨List.mem_of_getElem? (i := 1) rfl, List.forall_mem_cons.mpr ⟨List.mem_of_getElem? (i := 2) rfl, fun _ h => absurd h List.not_mem_nil⟩⟩⟩) ?_
    exact k3 h1

theorem mos_0 {l : aL} {P : aP} {kc ks : Nat} {x : Int32} {M : aM} (hJ : ∀ e ∈ RM, M.2.2 e.1 e.2.1 = e.2.2) (hl0 : l.1.stackTraces = false) (Q1 : aM → Prop) (c2 : AC l (pI pg 210) (fcV M Q1) 0 0 [.ref 58] SHF M) (Q3 : aM → aM → Prop) (c4 : ∀ (M1 : aM), ∀ (e1 : M1.2.2 = M.2.2), ∀ (q1 : Q1 M1), AC l (pI pg 211) (fcV M1 (Q3 M1)) 0 0 [.ref 58, .int (x)] SHF M1) (k5 : ∀ (M1 : aM), ∀ (e1 : M1.2.2 = M.2.2), ∀ (q1 : Q1 M1), ∀ (M3 : aM), ∀ (e3 : M3.2.2 = M1.2.2), ∀ (q3 : (Q3 M1) M3), AW l (pI pg 216) P kc ks 13 [(3, .int (Int32.ofInt 0)), (2, .int (Int32.ofInt 0)), (1, .int (x)), (0, .ref 58)] [] SHF M3) : AW l (pI pg 216) P kc ks 0 [(0, .ref 58), (1, .int (x))] [] SHF M := by
  refine AW.aload_n (dq rfl) rfl rfl ?_
  show AW l (pI pg 216) P kc ks 1 _ _ SHF _
  refine fw_callVV (as := []) (dq rfl) (pg_ok.2.2.1 216 _ _ _ _ rfl) rfl (by decide +kernel) rfl rfl (c2) (fun M1 e1 q1 => ?_)
  have hJ1 : ∀ e ∈ RM, M1.2.2 e.1 e.2.1 = e.2.2 := fun e he => by rw [e1]; exact hJ e he
  show AW l (pI pg 216) P kc ks 4 [(0, .ref 58), (1, .int (x))] [] SHF _
  refine AW.aload_n (dq rfl) rfl rfl ?_
  show AW l (pI pg 216) P kc ks 5 _ _ SHF _
  refine AW.iload_n (dq rfl) rfl ?_
  show AW l (pI pg 216) P kc ks 6 _ _ SHF _
  refine fw_callVV (as := [.int (x)]) (dq rfl) (pg_ok.2.2.1 216 _ _ _ _ rfl) rfl (by decide +kernel) rfl rfl (c4 M1 e1 q1) (fun M3 e3 q3 => ?_)
  have hJ3 : ∀ e ∈ RM, M3.2.2 e.1 e.2.1 = e.2.2 := fun e he => by rw [e3]; exact hJ1 e he
  show AW l (pI pg 216) P kc ks 9 [(0, .ref 58), (1, .int (x))] [] SHF _
  refine AW.iconst (dq rfl) ?_
  show AW l (pI pg 216) P kc ks 10 _ _ SHF _
  refine AW.istore_n (dq rfl) (by decide +kernel) ?_
  show AW l (pI pg 216) P kc ks 11 [(2, .int (Int32.ofInt 0)), (0, .ref 58), (1, .int (x))] [] SHF _
  refine AW.iconst (dq rfl) ?_
  show AW l (pI pg 216) P kc ks 12 _ _ SHF _
  refine AW.istore_n (dq rfl) (by decide +kernel) ?_
  show AW l (pI pg 216) P kc ks 13 [(3, .int (Int32.ofInt 0)), (2, .int (Int32.ofInt 0)), (0, .ref 58), (1, .int (x))] [] SHF _
  refine AW.drop (lv' := [(3, .int (Int32.ofInt 0)), (2, .int (Int32.ofInt 0)), (1, .int (x)), (0, .ref 58)]) (List.forall_mem_cons.mpr ⟨List.mem_of_getElem? (i := 0) rfl, List.forall_mem_cons.mpr ⟨List.mem_of_getElem? (i := 1) rfl, List.forall_mem_cons.mpr ⟨List.mem_of_getElem? (i := 3) rfl, List.forall_mem_cons.mpr ⟨List.mem_of_getElem? (i := 2) rfl, fun _ h => absurd h List.not_mem_nil⟩⟩⟩⟩) ?_
  exact k5 M1 e1 q1 M3 e3 q3

theorem mos_13 {l : aL} {P : aP} {kc ks : Nat} {s : Nat} {v x : Int32} {M : aM} (hJ : ∀ e ∈ RM, M.2.2 e.1 e.2.1 = e.2.2) (hl0 : l.1.stackTraces = false) (r2 : ∀ (h1 : ((Int32.ofInt 1) <<< ((M.1 58 2) &&& 31) : Int32) ≤ (nI s : Int32)), P (.inl (some (.int (v)))) SHF M) (o3 : ∀ (h1 : ¬ (((Int32.ofInt 1) <<< ((M.1 58 2) &&& 31) : Int32) ≤ (nI s : Int32))), vp_in (nI s) 256) (k5 : ∀ (h1 : ¬ (((Int32.ofInt 1) <<< ((M.1 58 2) &&& 31) : Int32) ≤ (nI s : Int32))), ∀ (h4 : (M.1 77 (nI s).toNatClampNeg : Int32) = (Int32.ofInt (-1) : Int32)), AW l (pI pg 216) P kc ks 13 [(3, .int ((nI s) + Int32.ofInt 1)), (2, .int (v)), (1, .int (x)), (0, .ref 58)] [] SHF M) (Q6 : Int32 → aM → Prop) (c7 : ∀ (h1 : ¬ (((Int32.ofInt 1) <<< ((M.1 58 2) &&& 31) : Int32) ≤ (nI s : Int32))), ∀ (h4 : ¬ ((M.1 77 (nI s).toNatClampNeg : Int32) = (Int32.ofInt (-1) : Int32))), AC l (pI pg 217) (fcI M Q6) 0 0 [.int (nI s)] SHF M) (k9 : ∀ (h1 : ¬ (((Int32.ofInt 1) <<< ((M.1 58 2) &&& 31) : Int32) ≤ (nI s : Int32))), ∀ (h4 : ¬ ((M.1 77 (nI s).toNatClampNeg : Int32) = (Int32.ofInt (-1) : Int32))), ∀ (y6 : Int32), ∀ (M6 : aM), ∀ (e6 : M6.2.2 = M.2.2), ∀ (q6 : Q6 y6 M6), ∀ (h8 : (y6 : Int32) ≤ (v : Int32)), AW l (pI pg 216) P kc ks 13 [(3, .int ((nI s) + Int32.ofInt 1)), (2, .int (v)), (1, .int (x)), (0, .ref 58)] [] SHF M6) (Q10 : Int32 → aM → Int32 → aM → Prop) (c11 : ∀ (h1 : ¬ (((Int32.ofInt 1) <<< ((M.1 58 2) &&& 31) : Int32) ≤ (nI s : Int32))), ∀ (h4 : ¬ ((M.1 77 (nI s).toNatClampNeg : Int32) = (Int32.ofInt (-1) : Int32))), ∀ (y6 : Int32), ∀ (M6 : aM), ∀ (e6 : M6.2.2 = M.2.2), ∀ (q6 : Q6 y6 M6), ∀ (h8 : ¬ ((y6 : Int32) ≤ (v : Int32))), AC l (pI pg 217) (fcI M6 (Q10 y6 M6)) 0 0 [.int (nI s)] SHF M6) (k12 : ∀ (h1 : ¬ (((Int32.ofInt 1) <<< ((M.1 58 2) &&& 31) : Int32) ≤ (nI s : Int32))), ∀ (h4 : ¬ ((M.1 77 (nI s).toNatClampNeg : Int32) = (Int32.ofInt (-1) : Int32))), ∀ (y6 : Int32), ∀ (M6 : aM), ∀ (e6 : M6.2.2 = M.2.2), ∀ (q6 : Q6 y6 M6), ∀ (h8 : ¬ ((y6 : Int32) ≤ (v : Int32))), ∀ (y10 : Int32), ∀ (M10 : aM), ∀ (e10 : M10.2.2 = M6.2.2), ∀ (q10 : (Q10 y6 M6) y10 M10), AW l (pI pg 216) P kc ks 13 [(3, .int ((nI s) + Int32.ofInt 1)), (2, .int (y10)), (1, .int (x)), (0, .ref 58)] [] SHF M10) : AW l (pI pg 216) P kc ks 13 [(3, .int (nI s)), (2, .int (v)), (1, .int (x)), (0, .ref 58)] [] SHF M := by
  refine AW.iload_n (dq rfl) rfl ?_
  show AW l (pI pg 216) P kc ks 14 _ _ SHF _
  refine AW.iconst (dq rfl) ?_
  show AW l (pI pg 216) P kc ks 15 _ _ SHF _
  refine AW.aload_n (dq rfl) rfl rfl ?_
  show AW l (pI pg 216) P kc ks 16 _ _ SHF _
  refine fw_get (dq rfl) (pg_ok.2.1 216 _ _ _ _ rfl) rfl (v := .int (M.1 58 2)) rfl ?_
  show AW l (pI pg 216) P kc ks 19 _ _ SHF _
  refine AW.ishl (dq rfl) ?_
  show AW l (pI pg 216) P kc ks 20 _ _ SHF _
  refine AW.icmp_ge (dq rfl) (tgt := 56) (by decide) (fun h1 => ?_) (fun h1 => ?_)
  · have _ := h1
    refine AW.iload_n (dq rfl) rfl ?_
    show AW l (pI pg 216) P kc ks 57 _ _ SHF _
    refine AW.iret (dq rfl) rfl ?_
    exact r2 h1
  · have _ := h1
    refine AW.aload_n (dq rfl) rfl rfl ?_
    show AW l (pI pg 216) P kc ks 24 _ _ SHF _
    refine fw_get (dq rfl) (pg_ok.2.1 216 _ _ _ _ rfl) rfl (v := .ref 77) (isTA_ok rfl (rgR_ok hJ rfl)) ?_
    show AW l (pI pg 216) P kc ks 27 _ _ SHF _
    refine AW.iload_n (dq rfl) rfl ?_
    show AW l (pI pg 216) P kc ks 28 _ _ SHF _
    refine AW.iald (dq rfl) rfl (o3 h1) ?_
    show AW l (pI pg 216) P kc ks 29 _ _ SHF _
    refine AW.iconst (dq rfl) ?_
    show AW l (pI pg 216) P kc ks 30 _ _ SHF _
    refine AW.icmp_eq (dq rfl) (tgt := 48) (by decide) (fun h4 => ?_) (fun h4 => ?_)
    · have _ := h4
      refine AW.iload_n (dq rfl) rfl ?_
      show AW l (pI pg 216) P kc ks 49 _ _ SHF _
      refine AW.istore_n (dq rfl) (by decide +kernel) ?_
      show AW l (pI pg 216) P kc ks 50 [(2, .int (v)), (3, .int (nI s)), (1, .int (x)), (0, .ref 58)] [] SHF _
      refine AW.iinc (dq rfl) rfl (by decide +kernel) ?_
      show AW l (pI pg 216) P kc ks 53 [(3, .int ((nI s) + Int32.ofInt 1)), (2, .int (v)), (1, .int (x)), (0, .ref 58)] [] SHF _
      refine AW.goto (dq rfl) (tgt := 13) (by decide) ?_
      refine AW.drop (lv' := [(3, .int ((nI s) + Int32.ofInt 1)), (2, .int (v)), (1, .int (x)), (0, .ref 58)]) (List.forall_mem_cons.mpr ⟨List.mem_of_getElem? (i := 0) rfl, List.forall_mem_cons.mpr ⟨List.mem_of_getElem? (i := 1) rfl, List.forall_mem_cons.mpr ⟨List.mem_of_getElem? (i := 2) rfl, List.forall_mem_cons.mpr ⟨List.mem_of_getElem? (i := 3) rfl, fun _ h => absurd h List.not_mem_nil⟩⟩⟩⟩) ?_
      exact k5 h1 h4
    · have _ := h4
      refine AW.iload_n (dq rfl) rfl ?_
      show AW l (pI pg 216) P kc ks 34 _ _ SHF _
      refine fw_callSI (as := [.int (nI s)]) (dq rfl) (pg_ok.2.2.1 216 _ _ _ _ rfl) (by decide +kernel) rfl rfl (c7 h1 h4) (fun y6 M6 e6 q6 => ?_)
      have hJ6 : ∀ e ∈ RM, M6.2.2 e.1 e.2.1 = e.2.2 := fun e he => by rw [e6]; exact hJ e he
      show AW l (pI pg 216) P kc ks 37 [(3, .int (nI s)), (2, .int (v)), (1, .int (x)), (0, .ref 58)] [.int (y6)] SHF _
      refine AW.iload_n (dq rfl) rfl ?_
      show AW l (pI pg 216) P kc ks 38 _ _ SHF _
      refine AW.icmp_le (dq rfl) (tgt := 48) (by decide) (fun h8 => ?_) (fun h8 => ?_)
      · have _ := h8
        refine AW.iload_n (dq rfl) rfl ?_
        show AW l (pI pg 216) P kc ks 49 _ _ SHF _
        refine AW.istore_n (dq rfl) (by decide +kernel) ?_
        show AW l (pI pg 216) P kc ks 50 [(2, .int (v)), (3, .int (nI s)), (1, .int (x)), (0, .ref 58)] [] SHF _
        refine AW.iinc (dq rfl) rfl (by decide +kernel) ?_
        show AW l (pI pg 216) P kc ks 53 [(3, .int ((nI s) + Int32.ofInt 1)), (2, .int (v)), (1, .int (x)), (0, .ref 58)] [] SHF _
        refine AW.goto (dq rfl) (tgt := 13) (by decide) ?_
        refine AW.drop (lv' := [(3, .int ((nI s) + Int32.ofInt 1)), (2, .int (v)), (1, .int (x)), (0, .ref 58)]) (List.forall_mem_cons.mpr ⟨List.mem_of_getElem? (i := 0) rfl, List.forall_mem_cons.mpr ⟨List.mem_of_getElem? (i := 1) rfl, List.forall_mem_cons.mpr ⟨List.mem_of_getElem? (i := 2) rfl, List.forall_mem_cons.mpr ⟨List.mem_of_getElem? (i := 3) rfl, fun _ h => absurd h List.not_mem_nil⟩⟩⟩⟩) ?_
        exact k9 h1 h4 y6 M6 e6 q6 h8
      · have _ := h8
        refine AW.iload_n (dq rfl) rfl ?_
        show AW l (pI pg 216) P kc ks 42 _ _ SHF _
        refine fw_callSI (as := [.int (nI s)]) (dq rfl) (pg_ok.2.2.1 216 _ _ _ _ rfl) (by decide +kernel) rfl rfl (c11 h1 h4 y6 M6 e6 q6 h8) (fun y10 M10 e10 q10 => ?_)
        have hJ10 : ∀ e ∈ RM, M10.2.2 e.1 e.2.1 = e.2.2 := fun e he => by rw [e10]; exact hJ6 e he
        show AW l (pI pg 216) P kc ks 45 [(3, .int (nI s)), (2, .int (v)), (1, .int (x)), (0, .ref 58)] [.int (y10)] SHF _
        refine AW.goto (dq rfl) (tgt := 49) (by decide) ?_
        refine AW.istore_n (dq rfl) (by decide +kernel) ?_
        show AW l (pI pg 216) P kc ks 50 [(2, .int (y10)), (3, .int (nI s)), (1, .int (x)), (0, .ref 58)] [] SHF _
        refine AW.iinc (dq rfl) rfl (by decide +kernel) ?_
        show AW l (pI pg 216) P kc ks 53 [(3, .int ((nI s) + Int32.ofInt 1)), (2, .int (y10)), (1, .int (x)), (0, .ref 58)] [] SHF _
        refine AW.goto (dq rfl) (tgt := 13) (by decide) ?_
        refine AW.drop (lv' := [(3, .int ((nI s) + Int32.ofInt 1)), (2, .int (y10)), (1, .int (x)), (0, .ref 58)]) (List.forall_mem_cons.mpr ⟨List.mem_of_getElem? (i := 0) rfl, List.forall_mem_cons.mpr ⟨List.mem_of_getElem? (i := 1) rfl, List.forall_mem_cons.mpr ⟨List.mem_of_getElem? (i := 2) rfl, List.forall_mem_cons.mpr ⟨List.mem_of_getElem? (i := 3) rfl, fun _ h => absurd h List.not_mem_nil⟩⟩⟩⟩) ?_
        exact k12 h1 h4 y6 M6 e6 q6 h8 y10 M10 e10 q10

theorem mmo_0 {l : aL} {P : aP} {kc ks : Nat} {x : Int32} {M : aM} (hJ : ∀ e ∈ RM, M.2.2 e.1 e.2.1 = e.2.2) (hl0 : l.1.stackTraces = false) (Q1 : Int32 → aM → Prop) (c2 : AC l (pI pg 203) (fcI (aset M 58 0 (.int (Int32.ofInt 0))) Q1) 0 0 [.ref 58, .int (x), .int (Int32.ofInt 1)] SHF (aset M 58 0 (.int (Int32.ofInt 0)))) (Q4 : Int32 → aM → aM → Prop) (c5 : ∀ (y1 : Int32), ∀ (M1 : aM), ∀ (e1 : M1.2.2 = (aset M 58 0 (.int (Int32.ofInt 0))).2.2), ∀ (q1 : Q1 y1 M1), ∀ (h3 : ¬ (y1 : Int32) = 0), AC l (pI pg 204) (fcV M1 (Q4 y1 M1)) 0 0 [.ref 58, .int (Int32.ofInt 0)] SHF M1) (Q6 : Int32 → aM → aM → Int32 → aM → Prop) (c7 : ∀ (y1 : Int32), ∀ (M1 : aM), ∀ (e1 : M1.2.2 = (aset M 58 0 (.int (Int32.ofInt 0))).2.2), ∀ (q1 : Q1 y1 M1), ∀ (h3 : ¬ (y1 : Int32) = 0), ∀ (M4 : aM), ∀ (e4 : M4.2.2 = M1.2.2), ∀ (q4 : (Q4 y1 M1) M4), AC l (pI pg 216) (fcI M4 (Q6 y1 M1 M4)) 0 0 [.ref 58, .int (x)] SHF M4) (r8 : ∀ (y1 : Int32), ∀ (M1 : aM), ∀ (e1 : M1.2.2 = (aset M 58 0 (.int (Int32.ofInt 0))).2.2), ∀ (q1 : Q1 y1 M1), ∀ (h3 : ¬ (y1 : Int32) = 0), ∀ (M4 : aM), ∀ (e4 : M4.2.2 = M1.2.2), ∀ (q4 : (Q4 y1 M1) M4), ∀ (y6 : Int32), ∀ (M6 : aM), ∀ (e6 : M6.2.2 = M4.2.2), ∀ (q6 : (Q6 y1 M1 M4) y6 M6), P (.inl (some (.int (y6)))) SHF M6) (r9 : ∀ (y1 : Int32), ∀ (M1 : aM), ∀ (e1 : M1.2.2 = (aset M 58 0 (.int (Int32.ofInt 0))).2.2), ∀ (q1 : Q1 y1 M1), ∀ (h3 : (y1 : Int32) = 0), P (.inl (some (.int (Int32.ofInt 0)))) SHF M1) : AW l (pI pg 215) P kc ks 0 [(0, .ref 58), (1, .int (x))] [] SHF M := by
  refine AW.aload_n (dq rfl) rfl rfl ?_
  show AW l (pI pg 215) P kc ks 1 _ _ SHF _
  refine AW.iconst (dq rfl) ?_
  show AW l (pI pg 215) P kc ks 2 _ _ SHF _
  refine fw_putI (dq rfl) (pg_ok.2.1 215 _ _ _ _ rfl) rfl rfl rfl ?_
  show AW l (pI pg 215) P kc ks 5 _ _ SHF _
  refine AW.aload_n (dq rfl) rfl rfl ?_
  show AW l (pI pg 215) P kc ks 6 _ _ SHF _
  refine AW.iload_n (dq rfl) rfl ?_
  show AW l (pI pg 215) P kc ks 7 _ _ SHF _
  refine AW.iconst (dq rfl) ?_
  show AW l (pI pg 215) P kc ks 8 _ _ SHF _
  refine fw_callVI (as := [.int (x), .int (Int32.ofInt 1)]) (dq rfl) (pg_ok.2.2.1 215 _ _ _ _ rfl) rfl (by decide +kernel) rfl rfl (c2) (fun y1 M1 e1 q1 => ?_)
  have hJ1 : ∀ e ∈ RM, M1.2.2 e.1 e.2.1 = e.2.2 := fun e he => by rw [e1]; exact hJ e he
  show AW l (pI pg 215) P kc ks 11 [(0, .ref 58), (1, .int (x))] [.int (y1)] SHF _
  refine AW.if_ne (dq rfl) (tgt := 16) (by decide) (fun h3 => ?_) (fun h3 => ?_)
  · have _ := h3
    refine AW.aload_n (dq rfl) rfl rfl ?_
    show AW l (pI pg 215) P kc ks 17 _ _ SHF _
    refine AW.iconst (dq rfl) ?_
    show AW l (pI pg 215) P kc ks 18 _ _ SHF _
    refine fw_callVV (as := [.int (Int32.ofInt 0)]) (dq rfl) (pg_ok.2.2.1 215 _ _ _ _ rfl) rfl (by decide +kernel) rfl rfl (c5 y1 M1 e1 q1 h3) (fun M4 e4 q4 => ?_)
    have hJ4 : ∀ e ∈ RM, M4.2.2 e.1 e.2.1 = e.2.2 := fun e he => by rw [e4]; exact hJ1 e he
    show AW l (pI pg 215) P kc ks 21 [(0, .ref 58), (1, .int (x))] [] SHF _
    refine AW.aload_n (dq rfl) rfl rfl ?_
    show AW l (pI pg 215) P kc ks 22 _ _ SHF _
    refine AW.iload_n (dq rfl) rfl ?_
    show AW l (pI pg 215) P kc ks 23 _ _ SHF _
    refine fw_callVI (as := [.int (x)]) (dq rfl) (pg_ok.2.2.1 215 _ _ _ _ rfl) rfl (by decide +kernel) rfl rfl (c7 y1 M1 e1 q1 h3 M4 e4 q4) (fun y6 M6 e6 q6 => ?_)
    have hJ6 : ∀ e ∈ RM, M6.2.2 e.1 e.2.1 = e.2.2 := fun e he => by rw [e6]; exact hJ4 e he
    show AW l (pI pg 215) P kc ks 26 [(0, .ref 58), (1, .int (x))] [.int (y6)] SHF _
    refine AW.iret (dq rfl) rfl ?_
    exact r8 y1 M1 e1 q1 h3 M4 e4 q4 y6 M6 e6 q6
  · have _ := h3
    refine AW.iconst (dq rfl) ?_
    show AW l (pI pg 215) P kc ks 15 _ _ SHF _
    refine AW.iret (dq rfl) rfl ?_
    exact r9 y1 M1 e1 q1 h3

theorem mba_0 {l : aL} {P : aP} {kc ks : Nat} {x : Int32} {M : aM} (hJ : ∀ e ∈ RM, M.2.2 e.1 e.2.1 = e.2.2) (hl0 : l.1.stackTraces = false) (Q1 : Int32 → aM → Prop) (c2 : AC l (pI pg 203) (fcI (aset M 58 0 (.int (Int32.ofInt 0))) Q1) 0 0 [.ref 58, .int (x), .int (Int32.ofInt 1)] SHF (aset M 58 0 (.int (Int32.ofInt 0)))) (Q4 : Int32 → aM → aM → Prop) (c5 : ∀ (y1 : Int32), ∀ (M1 : aM), ∀ (e1 : M1.2.2 = (aset M 58 0 (.int (Int32.ofInt 0))).2.2), ∀ (q1 : Q1 y1 M1), ∀ (h3 : ¬ (y1 : Int32) = 0), AC l (pI pg 204) (fcV M1 (Q4 y1 M1)) 0 0 [.ref 58, .int (Int32.ofInt 0)] SHF M1) (Q6 : Int32 → aM → aM → Int32 → aM → Prop) (c7 : ∀ (y1 : Int32), ∀ (M1 : aM), ∀ (e1 : M1.2.2 = (aset M 58 0 (.int (Int32.ofInt 0))).2.2), ∀ (q1 : Q1 y1 M1), ∀ (h3 : ¬ (y1 : Int32) = 0), ∀ (M4 : aM), ∀ (e4 : M4.2.2 = M1.2.2), ∀ (q4 : (Q4 y1 M1) M4), AC l (pI pg 209) (fcI M4 (Q6 y1 M1 M4)) 0 0 [.ref 58, .int (x)] SHF M4) (k9 : ∀ (y1 : Int32), ∀ (M1 : aM), ∀ (e1 : M1.2.2 = (aset M 58 0 (.int (Int32.ofInt 0))).2.2), ∀ (q1 : Q1 y1 M1), ∀ (h3 : ¬ (y1 : Int32) = 0), ∀ (M4 : aM), ∀ (e4 : M4.2.2 = M1.2.2), ∀ (q4 : (Q4 y1 M1) M4), ∀ (y6 : Int32), ∀ (M6 : aM), ∀ (e6 : M6.2.2 = M4.2.2), ∀ (q6 : (Q6 y1 M1 M4) y6 M6), ∀ (h8 : (y6 : Int32) = 0), AW l (pI pg 218) P kc ks 35 [(3, .int (Int32.ofInt 0)), (2, .int (Int32.ofInt (-1))), (1, .int (x)), (0, .ref 58)] [] SHF M6) (r10 : ∀ (y1 : Int32), ∀ (M1 : aM), ∀ (e1 : M1.2.2 = (aset M 58 0 (.int (Int32.ofInt 0))).2.2), ∀ (q1 : Q1 y1 M1), ∀ (h3 : ¬ (y1 : Int32) = 0), ∀ (M4 : aM), ∀ (e4 : M4.2.2 = M1.2.2), ∀ (q4 : (Q4 y1 M1) M4), ∀ (y6 : Int32), ∀ (M6 : aM), ∀ (e6 : M6.2.2 = M4.2.2), ∀ (q6 : (Q6 y1 M1 M4) y6 M6), ∀ (h8 : ¬ ((y6 : Int32) = 0)), P (.inl (some (.int (Int32.ofInt (-1))))) SHF M6) (r11 : ∀ (y1 : Int32), ∀ (M1 : aM), ∀ (e1 : M1.2.2 = (aset M 58 0 (.int (Int32.ofInt 0))).2.2), ∀ (q1 : Q1 y1 M1), ∀ (h3 : (y1 : Int32) = 0), P (.inl (some (.int (Int32.ofInt 0)))) SHF M1) : AW l (pI pg 218) P kc ks 0 [(0, .ref 58), (1, .int (x))] [] SHF M := by
  refine AW.aload_n (dq rfl) rfl rfl ?_
  show AW l (pI pg 218) P kc ks 1 _ _ SHF _
  refine AW.iconst (dq rfl) ?_
  show AW l (pI pg 218) P kc ks 2 _ _ SHF _
  refine fw_putI (dq rfl) (pg_ok.2.1 218 _ _ _ _ rfl) rfl rfl rfl ?_
  show AW l (pI pg 218) P kc ks 5 _ _ SHF _
  refine AW.aload_n (dq rfl) rfl rfl ?_
  show AW l (pI pg 218) P kc ks 6 _ _ SHF _
  refine AW.iload_n (dq rfl) rfl ?_
  show AW l (pI pg 218) P kc ks 7 _ _ SHF _
  refine AW.iconst (dq rfl) ?_
  show AW l (pI pg 218) P kc ks 8 _ _ SHF _
  refine fw_callVI (as := [.int (x), .int (Int32.ofInt 1)]) (dq rfl) (pg_ok.2.2.1 218 _ _ _ _ rfl) rfl (by decide +kernel) rfl rfl (c2) (fun y1 M1 e1 q1 => ?_)
  have hJ1 : ∀ e ∈ RM, M1.2.2 e.1 e.2.1 = e.2.2 := fun e he => by rw [e1]; exact hJ e he
  show AW l (pI pg 218) P kc ks 11 [(0, .ref 58), (1, .int (x))] [.int (y1)] SHF _
  refine AW.if_ne (dq rfl) (tgt := 16) (by decide) (fun h3 => ?_) (fun h3 => ?_)
  · have _ := h3
    refine AW.aload_n (dq rfl) rfl rfl ?_
    show AW l (pI pg 218) P kc ks 17 _ _ SHF _
    refine AW.iconst (dq rfl) ?_
    show AW l (pI pg 218) P kc ks 18 _ _ SHF _
    refine fw_callVV (as := [.int (Int32.ofInt 0)]) (dq rfl) (pg_ok.2.2.1 218 _ _ _ _ rfl) rfl (by decide +kernel) rfl rfl (c5 y1 M1 e1 q1 h3) (fun M4 e4 q4 => ?_)
    have hJ4 : ∀ e ∈ RM, M4.2.2 e.1 e.2.1 = e.2.2 := fun e he => by rw [e4]; exact hJ1 e he
    show AW l (pI pg 218) P kc ks 21 [(0, .ref 58), (1, .int (x))] [] SHF _
    refine AW.aload_n (dq rfl) rfl rfl ?_
    show AW l (pI pg 218) P kc ks 22 _ _ SHF _
    refine AW.iload_n (dq rfl) rfl ?_
    show AW l (pI pg 218) P kc ks 23 _ _ SHF _
    refine fw_callVI (as := [.int (x)]) (dq rfl) (pg_ok.2.2.1 218 _ _ _ _ rfl) rfl (by decide +kernel) rfl rfl (c7 y1 M1 e1 q1 h3 M4 e4 q4) (fun y6 M6 e6 q6 => ?_)
    have hJ6 : ∀ e ∈ RM, M6.2.2 e.1 e.2.1 = e.2.2 := fun e he => by rw [e6]; exact hJ4 e he
    show AW l (pI pg 218) P kc ks 26 [(0, .ref 58), (1, .int (x))] [.int (y6)] SHF _
    refine AW.if_eq (dq rfl) (tgt := 31) (by decide) (fun h8 => ?_) (fun h8 => ?_)
    · have _ := h8
      refine AW.iconst (dq rfl) ?_
      show AW l (pI pg 218) P kc ks 32 _ _ SHF _
      refine AW.istore_n (dq rfl) (by decide +kernel) ?_
      show AW l (pI pg 218) P kc ks 33 [(2, .int (Int32.ofInt (-1))), (0, .ref 58), (1, .int (x))] [] SHF _
      refine AW.iconst (dq rfl) ?_
      show AW l (pI pg 218) P kc ks 34 _ _ SHF _
      refine AW.istore_n (dq rfl) (by decide +kernel) ?_
      show AW l (pI pg 218) P kc ks 35 [(3, .int (Int32.ofInt 0)), (2, .int (Int32.ofInt (-1))), (0, .ref 58), (1, .int (x))] [] SHF _
      refine AW.drop (lv' := [(3, .int (Int32.ofInt 0)), (2, .int (Int32.ofInt (-1))), (1, .int (x)), (0, .ref 58)]) (List.forall_mem_cons.mpr ⟨List.mem_of_getElem? (i := 0) rfl, List.forall_mem_cons.mpr ⟨List.mem_of_getElem? (i := 1) rfl, List.forall_mem_cons.mpr ⟨List.mem_of_getElem? (i := 3) rfl, List.forall_mem_cons.mpr ⟨List.mem_of_getElem? (i := 2) rfl, fun _ h => absurd h List.not_mem_nil⟩⟩⟩⟩) ?_
      exact k9 y1 M1 e1 q1 h3 M4 e4 q4 y6 M6 e6 q6 h8
    · have _ := h8
      refine AW.iconst (dq rfl) ?_
      show AW l (pI pg 218) P kc ks 30 _ _ SHF _
      refine AW.iret (dq rfl) rfl ?_
      exact r10 y1 M1 e1 q1 h3 M4 e4 q4 y6 M6 e6 q6 h8
  · have _ := h3
    refine AW.iconst (dq rfl) ?_
    show AW l (pI pg 218) P kc ks 15 _ _ SHF _
    refine AW.iret (dq rfl) rfl ?_
    exact r11 y1 M1 e1 q1 h3

theorem mba_35 {l : aL} {P : aP} {kc ks : Nat} {s : Nat} {v x : Int32} {M : aM} (hJ : ∀ e ∈ RM, M.2.2 e.1 e.2.1 = e.2.2) (hl0 : l.1.stackTraces = false) (r2 : ∀ (h1 : ((Int32.ofInt 1) <<< ((M.1 58 2) &&& 31) : Int32) ≤ (nI s : Int32)), P (.inl (some (.int (v)))) SHF M) (o3 : ∀ (h1 : ¬ (((Int32.ofInt 1) <<< ((M.1 58 2) &&& 31) : Int32) ≤ (nI s : Int32))), vp_in (nI s) 256) (k5 : ∀ (h1 : ¬ (((Int32.ofInt 1) <<< ((M.1 58 2) &&& 31) : Int32) ≤ (nI s : Int32))), ∀ (h4 : ¬ (M.1 77 (nI s).toNatClampNeg : Int32) = (Int32.ofInt (-1) : Int32)), AW l (pI pg 218) P kc ks 35 [(3, .int ((nI s) + Int32.ofInt 1)), (2, .int (v)), (1, .int (x)), (0, .ref 58)] [] SHF M) (k7 : ∀ (h1 : ¬ (((Int32.ofInt 1) <<< ((M.1 58 2) &&& 31) : Int32) ≤ (nI s : Int32))), ∀ (h4 : (M.1 77 (nI s).toNatClampNeg : Int32) = (Int32.ofInt (-1) : Int32)), ∀ (h6 : (v : Int32) = (Int32.ofInt (-1) : Int32)), AW l (pI pg 218) P kc ks 35 [(3, .int ((nI s) + Int32.ofInt 1)), (2, .int (nI s)), (1, .int (x)), (0, .ref 58)] [] SHF M) (Q8 : Int32 → aM → Prop) (c9 : ∀ (h1 : ¬ (((Int32.ofInt 1) <<< ((M.1 58 2) &&& 31) : Int32) ≤ (nI s : Int32))), ∀ (h4 : (M.1 77 (nI s).toNatClampNeg : Int32) = (Int32.ofInt (-1) : Int32)), ∀ (h6 : ¬ ((v : Int32) = (Int32.ofInt (-1) : Int32))), AC l (pI pg 217) (fcI M Q8) 0 0 [.int (nI s)] SHF M) (Q10 : Int32 → aM → Int32 → aM → Prop) (c11 : ∀ (h1 : ¬ (((Int32.ofInt 1) <<< ((M.1 58 2) &&& 31) : Int32) ≤ (nI s : Int32))), ∀ (h4 : (M.1 77 (nI s).toNatClampNeg : Int32) = (Int32.ofInt (-1) : Int32)), ∀ (h6 : ¬ ((v : Int32) = (Int32.ofInt (-1) : Int32))), ∀ (y8 : Int32), ∀ (M8 : aM), ∀ (e8 : M8.2.2 = M.2.2), ∀ (q8 : Q8 y8 M8), AC l (pI pg 217) (fcI M8 (Q10 y8 M8)) 0 0 [.int (v)] SHF M8) (k13 : ∀ (h1 : ¬ (((Int32.ofInt 1) <<< ((M.1 58 2) &&& 31) : Int32) ≤ (nI s : Int32))), ∀ (h4 : (M.1 77 (nI s).toNatClampNeg : Int32) = (Int32.ofInt (-1) : Int32)), ∀ (h6 : ¬ ((v : Int32) = (Int32.ofInt (-1) : Int32))), ∀ (y8 : Int32), ∀ (M8 : aM), ∀ (e8 : M8.2.2 = M.2.2), ∀ (q8 : Q8 y8 M8), ∀ (y10 : Int32), ∀ (M10 : aM), ∀ (e10 : M10.2.2 = M8.2.2), ∀ (q10 : (Q10 y8 M8) y10 M10), ∀ (h12 : (y10 : Int32) ≤ (y8 : Int32)), AW l (pI pg 218) P kc ks 35 [(3, .int ((nI s) + Int32.ofInt 1)), (2, .int (v)), (1, .int (x)), (0, .ref 58)] [] SHF M10) (k14 : ∀ (h1 : ¬ (((Int32.ofInt 1) <<< ((M.1 58 2) &&& 31) : Int32) ≤ (nI s : Int32))), ∀ (h4 : (M.1 77 (nI s).toNatClampNeg : Int32) = (Int32.ofInt (-1) : Int32)), ∀ (h6 : ¬ ((v : Int32) = (Int32.ofInt (-1) : Int32))), ∀ (y8 : Int32), ∀ (M8 : aM), ∀ (e8 : M8.2.2 = M.2.2), ∀ (q8 : Q8 y8 M8), ∀ (y10 : Int32), ∀ (M10 : aM), ∀ (e10 : M10.2.2 = M8.2.2), ∀ (q10 : (Q10 y8 M8) y10 M10), ∀ (h12 : ¬ ((y10 : Int32) ≤ (y8 : Int32))), AW l (pI pg 218) P kc ks 35 [(3, .int ((nI s) + Int32.ofInt 1)), (2, .int (nI s)), (1, .int (x)), (0, .ref 58)] [] SHF M10) : AW l (pI pg 218) P kc ks 35 [(3, .int (nI s)), (2, .int (v)), (1, .int (x)), (0, .ref 58)] [] SHF M := by
  refine AW.iload_n (dq rfl) rfl ?_
  show AW l (pI pg 218) P kc ks 36 _ _ SHF _
  refine AW.iconst (dq rfl) ?_
  show AW l (pI pg 218) P kc ks 37 _ _ SHF _
  refine AW.aload_n (dq rfl) rfl rfl ?_
  show AW l (pI pg 218) P kc ks 38 _ _ SHF _
  refine fw_get (dq rfl) (pg_ok.2.1 218 _ _ _ _ rfl) rfl (v := .int (M.1 58 2)) rfl ?_
  show AW l (pI pg 218) P kc ks 41 _ _ SHF _
  refine AW.ishl (dq rfl) ?_
  show AW l (pI pg 218) P kc ks 42 _ _ SHF _
  refine AW.icmp_ge (dq rfl) (tgt := 79) (by decide) (fun h1 => ?_) (fun h1 => ?_)
  · have _ := h1
    refine AW.iload_n (dq rfl) rfl ?_
    show AW l (pI pg 218) P kc ks 80 _ _ SHF _
    refine AW.iret (dq rfl) rfl ?_
    exact r2 h1
  · have _ := h1
    refine AW.aload_n (dq rfl) rfl rfl ?_
    show AW l (pI pg 218) P kc ks 46 _ _ SHF _
    refine fw_get (dq rfl) (pg_ok.2.1 218 _ _ _ _ rfl) rfl (v := .ref 77) (isTA_ok rfl (rgR_ok hJ rfl)) ?_
    show AW l (pI pg 218) P kc ks 49 _ _ SHF _
    refine AW.iload_n (dq rfl) rfl ?_
    show AW l (pI pg 218) P kc ks 50 _ _ SHF _
    refine AW.iald (dq rfl) rfl (o3 h1) ?_
    show AW l (pI pg 218) P kc ks 51 _ _ SHF _
    refine AW.iconst (dq rfl) ?_
    show AW l (pI pg 218) P kc ks 52 _ _ SHF _
    refine AW.icmp_ne (dq rfl) (tgt := 73) (by decide) (fun h4 => ?_) (fun h4 => ?_)
    · have _ := h4
      refine AW.iinc (dq rfl) rfl (by decide +kernel) ?_
      show AW l (pI pg 218) P kc ks 76 [(3, .int ((nI s) + Int32.ofInt 1)), (2, .int (v)), (1, .int (x)), (0, .ref 58)] [] SHF _
      refine AW.goto (dq rfl) (tgt := 35) (by decide) ?_
      refine AW.drop (lv' := [(3, .int ((nI s) + Int32.ofInt 1)), (2, .int (v)), (1, .int (x)), (0, .ref 58)]) (List.forall_mem_cons.mpr ⟨List.mem_of_getElem? (i := 0) rfl, List.forall_mem_cons.mpr ⟨List.mem_of_getElem? (i := 1) rfl, List.forall_mem_cons.mpr ⟨List.mem_of_getElem? (i := 2) rfl, List.forall_mem_cons.mpr ⟨List.mem_of_getElem? (i := 3) rfl, fun _ h => absurd h List.not_mem_nil⟩⟩⟩⟩) ?_
      exact k5 h1 h4
    · have _ := h4
      refine AW.iload_n (dq rfl) rfl ?_
      show AW l (pI pg 218) P kc ks 56 _ _ SHF _
      refine AW.iconst (dq rfl) ?_
      show AW l (pI pg 218) P kc ks 57 _ _ SHF _
      refine AW.icmp_eq (dq rfl) (tgt := 71) (by decide) (fun h6 => ?_) (fun h6 => ?_)
      · have _ := h6
        refine AW.iload_n (dq rfl) rfl ?_
        show AW l (pI pg 218) P kc ks 72 _ _ SHF _
        refine AW.istore_n (dq rfl) (by decide +kernel) ?_
        show AW l (pI pg 218) P kc ks 73 [(2, .int (nI s)), (3, .int (nI s)), (1, .int (x)), (0, .ref 58)] [] SHF _
        refine AW.iinc (dq rfl) rfl (by decide +kernel) ?_
        show AW l (pI pg 218) P kc ks 76 [(3, .int ((nI s) + Int32.ofInt 1)), (2, .int (nI s)), (1, .int (x)), (0, .ref 58)] [] SHF _
        refine AW.goto (dq rfl) (tgt := 35) (by decide) ?_
        refine AW.drop (lv' := [(3, .int ((nI s) + Int32.ofInt 1)), (2, .int (nI s)), (1, .int (x)), (0, .ref 58)]) (List.forall_mem_cons.mpr ⟨List.mem_of_getElem? (i := 0) rfl, List.forall_mem_cons.mpr ⟨List.mem_of_getElem? (i := 1) rfl, List.forall_mem_cons.mpr ⟨List.mem_of_getElem? (i := 2) rfl, List.forall_mem_cons.mpr ⟨List.mem_of_getElem? (i := 3) rfl, fun _ h => absurd h List.not_mem_nil⟩⟩⟩⟩) ?_
        exact k7 h1 h4 h6
      · have _ := h6
        refine AW.iload_n (dq rfl) rfl ?_
        show AW l (pI pg 218) P kc ks 61 _ _ SHF _
        refine fw_callSI (as := [.int (nI s)]) (dq rfl) (pg_ok.2.2.1 218 _ _ _ _ rfl) (by decide +kernel) rfl rfl (c9 h1 h4 h6) (fun y8 M8 e8 q8 => ?_)
        have hJ8 : ∀ e ∈ RM, M8.2.2 e.1 e.2.1 = e.2.2 := fun e he => by rw [e8]; exact hJ e he
        show AW l (pI pg 218) P kc ks 64 [(3, .int (nI s)), (2, .int (v)), (1, .int (x)), (0, .ref 58)] [.int (y8)] SHF _
        refine AW.iload_n (dq rfl) rfl ?_
        show AW l (pI pg 218) P kc ks 65 _ _ SHF _
        refine fw_callSI (as := [.int (v)]) (dq rfl) (pg_ok.2.2.1 218 _ _ _ _ rfl) (by decide +kernel) rfl rfl (c11 h1 h4 h6 y8 M8 e8 q8) (fun y10 M10 e10 q10 => ?_)
        have hJ10 : ∀ e ∈ RM, M10.2.2 e.1 e.2.1 = e.2.2 := fun e he => by rw [e10]; exact hJ8 e he
        show AW l (pI pg 218) P kc ks 68 [(3, .int (nI s)), (2, .int (v)), (1, .int (x)), (0, .ref 58)] [.int (y10), .int (y8)] SHF _
        refine AW.icmp_ge (dq rfl) (tgt := 73) (by decide) (fun h12 => ?_) (fun h12 => ?_)
        · have _ := h12
          refine AW.iinc (dq rfl) rfl (by decide +kernel) ?_
          show AW l (pI pg 218) P kc ks 76 [(3, .int ((nI s) + Int32.ofInt 1)), (2, .int (v)), (1, .int (x)), (0, .ref 58)] [] SHF _
          refine AW.goto (dq rfl) (tgt := 35) (by decide) ?_
          refine AW.drop (lv' := [(3, .int ((nI s) + Int32.ofInt 1)), (2, .int (v)), (1, .int (x)), (0, .ref 58)]) (List.forall_mem_cons.mpr ⟨List.mem_of_getElem? (i := 0) rfl, List.forall_mem_cons.mpr ⟨List.mem_of_getElem? (i := 1) rfl, List.forall_mem_cons.mpr ⟨List.mem_of_getElem? (i := 2) rfl, List.forall_mem_cons.mpr ⟨List.mem_of_getElem? (i := 3) rfl, fun _ h => absurd h List.not_mem_nil⟩⟩⟩⟩) ?_
          exact k13 h1 h4 h6 y8 M8 e8 q8 y10 M10 e10 q10 h12
        · have _ := h12
          refine AW.iload_n (dq rfl) rfl ?_
          show AW l (pI pg 218) P kc ks 72 _ _ SHF _
          refine AW.istore_n (dq rfl) (by decide +kernel) ?_
          show AW l (pI pg 218) P kc ks 73 [(2, .int (nI s)), (3, .int (nI s)), (1, .int (x)), (0, .ref 58)] [] SHF _
          refine AW.iinc (dq rfl) rfl (by decide +kernel) ?_
          show AW l (pI pg 218) P kc ks 76 [(3, .int ((nI s) + Int32.ofInt 1)), (2, .int (nI s)), (1, .int (x)), (0, .ref 58)] [] SHF _
          refine AW.goto (dq rfl) (tgt := 35) (by decide) ?_
          refine AW.drop (lv' := [(3, .int ((nI s) + Int32.ofInt 1)), (2, .int (nI s)), (1, .int (x)), (0, .ref 58)]) (List.forall_mem_cons.mpr ⟨List.mem_of_getElem? (i := 0) rfl, List.forall_mem_cons.mpr ⟨List.mem_of_getElem? (i := 1) rfl, List.forall_mem_cons.mpr ⟨List.mem_of_getElem? (i := 2) rfl, List.forall_mem_cons.mpr ⟨List.mem_of_getElem? (i := 3) rfl, fun _ h => absurd h List.not_mem_nil⟩⟩⟩⟩) ?_
          exact k14 h1 h4 h6 y8 M8 e8 q8 y10 M10 e10 q10 h12

