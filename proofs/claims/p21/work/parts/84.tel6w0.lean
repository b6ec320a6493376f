/-! stretches of the guest, printed by wip/gen/segs_gu.py -/
theorem sksa_0 {l : aL} {P : aP} {kc ks : Nat} {f : Int64} {M : aM} (hJ : ∀ e ∈ RR.2, M.2.2 e.1 e.2.1 = e.2.2) (hl0 : l.1.stackTraces = false) (k1 : AW l (pI pg 147) P kc ks 5 [(4, .int (Int32.ofInt 0)), (3, .int (Int32.ofInt 0)), (1, .long (f)), (0, .ref 4)] [] SHF M) : AW l (pI pg 147) P kc ks 0 [(0, .ref 4), (1, .long (f))] [] SHF M := by
  refine AW.iconst (dq rfl) ?_
  show AW l (pI pg 147) P kc ks 1 _ _ SHF _
  refine AW.istore_n (dq rfl) (by decide +kernel) ?_
  show AW l (pI pg 147) P kc ks 2 [(3, .int (Int32.ofInt 0)), (0, .ref 4), (1, .long (f))] [] SHF _
  refine AW.iconst (dq rfl) ?_
  show AW l (pI pg 147) P kc ks 3 _ _ SHF _
  refine AW.istore (dq rfl) (by decide +kernel) ?_
  show AW l (pI pg 147) P kc ks 5 [(4, .int (Int32.ofInt 0)), (3, .int (Int32.ofInt 0)), (0, .ref 4), (1, .long (f))] [] SHF _
  refine AW.drop (lv' := [(4, .int (Int32.ofInt 0)), (3, .int (Int32.ofInt 0)), (1, .long (f)), (0, .ref 4)]) (List.forall_mem_cons.mpr ⟨List.mem_of_getElem? (i := 0) rfl, List.forall_mem_cons.mpr ⟨List.mem_of_getElem? (i := 1) rfl, List.forall_mem_cons.mpr ⟨List.mem_of_getElem? (i := 3) rfl, List.forall_mem_cons.mpr ⟨List.mem_of_getElem? (i := 2) rfl, fun _ h => absurd h List.not_mem_nil⟩⟩⟩⟩) ?_
  exact k1

theorem sksa_5 {l : aL} {P : aP} {kc ks : Nat} {w : Nat} {v : Int32} {f : Int64} {M : aM} (hJ : ∀ e ∈ RR.2, M.2.2 e.1 e.2.1 = e.2.2) (hl0 : l.1.stackTraces = false) (r2 : ∀ (h1 : (M.1 4 1 : Int32) ≤ (nI w : Int32)), P (.inl (some (.int (v)))) SHF M) (r4 : ∀ (h1 : ¬ ((M.1 4 1 : Int32) ≤ (nI w : Int32))), ∀ (h3 : (lg_cmp (f) ((-1)) : Int32) = 0), P (.inl (some (.int (v)))) SHF M) (Q5 : Int32 → aM → Prop) (c6 : ∀ (h1 : ¬ ((M.1 4 1 : Int32) ≤ (nI w : Int32))), ∀ (h3 : ¬ ((lg_cmp (f) ((-1)) : Int32) = 0)), AC l (pI pg 108) (fcI M Q5) 0 0 [.long (f)] SHF M) (Q7 : Int32 → aM → Int32 → aM → Prop) (c8 : ∀ (h1 : ¬ ((M.1 4 1 : Int32) ≤ (nI w : Int32))), ∀ (h3 : ¬ ((lg_cmp (f) ((-1)) : Int32) = 0)), ∀ (y5 : Int32), ∀ (M5 : aM), ∀ (e5 : M5.2.2 = M.2.2), ∀ (q5 : Q5 y5 M5), AC l (pI pg 112) (fcI M5 (Q7 y5 M5)) 0 0 [.int (y5), .int (nI w)] SHF M5) (k11 : ∀ (h1 : ¬ ((M.1 4 1 : Int32) ≤ (nI w : Int32))), ∀ (h3 : ¬ ((lg_cmp (f) ((-1)) : Int32) = 0)), ∀ (y5 : Int32), ∀ (M5 : aM), ∀ (e5 : M5.2.2 = M.2.2), ∀ (q5 : Q5 y5 M5), ∀ (y7 : Int32), ∀ (M7 : aM), ∀ (e7 : M7.2.2 = M5.2.2), ∀ (q7 : (Q7 y5 M5) y7 M7), ∀ (h10 : (hpV (M7.1 4 0) (y7) : Int32) = 0), AW l (pI pg 147) P kc ks 5 [(4, .int ((nI w) + Int32.ofInt 1)), (3, .int (v)), (1, .long (f)), (0, .ref 4)] [] SHF M7) (o12 : ∀ (h1 : ¬ ((M.1 4 1 : Int32) ≤ (nI w : Int32))), ∀ (h3 : ¬ ((lg_cmp (f) ((-1)) : Int32) = 0)), ∀ (y5 : Int32), ∀ (M5 : aM), ∀ (e5 : M5.2.2 = M.2.2), ∀ (q5 : Q5 y5 M5), ∀ (y7 : Int32), ∀ (M7 : aM), ∀ (e7 : M7.2.2 = M5.2.2), ∀ (q7 : (Q7 y5 M5) y7 M7), ∀ (h10 : ¬ ((hpV (M7.1 4 0) (y7) : Int32) = 0)), vp_in (((y7) * ((Int8.ofInt 8).toInt32)) + (nI w)) 48) (k13 : ∀ (h1 : ¬ ((M.1 4 1 : Int32) ≤ (nI w : Int32))), ∀ (h3 : ¬ ((lg_cmp (f) ((-1)) : Int32) = 0)), ∀ (y5 : Int32), ∀ (M5 : aM), ∀ (e5 : M5.2.2 = M.2.2), ∀ (q5 : Q5 y5 M5), ∀ (y7 : Int32), ∀ (M7 : aM), ∀ (e7 : M7.2.2 = M5.2.2), ∀ (q7 : (Q7 y5 M5) y7 M7), ∀ (h10 : ¬ ((hpV (M7.1 4 0) (y7) : Int32) = 0)), AW l (pI pg 147) P kc ks 5 [(4, .int ((nI w) + Int32.ofInt 1)), (3, .int ((v) ||| ((M7.1 12 (((y7) * ((Int8.ofInt 8).toInt32)) + (nI w)).toNatClampNeg) <<< (((Int32.ofInt 4) * (nI w)) &&& 31)))), (1, .long (f)), (0, .ref 4)] [] SHF M7) : AW l (pI pg 147) P kc ks 5 [(4, .int (nI w)), (3, .int (v)), (1, .long (f)), (0, .ref 4)] [] SHF M := by
  refine AW.iload (dq rfl) rfl ?_
  show AW l (pI pg 147) P kc ks 7 _ _ SHF _
  refine AW.aload_n (dq rfl) rfl rfl ?_
  show AW l (pI pg 147) P kc ks 8 _ _ SHF _
  refine fw_get (dq rfl) (pg_ok.2.1 147 _ _ _ _ rfl) rfl (v := .int (M.1 4 1)) rfl ?_
  show AW l (pI pg 147) P kc ks 11 _ _ SHF _
  refine AW.icmp_ge (dq rfl) (tgt := 69) (by decide) (fun h1 => ?_) (fun h1 => ?_)
  · have _ := h1
    refine AW.iload_n (dq rfl) rfl ?_
    show AW l (pI pg 147) P kc ks 70 _ _ SHF _
    refine AW.iret (dq rfl) rfl ?_
    exact r2 h1
  · have _ := h1
    refine AW.lload_n (dq rfl) rfl ?_
    show AW l (pI pg 147) P kc ks 15 _ _ SHF _
    refine AW.ldc2 (dq rfl) (pg_ok.2.2.2.2.2.1 147 _ (-1) rfl) ?_
    show AW l (pI pg 147) P kc ks 18 _ _ SHF _
    refine AW.lcmp (dq rfl) ?_
    show AW l (pI pg 147) P kc ks 19 _ _ SHF _
    refine AW.if_eq (dq rfl) (tgt := 69) (by decide) (fun h3 => ?_) (fun h3 => ?_)
    · have _ := h3
      refine AW.iload_n (dq rfl) rfl ?_
      show AW l (pI pg 147) P kc ks 70 _ _ SHF _
      refine AW.iret (dq rfl) rfl ?_
      exact r4 h1 h3
    · have _ := h3
      refine AW.lload_n (dq rfl) rfl ?_
      show AW l (pI pg 147) P kc ks 23 _ _ SHF _
      refine fw_callSI (as := [.long (f)]) (dq rfl) (pg_ok.2.2.1 147 _ _ _ _ rfl) (by decide +kernel) rfl rfl (c6 h1 h3) (fun y5 M5 e5 q5 => ?_)
      have hJ5 : ∀ e ∈ RR.2, M5.2.2 e.1 e.2.1 = e.2.2 := fun e he => by rw [e5]; exact hJ e he
      show AW l (pI pg 147) P kc ks 26 [(4, .int (nI w)), (3, .int (v)), (1, .long (f)), (0, .ref 4)] [.int (y5)] SHF _
      refine AW.iload (dq rfl) rfl ?_
      show AW l (pI pg 147) P kc ks 28 _ _ SHF _
      refine fw_callSI (as := [.int (y5), .int (nI w)]) (dq rfl) (pg_ok.2.2.1 147 _ _ _ _ rfl) (by decide +kernel) rfl rfl (c8 h1 h3 y5 M5 e5 q5) (fun y7 M7 e7 q7 => ?_)
      have hJ7 : ∀ e ∈ RR.2, M7.2.2 e.1 e.2.1 = e.2.2 := fun e he => by rw [e7]; exact hJ5 e he
      show AW l (pI pg 147) P kc ks 31 [(4, .int (nI w)), (3, .int (v)), (1, .long (f)), (0, .ref 4)] [.int (y7)] SHF _
      refine AW.istore (dq rfl) (by decide +kernel) ?_
      show AW l (pI pg 147) P kc ks 33 [(5, .int (y7)), (4, .int (nI w)), (3, .int (v)), (1, .long (f)), (0, .ref 4)] [] SHF _
      refine AW.aload_n (dq rfl) rfl rfl ?_
      show AW l (pI pg 147) P kc ks 34 _ _ SHF _
      refine AW.iload (dq rfl) rfl ?_
      show AW l (pI pg 147) P kc ks 36 _ _ SHF _
      refine fw_callVI (as := [.int (y7)]) (dq rfl) (pg_ok.2.2.1 147 _ _ _ _ rfl) rfl (by decide +kernel) rfl rfl (hpeA_c hl0 (fun e he => (fun e he => hJ7 e he) e (rk_RR e he))) (fun y9 M9 e9 q9 => ?_)
      obtain ⟨rfl, rfl⟩ := q9
      show AW l (pI pg 147) P kc ks 39 [(5, .int (y7)), (4, .int (nI w)), (3, .int (v)), (1, .long (f)), (0, .ref 4)] [.int (hpV (M7.1 4 0) (y7))] SHF _
      refine AW.if_eq (dq rfl) (tgt := 63) (by decide) (fun h10 => ?_) (fun h10 => ?_)
      · have _ := h10
        refine AW.iinc (dq rfl) rfl (by decide +kernel) ?_
        show AW l (pI pg 147) P kc ks 66 [(4, .int ((nI w) + Int32.ofInt 1)), (5, .int (y7)), (3, .int (v)), (1, .long (f)), (0, .ref 4)] [] SHF _
        refine AW.goto (dq rfl) (tgt := 5) (by decide) ?_
        refine AW.drop (lv' := [(4, .int ((nI w) + Int32.ofInt 1)), (3, .int (v)), (1, .long (f)), (0, .ref 4)]) (List.forall_mem_cons.mpr ⟨List.mem_of_getElem? (i := 0) rfl, List.forall_mem_cons.mpr ⟨List.mem_of_getElem? (i := 2) rfl, List.forall_mem_cons.mpr ⟨List.mem_of_getElem? (i := 3) rfl, List.forall_mem_cons.mpr ⟨List.mem_of_getElem? (i := 4) rfl, fun _ h => absurd h List.not_mem_nil⟩⟩⟩⟩) ?_
        exact k11 h1 h3 y5 M5 e5 q5 y7 M7 e7 q7 h10
      · have _ := h10
        refine AW.iload_n (dq rfl) rfl ?_
        show AW l (pI pg 147) P kc ks 43 _ _ SHF _
        refine AW.aload_n (dq rfl) rfl rfl ?_
        show AW l (pI pg 147) P kc ks 44 _ _ SHF _
        refine fw_get (dq rfl) (pg_ok.2.1 147 _ _ _ _ rfl) rfl (v := .ref 12) (isTA_ok rfl (rgR_ok hJ7 rfl)) ?_
        show AW l (pI pg 147) P kc ks 47 _ _ SHF _
        refine AW.iload (dq rfl) rfl ?_
        show AW l (pI pg 147) P kc ks 49 _ _ SHF _
        refine AW.bipush (dq rfl) ?_
        show AW l (pI pg 147) P kc ks 51 _ _ SHF _
        refine AW.imul (dq rfl) ?_
        show AW l (pI pg 147) P kc ks 52 _ _ SHF _
        refine AW.iload (dq rfl) rfl ?_
        show AW l (pI pg 147) P kc ks 54 _ _ SHF _
        refine AW.iadd (dq rfl) ?_
        show AW l (pI pg 147) P kc ks 55 _ _ SHF _
        refine AW.iald (dq rfl) rfl (o12 h1 h3 y5 M5 e5 q5 y7 M7 e7 q7 h10) ?_
        show AW l (pI pg 147) P kc ks 56 _ _ SHF _
        refine AW.iconst (dq rfl) ?_
        show AW l (pI pg 147) P kc ks 57 _ _ SHF _
        refine AW.iload (dq rfl) rfl ?_
        show AW l (pI pg 147) P kc ks 59 _ _ SHF _
        refine AW.imul (dq rfl) ?_
        show AW l (pI pg 147) P kc ks 60 _ _ SHF _
        refine AW.ishl (dq rfl) ?_
        show AW l (pI pg 147) P kc ks 61 _ _ SHF _
        refine AW.ior (dq rfl) ?_
        show AW l (pI pg 147) P kc ks 62 _ _ SHF _
        refine AW.istore_n (dq rfl) (by decide +kernel) ?_
        show AW l (pI pg 147) P kc ks 63 [(3, .int ((v) ||| ((M7.1 12 (((y7) * ((Int8.ofInt 8).toInt32)) + (nI w)).toNatClampNeg) <<< (((Int32.ofInt 4) * (nI w)) &&& 31)))), (5, .int (y7)), (4, .int (nI w)), (1, .long (f)), (0, .ref 4)] [] SHF _
        refine AW.iinc (dq rfl) rfl (by decide +kernel) ?_
        show AW l (pI pg 147) P kc ks 66 [(4, .int ((nI w) + Int32.ofInt 1)), (3, .int ((v) ||| ((M7.1 12 (((y7) * ((Int8.ofInt 8).toInt32)) + (nI w)).toNatClampNeg) <<< (((Int32.ofInt 4) * (nI w)) &&& 31)))), (5, .int (y7)), (1, .long (f)), (0, .ref 4)] [] SHF _
        refine AW.goto (dq rfl) (tgt := 5) (by decide) ?_
        refine AW.drop (lv' := [(4, .int ((nI w) + Int32.ofInt 1)), (3, .int ((v) ||| ((M7.1 12 (((y7) * ((Int8.ofInt 8).toInt32)) + (nI w)).toNatClampNeg) <<< (((Int32.ofInt 4) * (nI w)) &&& 31)))), (1, .long (f)), (0, .ref 4)]) (List.forall_mem_cons.mpr ⟨List.mem_of_getElem? (i := 0) rfl, List.forall_mem_cons.mpr ⟨List.mem_of_getElem? (i := 1) rfl, List.forall_mem_cons.mpr ⟨List.mem_of_getElem? (i := 3) rfl, List.forall_mem_cons.mpr ⟨List.mem_of_getElem? (i := 4) rfl, fun _ h => absurd h List.not_mem_nil⟩⟩⟩⟩) ?_
        exact k13 h1 h3 y5 M5 e5 q5 y7 M7 e7 q7 h10

theorem siga_0 {l : aL} {P : aP} {kc ks : Nat} {x : Int32} {M : aM} (hJ : ∀ e ∈ RR.2, M.2.2 e.1 e.2.1 = e.2.2) (hl0 : l.1.stackTraces = false) (k1 : AW l (pI pg 148) P kc ks 4 [(3, .int (Int32.ofInt 0)), (2, .int (Int32.ofInt 0)), (1, .int (x)), (0, .ref 4)] [] SHF M) : AW l (pI pg 148) P kc ks 0 [(0, .ref 4), (1, .int (x))] [] SHF M := by
  refine AW.iconst (dq rfl) ?_
  show AW l (pI pg 148) P kc ks 1 _ _ SHF _
  refine AW.istore_n (dq rfl) (by decide +kernel) ?_
  show AW l (pI pg 148) P kc ks 2 [(2, .int (Int32.ofInt 0)), (0, .ref 4), (1, .int (x))] [] SHF _
  refine AW.iconst (dq rfl) ?_
  show AW l (pI pg 148) P kc ks 3 _ _ SHF _
  refine AW.istore_n (dq rfl) (by decide +kernel) ?_
  show AW l (pI pg 148) P kc ks 4 [(3, .int (Int32.ofInt 0)), (2, .int (Int32.ofInt 0)), (0, .ref 4), (1, .int (x))] [] SHF _
  refine AW.drop (lv' := [(3, .int (Int32.ofInt 0)), (2, .int (Int32.ofInt 0)), (1, .int (x)), (0, .ref 4)]) (List.forall_mem_cons.mpr ⟨List.mem_of_getElem? (i := 0) rfl, List.forall_mem_cons.mpr ⟨List.mem_of_getElem? (i := 1) rfl, List.forall_mem_cons.mpr ⟨List.mem_of_getElem? (i := 3) rfl, List.forall_mem_cons.mpr ⟨List.mem_of_getElem? (i := 2) rfl, fun _ h => absurd h List.not_mem_nil⟩⟩⟩⟩) ?_
  exact k1

theorem siga_4 {l : aL} {P : aP} {kc ks : Nat} {w : Nat} {v x : Int32} {M : aM} (hJ : ∀ e ∈ RR.2, M.2.2 e.1 e.2.1 = e.2.2) (hl0 : l.1.stackTraces = false) (r2 : ∀ (h1 : (M.1 4 1 : Int32) ≤ (nI w : Int32)), P (.inl (some (.int (v)))) SHF M) (k4 : ∀ (h1 : ¬ ((M.1 4 1 : Int32) ≤ (nI w : Int32))), ∀ (h3 : (((x) >>> ((nI w) &&& 31)) &&& (Int32.ofInt 1) : Int32) = 0), AW l (pI pg 148) P kc ks 4 [(3, .int ((nI w) + Int32.ofInt 1)), (2, .int (v)), (1, .int (x)), (0, .ref 4)] [] SHF M) (k5 : ∀ (h1 : ¬ ((M.1 4 1 : Int32) ≤ (nI w : Int32))), ∀ (h3 : ¬ ((((x) >>> ((nI w) &&& 31)) &&& (Int32.ofInt 1) : Int32) = 0)), AW l (pI pg 148) P kc ks 4 [(3, .int ((nI w) + Int32.ofInt 1)), (2, .int ((v) ||| (((Int8.ofInt 15).toInt32) <<< (((Int32.ofInt 4) * (nI w)) &&& 31)))), (1, .int (x)), (0, .ref 4)] [] SHF M) : AW l (pI pg 148) P kc ks 4 [(3, .int (nI w)), (2, .int (v)), (1, .int (x)), (0, .ref 4)] [] SHF M := by
  refine AW.iload_n (dq rfl) rfl ?_
  show AW l (pI pg 148) P kc ks 5 _ _ SHF _
  refine AW.aload_n (dq rfl) rfl rfl ?_
  show AW l (pI pg 148) P kc ks 6 _ _ SHF _
  refine fw_get (dq rfl) (pg_ok.2.1 148 _ _ _ _ rfl) rfl (v := .int (M.1 4 1)) rfl ?_
  show AW l (pI pg 148) P kc ks 9 _ _ SHF _
  refine AW.icmp_ge (dq rfl) (tgt := 35) (by decide) (fun h1 => ?_) (fun h1 => ?_)
  · have _ := h1
    refine AW.iload_n (dq rfl) rfl ?_
    show AW l (pI pg 148) P kc ks 36 _ _ SHF _
    refine AW.iret (dq rfl) rfl ?_
    exact r2 h1
  · have _ := h1
    refine AW.iload_n (dq rfl) rfl ?_
    show AW l (pI pg 148) P kc ks 13 _ _ SHF _
    refine AW.iload_n (dq rfl) rfl ?_
    show AW l (pI pg 148) P kc ks 14 _ _ SHF _
    refine AW.ishr (dq rfl) ?_
    show AW l (pI pg 148) P kc ks 15 _ _ SHF _
    refine AW.iconst (dq rfl) ?_
    show AW l (pI pg 148) P kc ks 16 _ _ SHF _
    refine AW.iand (dq rfl) ?_
    show AW l (pI pg 148) P kc ks 17 _ _ SHF _
    refine AW.if_eq (dq rfl) (tgt := 29) (by decide) (fun h3 => ?_) (fun h3 => ?_)
    · have _ := h3
      refine AW.iinc (dq rfl) rfl (by decide +kernel) ?_
      show AW l (pI pg 148) P kc ks 32 [(3, .int ((nI w) + Int32.ofInt 1)), (2, .int (v)), (1, .int (x)), (0, .ref 4)] [] SHF _
      refine AW.goto (dq rfl) (tgt := 4) (by decide) ?_
      refine AW.drop (lv' := [(3, .int ((nI w) + Int32.ofInt 1)), (2, .int (v)), (1, .int (x)), (0, .ref 4)]) (List.forall_mem_cons.mpr ⟨List.mem_of_getElem? (i := 0) rfl, List.forall_mem_cons.mpr ⟨List.mem_of_getElem? (i := 1) rfl, List.forall_mem_cons.mpr ⟨List.mem_of_getElem? (i := 2) rfl, List.forall_mem_cons.mpr ⟨List.mem_of_getElem? (i := 3) rfl, fun _ h => absurd h List.not_mem_nil⟩⟩⟩⟩) ?_
      exact k4 h1 h3
    · have _ := h3
      refine AW.iload_n (dq rfl) rfl ?_
      show AW l (pI pg 148) P kc ks 21 _ _ SHF _
      refine AW.bipush (dq rfl) ?_
      show AW l (pI pg 148) P kc ks 23 _ _ SHF _
      refine AW.iconst (dq rfl) ?_
      show AW l (pI pg 148) P kc ks 24 _ _ SHF _
      refine AW.iload_n (dq rfl) rfl ?_
      show AW l (pI pg 148) P kc ks 25 _ _ SHF _
      refine AW.imul (dq rfl) ?_
      show AW l (pI pg 148) P kc ks 26 _ _ SHF _
      refine AW.ishl (dq rfl) ?_
      show AW l (pI pg 148) P kc ks 27 _ _ SHF _
      refine AW.ior (dq rfl) ?_
      show AW l (pI pg 148) P kc ks 28 _ _ SHF _
      refine AW.istore_n (dq rfl) (by decide +kernel) ?_
      show AW l (pI pg 148) P kc ks 29 [(2, .int ((v) ||| (((Int8.ofInt 15).toInt32) <<< (((Int32.ofInt 4) * (nI w)) &&& 31)))), (3, .int (nI w)), (1, .int (x)), (0, .ref 4)] [] SHF _
      refine AW.iinc (dq rfl) rfl (by decide +kernel) ?_
      show AW l (pI pg 148) P kc ks 32 [(3, .int ((nI w) + Int32.ofInt 1)), (2, .int ((v) ||| (((Int8.ofInt 15).toInt32) <<< (((Int32.ofInt 4) * (nI w)) &&& 31)))), (1, .int (x)), (0, .ref 4)] [] SHF _
      refine AW.goto (dq rfl) (tgt := 4) (by decide) ?_
      refine AW.drop (lv' := [(3, .int ((nI w) + Int32.ofInt 1)), (2, .int ((v) ||| (((Int8.ofInt 15).toInt32) <<< (((Int32.ofInt 4) * (nI w)) &&& 31)))), (1, .int (x)), (0, .ref 4)]) (List.forall_mem_cons.mpr ⟨List.mem_of_getElem? (i := 0) rfl, List.forall_mem_cons.mpr ⟨List.mem_of_getElem? (i := 1) rfl, List.forall_mem_cons.mpr ⟨List.mem_of_getElem? (i := 2) rfl, List.forall_mem_cons.mpr ⟨List.mem_of_getElem? (i := 3) rfl, fun _ h => absurd h List.not_mem_nil⟩⟩⟩⟩) ?_
      exact k5 h1 h3

theorem prpa_0 {l : aL} {P : aP} {kc ks : Nat} {M : aM} (hJ : ∀ e ∈ RR.2, M.2.2 e.1 e.2.1 = e.2.2) (hl0 : l.1.stackTraces = false) (Q1 : Int32 → aM → Prop) (c2 : AC l (pI pg 32) (fcI M Q1) 0 0 [.ref 4] SHF M) (k3 : ∀ (y1 : Int32), ∀ (M1 : aM), ∀ (e1 : M1.2.2 = M.2.2), ∀ (q1 : Q1 y1 M1), AW l (pI pg 146) P kc ks 9 [(5, .int (Int32.ofInt 0)), (4, .int (y1)), (3, .ref 36), (2, .ref 30), (1, .ref 4), (0, .ref 45)] [] SHF M1) : AW l (pI pg 146) P kc ks 0 [(0, .ref 45), (1, .ref 4), (2, .ref 30), (3, .ref 36)] [] SHF M := by
  refine AW.aload_n (dq rfl) rfl rfl ?_
  show AW l (pI pg 146) P kc ks 1 _ _ SHF _
  refine fw_callVI (as := []) (dq rfl) (pg_ok.2.2.1 146 _ _ _ _ rfl) rfl (by decide +kernel) rfl rfl (c2) (fun y1 M1 e1 q1 => ?_)
  have hJ1 : ∀ e ∈ RR.2, M1.2.2 e.1 e.2.1 = e.2.2 := fun e he => by rw [e1]; exact hJ e he
  show AW l (pI pg 146) P kc ks 4 [(0, .ref 45), (1, .ref 4), (2, .ref 30), (3, .ref 36)] [.int (y1)] SHF _
  refine AW.istore (dq rfl) (by decide +kernel) ?_
  show AW l (pI pg 146) P kc ks 6 [(4, .int (y1)), (0, .ref 45), (1, .ref 4), (2, .ref 30), (3, .ref 36)] [] SHF _
  refine AW.iconst (dq rfl) ?_
  show AW l (pI pg 146) P kc ks 7 _ _ SHF _
  refine AW.istore (dq rfl) (by decide +kernel) ?_
  show AW l (pI pg 146) P kc ks 9 [(5, .int (Int32.ofInt 0)), (4, .int (y1)), (0, .ref 45), (1, .ref 4), (2, .ref 30), (3, .ref 36)] [] SHF _
  refine AW.drop (lv' := [(5, .int (Int32.ofInt 0)), (4, .int (y1)), (3, .ref 36), (2, .ref 30), (1, .ref 4), (0, .ref 45)]) (List.forall_mem_cons.mpr ⟨List.mem_of_getElem? (i := 0) rfl, List.forall_mem_cons.mpr ⟨List.mem_of_getElem? (i := 1) rfl, List.forall_mem_cons.mpr ⟨List.mem_of_getElem? (i := 5) rfl, List.forall_mem_cons.mpr ⟨List.mem_of_getElem? (i := 4) rfl, List.forall_mem_cons.mpr ⟨List.mem_of_getElem? (i := 3) rfl, List.forall_mem_cons.mpr ⟨List.mem_of_getElem? (i := 2) rfl, fun _ h => absurd h List.not_mem_nil⟩⟩⟩⟩⟩⟩) ?_
  exact k3 y1 M1 e1 q1

theorem prpa_9 {l : aL} {P : aP} {kc ks : Nat} {a : Nat} {e : Int32} {M : aM} (hJ : ∀ e ∈ RR.2, M.2.2 e.1 e.2.1 = e.2.2) (hl0 : l.1.stackTraces = false) (Q2 : Int64 → aM → Prop) (c3 : ∀ (h1 : (M.1 4 0 : Int32) ≤ (nI a : Int32)), AC l (pI pg 101) (fcJ M Q2) 0 0 [.ref 36, .ref 4, .ref 30, .int (e)] SHF M) (Q4 : Int64 → aM → Int32 → aM → Prop) (c5 : ∀ (h1 : (M.1 4 0 : Int32) ≤ (nI a : Int32)), ∀ (y2 : Int64), ∀ (M2 : aM), ∀ (e2 : M2.2.2 = M.2.2), ∀ (q2 : Q2 y2 M2), AC l (pI pg 147) (fcI M2 (Q4 y2 M2)) 0 0 [.ref 4, .long (y2)] SHF M2) (o6 : ∀ (h1 : (M.1 4 0 : Int32) ≤ (nI a : Int32)), ∀ (y2 : Int64), ∀ (M2 : aM), ∀ (e2 : M2.2.2 = M.2.2), ∀ (q2 : Q2 y2 M2), ∀ (y4 : Int32), ∀ (M4 : aM), ∀ (e4 : M4.2.2 = M2.2.2), ∀ (q4 : (Q4 y2 M2) y4 M4), vp_in (M.1 4 0) 7) (Q7 : Int64 → aM → Int32 → aM → Int32 → aM → Prop) (c8 : ∀ (h1 : (M.1 4 0 : Int32) ≤ (nI a : Int32)), ∀ (y2 : Int64), ∀ (M2 : aM), ∀ (e2 : M2.2.2 = M.2.2), ∀ (q2 : Q2 y2 M2), ∀ (y4 : Int32), ∀ (M4 : aM), ∀ (e4 : M4.2.2 = M2.2.2), ∀ (q4 : (Q4 y2 M2) y4 M4), AC l (pI pg 71) (fcI (aset M4 46 (M.1 4 0).toNatClampNeg (.int (y4))) (Q7 y2 M2 y4 M4)) 0 0 [.ref 4] SHF (aset M4 46 (M.1 4 0).toNatClampNeg (.int (y4)))) (o9 : ∀ (h1 : (M.1 4 0 : Int32) ≤ (nI a : Int32)), ∀ (y2 : Int64), ∀ (M2 : aM), ∀ (e2 : M2.2.2 = M.2.2), ∀ (q2 : Q2 y2 M2), ∀ (y4 : Int32), ∀ (M4 : aM), ∀ (e4 : M4.2.2 = M2.2.2), ∀ (q4 : (Q4 y2 M2) y4 M4), ∀ (y7 : Int32), ∀ (M7 : aM), ∀ (e7 : M7.2.2 = (aset M4 46 (M.1 4 0).toNatClampNeg (.int (y4))).2.2), ∀ (q7 : (Q7 y2 M2 y4 M4) y7 M7), vp_in ((aset M4 46 (M.1 4 0).toNatClampNeg (.int (y4))).1 4 0) 7) (r10 : ∀ (h1 : (M.1 4 0 : Int32) ≤ (nI a : Int32)), ∀ (y2 : Int64), ∀ (M2 : aM), ∀ (e2 : M2.2.2 = M.2.2), ∀ (q2 : Q2 y2 M2), ∀ (y4 : Int32), ∀ (M4 : aM), ∀ (e4 : M4.2.2 = M2.2.2), ∀ (q4 : (Q4 y2 M2) y4 M4), ∀ (y7 : Int32), ∀ (M7 : aM), ∀ (e7 : M7.2.2 = (aset M4 46 (M.1 4 0).toNatClampNeg (.int (y4))).2.2), ∀ (q7 : (Q7 y2 M2 y4 M4) y7 M7), P (.inl none) SHF (aset (aset M7 47 ((aset M4 46 (M.1 4 0).toNatClampNeg (.int (y4))).1 4 0).toNatClampNeg (.int (((Int16.ofInt 1000).toInt32) - (y7)))) 45 2 (.int (Int32.ofInt 1)))) (Q11 : Int64 → aM → Prop) (c12 : ∀ (h1 : ¬ ((M.1 4 0 : Int32) ≤ (nI a : Int32))), AC l (pI pg 101) (fcJ M Q11) 0 0 [.ref 36, .ref 4, .ref 30, .int ((e) ^^^ ((Int32.ofInt 1) <<< ((nI a) &&& 31)))] SHF M) (Q13 : Int64 → aM → Int32 → aM → Prop) (c14 : ∀ (h1 : ¬ ((M.1 4 0 : Int32) ≤ (nI a : Int32))), ∀ (y11 : Int64), ∀ (M11 : aM), ∀ (e11 : M11.2.2 = M.2.2), ∀ (q11 : Q11 y11 M11), AC l (pI pg 147) (fcI M11 (Q13 y11 M11)) 0 0 [.ref 4, .long (y11)] SHF M11) (o15 : ∀ (h1 : ¬ ((M.1 4 0 : Int32) ≤ (nI a : Int32))), ∀ (y11 : Int64), ∀ (M11 : aM), ∀ (e11 : M11.2.2 = M.2.2), ∀ (q11 : Q11 y11 M11), ∀ (y13 : Int32), ∀ (M13 : aM), ∀ (e13 : M13.2.2 = M11.2.2), ∀ (q13 : (Q13 y11 M11) y13 M13), vp_in (nI a) 7) (o16 : ∀ (h1 : ¬ ((M.1 4 0 : Int32) ≤ (nI a : Int32))), ∀ (y11 : Int64), ∀ (M11 : aM), ∀ (e11 : M11.2.2 = M.2.2), ∀ (q11 : Q11 y11 M11), ∀ (y13 : Int32), ∀ (M13 : aM), ∀ (e13 : M13.2.2 = M11.2.2), ∀ (q13 : (Q13 y11 M11) y13 M13), vp_in (nI a) 6) (k17 : ∀ (h1 : ¬ ((M.1 4 0 : Int32) ≤ (nI a : Int32))), ∀ (y11 : Int64), ∀ (M11 : aM), ∀ (e11 : M11.2.2 = M.2.2), ∀ (q11 : Q11 y11 M11), ∀ (y13 : Int32), ∀ (M13 : aM), ∀ (e13 : M13.2.2 = M11.2.2), ∀ (q13 : (Q13 y11 M11) y13 M13), AW l (pI pg 146) P kc ks 9 [(5, .int ((nI a) + Int32.ofInt 1)), (4, .int (e)), (3, .ref 36), (2, .ref 30), (1, .ref 4), (0, .ref 45)] [] SHF (aset (aset M13 46 (nI a).toNatClampNeg (.int (y13))) 47 (nI a).toNatClampNeg (.int ((aset M13 46 (nI a).toNatClampNeg (.int (y13))).1 6 (nI a).toNatClampNeg)))) : AW l (pI pg 146) P kc ks 9 [(5, .int (nI a)), (4, .int (e)), (3, .ref 36), (2, .ref 30), (1, .ref 4), (0, .ref 45)] [] SHF M := by
  refine AW.iload (dq rfl) rfl ?_
  show AW l (pI pg 146) P kc ks 11 _ _ SHF _
  refine AW.aload_n (dq rfl) rfl rfl ?_
  show AW l (pI pg 146) P kc ks 12 _ _ SHF _
  refine fw_get (dq rfl) (pg_ok.2.1 146 _ _ _ _ rfl) rfl (v := .int (M.1 4 0)) rfl ?_
  show AW l (pI pg 146) P kc ks 15 _ _ SHF _
  refine AW.icmp_ge (dq rfl) (tgt := 62) (by decide) (fun h1 => ?_) (fun h1 => ?_)
  · have _ := h1
    refine AW.aload_n (dq rfl) rfl rfl ?_
    show AW l (pI pg 146) P kc ks 63 _ _ SHF _
    refine fw_get (dq rfl) (pg_ok.2.1 146 _ _ _ _ rfl) rfl (v := .ref 46) (isTA_ok rfl (rgR_ok hJ rfl)) ?_
    show AW l (pI pg 146) P kc ks 66 _ _ SHF _
    refine AW.aload_n (dq rfl) rfl rfl ?_
    show AW l (pI pg 146) P kc ks 67 _ _ SHF _
    refine fw_get (dq rfl) (pg_ok.2.1 146 _ _ _ _ rfl) rfl (v := .int (M.1 4 0)) rfl ?_
    show AW l (pI pg 146) P kc ks 70 _ _ SHF _
    refine AW.aload_n (dq rfl) rfl rfl ?_
    show AW l (pI pg 146) P kc ks 71 _ _ SHF _
    refine AW.aload_n (dq rfl) rfl rfl ?_
    show AW l (pI pg 146) P kc ks 72 _ _ SHF _
    refine AW.aload_n (dq rfl) rfl rfl ?_
    show AW l (pI pg 146) P kc ks 73 _ _ SHF _
    refine AW.aload_n (dq rfl) rfl rfl ?_
    show AW l (pI pg 146) P kc ks 74 _ _ SHF _
    refine AW.iload (dq rfl) rfl ?_
    show AW l (pI pg 146) P kc ks 76 _ _ SHF _
    refine fw_callVJ (as := [.ref 4, .ref 30, .int (e)]) (dq rfl) (pg_ok.2.2.1 146 _ _ _ _ rfl) rfl (by decide +kernel) rfl rfl (c3 h1) (fun y2 M2 e2 q2 => ?_)
    have hJ2 : ∀ e ∈ RR.2, M2.2.2 e.1 e.2.1 = e.2.2 := fun e he => by rw [e2]; exact hJ e he
    show AW l (pI pg 146) P kc ks 79 [(5, .int (nI a)), (4, .int (e)), (3, .ref 36), (2, .ref 30), (1, .ref 4), (0, .ref 45)] [.long (y2), .ref 4, .int (M.1 4 0), .ref 46] SHF _
    refine fw_callSI (as := [.ref 4, .long (y2)]) (dq rfl) (pg_ok.2.2.1 146 _ _ _ _ rfl) (by decide +kernel) rfl rfl (c5 h1 y2 M2 e2 q2) (fun y4 M4 e4 q4 => ?_)
    have hJ4 : ∀ e ∈ RR.2, M4.2.2 e.1 e.2.1 = e.2.2 := fun e he => by rw [e4]; exact hJ2 e he
    show AW l (pI pg 146) P kc ks 82 [(5, .int (nI a)), (4, .int (e)), (3, .ref 36), (2, .ref 30), (1, .ref 4), (0, .ref 45)] [.int (y4), .int (M.1 4 0), .ref 46] SHF _
    refine AW.iast (dq rfl) rfl (o6 h1 y2 M2 e2 q2 y4 M4 e4 q4) ?_
    show AW l (pI pg 146) P kc ks 83 _ _ SHF _
    refine AW.aload_n (dq rfl) rfl rfl ?_
    show AW l (pI pg 146) P kc ks 84 _ _ SHF _
    refine fw_get (dq rfl) (pg_ok.2.1 146 _ _ _ _ rfl) rfl (v := .ref 47) (isTA_ok rfl (rgR_ok hJ4 rfl)) ?_
    show AW l (pI pg 146) P kc ks 87 _ _ SHF _
    refine AW.aload_n (dq rfl) rfl rfl ?_
    show AW l (pI pg 146) P kc ks 88 _ _ SHF _
    refine fw_get (dq rfl) (pg_ok.2.1 146 _ _ _ _ rfl) rfl (v := .int ((aset M4 46 (M.1 4 0).toNatClampNeg (.int (y4))).1 4 0)) rfl ?_
    show AW l (pI pg 146) P kc ks 91 _ _ SHF _
    refine AW.sipush (dq rfl) ?_
    show AW l (pI pg 146) P kc ks 94 _ _ SHF _
    refine AW.aload_n (dq rfl) rfl rfl ?_
    show AW l (pI pg 146) P kc ks 95 _ _ SHF _
    refine fw_callVI (as := []) (dq rfl) (pg_ok.2.2.1 146 _ _ _ _ rfl) rfl (by decide +kernel) rfl rfl (c8 h1 y2 M2 e2 q2 y4 M4 e4 q4) (fun y7 M7 e7 q7 => ?_)
    have hJ7 : ∀ e ∈ RR.2, M7.2.2 e.1 e.2.1 = e.2.2 := fun e he => by rw [e7]; exact hJ4 e he
    show AW l (pI pg 146) P kc ks 98 [(5, .int (nI a)), (4, .int (e)), (3, .ref 36), (2, .ref 30), (1, .ref 4), (0, .ref 45)] [.int (y7), .int ((Int16.ofInt 1000).toInt32), .int ((aset M4 46 (M.1 4 0).toNatClampNeg (.int (y4))).1 4 0), .ref 47] SHF _
    refine AW.isub (dq rfl) ?_
    show AW l (pI pg 146) P kc ks 99 _ _ SHF _
    refine AW.iast (dq rfl) rfl (o9 h1 y2 M2 e2 q2 y4 M4 e4 q4 y7 M7 e7 q7) ?_
    show AW l (pI pg 146) P kc ks 100 _ _ SHF _
    refine AW.aload_n (dq rfl) rfl rfl ?_
    show AW l (pI pg 146) P kc ks 101 _ _ SHF _
    refine AW.iconst (dq rfl) ?_
    show AW l (pI pg 146) P kc ks 102 _ _ SHF _
    refine fw_putZ (dq rfl) (pg_ok.2.1 146 _ _ _ _ rfl) rfl rfl rfl (by decide) ?_
    show AW l (pI pg 146) P kc ks 105 _ _ SHF _
    refine AW.vret (dq rfl) rfl ?_
    exact r10 h1 y2 M2 e2 q2 y4 M4 e4 q4 y7 M7 e7 q7
  · have _ := h1
    refine AW.aload_n (dq rfl) rfl rfl ?_
    show AW l (pI pg 146) P kc ks 19 _ _ SHF _
    refine fw_get (dq rfl) (pg_ok.2.1 146 _ _ _ _ rfl) rfl (v := .ref 46) (isTA_ok rfl (rgR_ok hJ rfl)) ?_
    show AW l (pI pg 146) P kc ks 22 _ _ SHF _
    refine AW.iload (dq rfl) rfl ?_
    show AW l (pI pg 146) P kc ks 24 _ _ SHF _
    refine AW.aload_n (dq rfl) rfl rfl ?_
    show AW l (pI pg 146) P kc ks 25 _ _ SHF _
    refine AW.aload_n (dq rfl) rfl rfl ?_
    show AW l (pI pg 146) P kc ks 26 _ _ SHF _
    refine AW.aload_n (dq rfl) rfl rfl ?_
    show AW l (pI pg 146) P kc ks 27 _ _ SHF _
    refine AW.aload_n (dq rfl) rfl rfl ?_
    show AW l (pI pg 146) P kc ks 28 _ _ SHF _
    refine AW.iload (dq rfl) rfl ?_
    show AW l (pI pg 146) P kc ks 30 _ _ SHF _
    refine AW.iconst (dq rfl) ?_
    show AW l (pI pg 146) P kc ks 31 _ _ SHF _
    refine AW.iload (dq rfl) rfl ?_
    show AW l (pI pg 146) P kc ks 33 _ _ SHF _
    refine AW.ishl (dq rfl) ?_
    show AW l (pI pg 146) P kc ks 34 _ _ SHF _
    refine AW.ixor (dq rfl) ?_
    show AW l (pI pg 146) P kc ks 35 _ _ SHF _
    refine fw_callVJ (as := [.ref 4, .ref 30, .int ((e) ^^^ ((Int32.ofInt 1) <<< ((nI a) &&& 31)))]) (dq rfl) (pg_ok.2.2.1 146 _ _ _ _ rfl) rfl (by decide +kernel) rfl rfl (c12 h1) (fun y11 M11 e11 q11 => ?_)
    have hJ11 : ∀ e ∈ RR.2, M11.2.2 e.1 e.2.1 = e.2.2 := fun e he => by rw [e11]; exact hJ e he
    show AW l (pI pg 146) P kc ks 38 [(5, .int (nI a)), (4, .int (e)), (3, .ref 36), (2, .ref 30), (1, .ref 4), (0, .ref 45)] [.long (y11), .ref 4, .int (nI a), .ref 46] SHF _
    refine fw_callSI (as := [.ref 4, .long (y11)]) (dq rfl) (pg_ok.2.2.1 146 _ _ _ _ rfl) (by decide +kernel) rfl rfl (c14 h1 y11 M11 e11 q11) (fun y13 M13 e13 q13 => ?_)
    have hJ13 : ∀ e ∈ RR.2, M13.2.2 e.1 e.2.1 = e.2.2 := fun e he => by rw [e13]; exact hJ11 e he
    show AW l (pI pg 146) P kc ks 41 [(5, .int (nI a)), (4, .int (e)), (3, .ref 36), (2, .ref 30), (1, .ref 4), (0, .ref 45)] [.int (y13), .int (nI a), .ref 46] SHF _
    refine AW.iast (dq rfl) rfl (o15 h1 y11 M11 e11 q11 y13 M13 e13 q13) ?_
    show AW l (pI pg 146) P kc ks 42 _ _ SHF _
    refine AW.aload_n (dq rfl) rfl rfl ?_
    show AW l (pI pg 146) P kc ks 43 _ _ SHF _
    refine fw_get (dq rfl) (pg_ok.2.1 146 _ _ _ _ rfl) rfl (v := .ref 47) (isTA_ok rfl (rgR_ok hJ13 rfl)) ?_
    show AW l (pI pg 146) P kc ks 46 _ _ SHF _
    refine AW.iload (dq rfl) rfl ?_
    show AW l (pI pg 146) P kc ks 48 _ _ SHF _
    refine AW.aload_n (dq rfl) rfl rfl ?_
    show AW l (pI pg 146) P kc ks 49 _ _ SHF _
    refine fw_get (dq rfl) (pg_ok.2.1 146 _ _ _ _ rfl) rfl (v := .ref 6) (isTA_ok rfl (rgR_ok hJ13 rfl)) ?_
    show AW l (pI pg 146) P kc ks 52 _ _ SHF _
    refine AW.iload (dq rfl) rfl ?_
    show AW l (pI pg 146) P kc ks 54 _ _ SHF _
    refine AW.iald (dq rfl) rfl (o16 h1 y11 M11 e11 q11 y13 M13 e13 q13) ?_
    show AW l (pI pg 146) P kc ks 55 _ _ SHF _
    refine AW.iast (dq rfl) rfl (o15 h1 y11 M11 e11 q11 y13 M13 e13 q13) ?_
    show AW l (pI pg 146) P kc ks 56 _ _ SHF _
    refine AW.iinc (dq rfl) rfl (by decide +kernel) ?_
    show AW l (pI pg 146) P kc ks 59 [(5, .int ((nI a) + Int32.ofInt 1)), (4, .int (e)), (3, .ref 36), (2, .ref 30), (1, .ref 4), (0, .ref 45)] [] SHF _
    refine AW.goto (dq rfl) (tgt := 9) (by decide) ?_
    refine AW.drop (lv' := [(5, .int ((nI a) + Int32.ofInt 1)), (4, .int (e)), (3, .ref 36), (2, .ref 30), (1, .ref 4), (0, .ref 45)]) (List.forall_mem_cons.mpr ⟨List.mem_of_getElem? (i := 0) rfl, List.forall_mem_cons.mpr ⟨List.mem_of_getElem? (i := 1) rfl, List.forall_mem_cons.mpr ⟨List.mem_of_getElem? (i := 2) rfl, List.forall_mem_cons.mpr ⟨List.mem_of_getElem? (i := 3) rfl, List.forall_mem_cons.mpr ⟨List.mem_of_getElem? (i := 4) rfl, List.forall_mem_cons.mpr ⟨List.mem_of_getElem? (i := 5) rfl, fun _ h => absurd h List.not_mem_nil⟩⟩⟩⟩⟩⟩) ?_
    exact k17 h1 y11 M11 e11 q11 y13 M13 e13 q13

theorem lrta_0 {l : aL} {P : aP} {kc ks : Nat} {x : Int32} {M : aM} (hJ : ∀ e ∈ RR.2, M.2.2 e.1 e.2.1 = e.2.2) (hl0 : l.1.stackTraces = false) (k2 : ∀ (h1 : ¬ (M.1 45 2 : Int32) = 0), AW l (pI pg 145) P kc ks 14 [(4, .int (x)), (3, .ref 36), (2, .ref 30), (1, .ref 4), (0, .ref 45)] [] SHF M) (Q3 : aM → Prop) (c4 : ∀ (h1 : (M.1 45 2 : Int32) = 0), AC l (pI pg 146) (fcV M Q3) 0 0 [.ref 45, .ref 4, .ref 30, .ref 36] SHF M) (k5 : ∀ (h1 : (M.1 45 2 : Int32) = 0), ∀ (M3 : aM), ∀ (e3 : M3.2.2 = M.2.2), ∀ (q3 : Q3 M3), AW l (pI pg 145) P kc ks 14 [(4, .int (x)), (3, .ref 36), (2, .ref 30), (1, .ref 4), (0, .ref 45)] [] SHF M3) : AW l (pI pg 145) P kc ks 0 [(0, .ref 45), (1, .ref 4), (2, .ref 30), (3, .ref 36), (4, .int (x))] [] SHF M := by
  refine AW.aload_n (dq rfl) rfl rfl ?_
  show AW l (pI pg 145) P kc ks 1 _ _ SHF _
  refine fw_get (dq rfl) (pg_ok.2.1 145 _ _ _ _ rfl) rfl (v := .int (M.1 45 2)) rfl ?_
  show AW l (pI pg 145) P kc ks 4 _ _ SHF _
  refine AW.if_ne (dq rfl) (tgt := 14) (by decide) (fun h1 => ?_) (fun h1 => ?_)
  · have _ := h1
    refine AW.drop (lv' := [(4, .int (x)), (3, .ref 36), (2, .ref 30), (1, .ref 4), (0, .ref 45)]) (List.forall_mem_cons.mpr ⟨List.mem_of_getElem? (i := 4) rfl, List.forall_mem_cons.mpr ⟨List.mem_of_getElem? (i := 3) rfl, List.forall_mem_cons.mpr ⟨List.mem_of_getElem? (i := 2) rfl, List.forall_mem_cons.mpr ⟨List.mem_of_getElem? (i := 1) rfl, List.forall_mem_cons.mpr ⟨List.mem_of_getElem? (i := 0) rfl, fun _ h => absurd h List.not_mem_nil⟩⟩⟩⟩⟩) ?_
    exact k2 h1
  · have _ := h1
    refine AW.aload_n (dq rfl) rfl rfl ?_
    show AW l (pI pg 145) P kc ks 8 _ _ SHF _
    refine AW.aload_n (dq rfl) rfl rfl ?_
    show AW l (pI pg 145) P kc ks 9 _ _ SHF _
    refine AW.aload_n (dq rfl) rfl rfl ?_
    show AW l (pI pg 145) P kc ks 10 _ _ SHF _
    refine AW.aload_n (dq rfl) rfl rfl ?_
    show AW l (pI pg 145) P kc ks 11 _ _ SHF _
    refine fw_callVV (as := [.ref 4, .ref 30, .ref 36]) (dq rfl) (pg_ok.2.2.1 145 _ _ _ _ rfl) rfl (by decide +kernel) rfl rfl (c4 h1) (fun M3 e3 q3 => ?_)
    have hJ3 : ∀ e ∈ RR.2, M3.2.2 e.1 e.2.1 = e.2.2 := fun e he => by rw [e3]; exact hJ e he
    show AW l (pI pg 145) P kc ks 14 [(0, .ref 45), (1, .ref 4), (2, .ref 30), (3, .ref 36), (4, .int (x))] [] SHF _
    refine AW.drop (lv' := [(4, .int (x)), (3, .ref 36), (2, .ref 30), (1, .ref 4), (0, .ref 45)]) (List.forall_mem_cons.mpr ⟨List.mem_of_getElem? (i := 4) rfl, List.forall_mem_cons.mpr ⟨List.mem_of_getElem? (i := 3) rfl, List.forall_mem_cons.mpr ⟨List.mem_of_getElem? (i := 2) rfl, List.forall_mem_cons.mpr ⟨List.mem_of_getElem? (i := 1) rfl, List.forall_mem_cons.mpr ⟨List.mem_of_getElem? (i := 0) rfl, fun _ h => absurd h List.not_mem_nil⟩⟩⟩⟩⟩) ?_
    exact k5 h1 M3 e3 q3

theorem lrta_14 {l : aL} {P : aP} {kc ks : Nat} {x : Int32} {M : aM} (hJ : ∀ e ∈ RR.2, M.2.2 e.1 e.2.1 = e.2.2) (hl0 : l.1.stackTraces = false) (Q1 : Int32 → aM → Prop) (c2 : AC l (pI pg 148) (fcI M Q1) 0 0 [.ref 4, .int (x)] SHF M) (k3 : ∀ (y1 : Int32), ∀ (M1 : aM), ∀ (e1 : M1.2.2 = M.2.2), ∀ (q1 : Q1 y1 M1), AW l (pI pg 145) P kc ks 28 [(7, .int (Int32.ofInt 0)), (6, .int (Int32.ofInt 0)), (5, .int (y1)), (1, .ref 4), (0, .ref 45)] [] SHF M1) : AW l (pI pg 145) P kc ks 14 [(4, .int (x)), (3, .ref 36), (2, .ref 30), (1, .ref 4), (0, .ref 45)] [] SHF M := by
  refine AW.aload_n (dq rfl) rfl rfl ?_
  show AW l (pI pg 145) P kc ks 15 _ _ SHF _
  refine AW.iload (dq rfl) rfl ?_
  show AW l (pI pg 145) P kc ks 17 _ _ SHF _
  refine fw_callSI (as := [.ref 4, .int (x)]) (dq rfl) (pg_ok.2.2.1 145 _ _ _ _ rfl) (by decide +kernel) rfl rfl (c2) (fun y1 M1 e1 q1 => ?_)
  have hJ1 : ∀ e ∈ RR.2, M1.2.2 e.1 e.2.1 = e.2.2 := fun e he => by rw [e1]; exact hJ e he
  show AW l (pI pg 145) P kc ks 20 [(4, .int (x)), (3, .ref 36), (2, .ref 30), (1, .ref 4), (0, .ref 45)] [.int (y1)] SHF _
  refine AW.istore (dq rfl) (by decide +kernel) ?_
  show AW l (pI pg 145) P kc ks 22 [(5, .int (y1)), (4, .int (x)), (3, .ref 36), (2, .ref 30), (1, .ref 4), (0, .ref 45)] [] SHF _
  refine AW.iconst (dq rfl) ?_
  show AW l (pI pg 145) P kc ks 23 _ _ SHF _
  refine AW.istore (dq rfl) (by decide +kernel) ?_
  show AW l (pI pg 145) P kc ks 25 [(6, .int (Int32.ofInt 0)), (5, .int (y1)), (4, .int (x)), (3, .ref 36), (2, .ref 30), (1, .ref 4), (0, .ref 45)] [] SHF _
  refine AW.iconst (dq rfl) ?_
  show AW l (pI pg 145) P kc ks 26 _ _ SHF _
  refine AW.istore (dq rfl) (by decide +kernel) ?_
  show AW l (pI pg 145) P kc ks 28 [(7, .int (Int32.ofInt 0)), (6, .int (Int32.ofInt 0)), (5, .int (y1)), (4, .int (x)), (3, .ref 36), (2, .ref 30), (1, .ref 4), (0, .ref 45)] [] SHF _
  refine AW.drop (lv' := [(7, .int (Int32.ofInt 0)), (6, .int (Int32.ofInt 0)), (5, .int (y1)), (1, .ref 4), (0, .ref 45)]) (List.forall_mem_cons.mpr ⟨List.mem_of_getElem? (i := 0) rfl, List.forall_mem_cons.mpr ⟨List.mem_of_getElem? (i := 1) rfl, List.forall_mem_cons.mpr ⟨List.mem_of_getElem? (i := 2) rfl, List.forall_mem_cons.mpr ⟨List.mem_of_getElem? (i := 6) rfl, List.forall_mem_cons.mpr ⟨List.mem_of_getElem? (i := 7) rfl, fun _ h => absurd h List.not_mem_nil⟩⟩⟩⟩⟩) ?_
  exact k3 y1 M1 e1 q1

theorem lrta_28 {l : aL} {P : aP} {kc ks : Nat} {a : Nat} {v g : Int32} {M : aM} (hJ : ∀ e ∈ RR.2, M.2.2 e.1 e.2.1 = e.2.2) (hl0 : l.1.stackTraces = false) (r2 : ∀ (h1 : (M.1 4 0 : Int32) < (nI a : Int32)), P (.inl (some (.int (v)))) SHF M) (k3 : ∀ (h1 : ¬ ((M.1 4 0 : Int32) < (nI a : Int32))), AW l (pI pg 145) P kc ks 43 [(9, .int (Int32.ofInt 0)), (8, .int (Int32.ofInt 1)), (7, .int (nI a)), (6, .int (v)), (5, .int (g)), (1, .ref 4), (0, .ref 45)] [] SHF M) : AW l (pI pg 145) P kc ks 28 [(7, .int (nI a)), (6, .int (v)), (5, .int (g)), (1, .ref 4), (0, .ref 45)] [] SHF M := by
  refine AW.iload (dq rfl) rfl ?_
  show AW l (pI pg 145) P kc ks 30 _ _ SHF _
  refine AW.aload_n (dq rfl) rfl rfl ?_
  show AW l (pI pg 145) P kc ks 31 _ _ SHF _
  refine fw_get (dq rfl) (pg_ok.2.1 145 _ _ _ _ rfl) rfl (v := .int (M.1 4 0)) rfl ?_
  show AW l (pI pg 145) P kc ks 34 _ _ SHF _
  refine AW.icmp_gt (dq rfl) (tgt := 172) (by decide) (fun h1 => ?_) (fun h1 => ?_)
  · have _ := h1
    refine AW.iload (dq rfl) rfl ?_
    show AW l (pI pg 145) P kc ks 174 _ _ SHF _
    refine AW.iret (dq rfl) rfl ?_
    exact r2 h1
  · have _ := h1
    refine AW.iconst (dq rfl) ?_
    show AW l (pI pg 145) P kc ks 38 _ _ SHF _
    refine AW.istore (dq rfl) (by decide +kernel) ?_
    show AW l (pI pg 145) P kc ks 40 [(8, .int (Int32.ofInt 1)), (7, .int (nI a)), (6, .int (v)), (5, .int (g)), (1, .ref 4), (0, .ref 45)] [] SHF _
    refine AW.iconst (dq rfl) ?_
    show AW l (pI pg 145) P kc ks 41 _ _ SHF _
    refine AW.istore (dq rfl) (by decide +kernel) ?_
    show AW l (pI pg 145) P kc ks 43 [(9, .int (Int32.ofInt 0)), (8, .int (Int32.ofInt 1)), (7, .int (nI a)), (6, .int (v)), (5, .int (g)), (1, .ref 4), (0, .ref 45)] [] SHF _
    refine AW.drop (lv' := [(9, .int (Int32.ofInt 0)), (8, .int (Int32.ofInt 1)), (7, .int (nI a)), (6, .int (v)), (5, .int (g)), (1, .ref 4), (0, .ref 45)]) (List.forall_mem_cons.mpr ⟨List.mem_of_getElem? (i := 0) rfl, List.forall_mem_cons.mpr ⟨List.mem_of_getElem? (i := 1) rfl, List.forall_mem_cons.mpr ⟨List.mem_of_getElem? (i := 2) rfl, List.forall_mem_cons.mpr ⟨List.mem_of_getElem? (i := 3) rfl, List.forall_mem_cons.mpr ⟨List.mem_of_getElem? (i := 4) rfl, List.forall_mem_cons.mpr ⟨List.mem_of_getElem? (i := 5) rfl, List.forall_mem_cons.mpr ⟨List.mem_of_getElem? (i := 6) rfl, fun _ h => absurd h List.not_mem_nil⟩⟩⟩⟩⟩⟩⟩) ?_
    exact k3 h1

theorem lrta_43 {l : aL} {P : aP} {kc ks : Nat} {a o : Nat} {v g k : Int32} {M : aM} (hJ : ∀ e ∈ RR.2, M.2.2 e.1 e.2.1 = e.2.2) (hl0 : l.1.stackTraces = false) (k3 : ∀ (h1 : (M.1 4 0 : Int32) < (nI o : Int32)), ∀ (h2 : (k : Int32) = 0), AW l (pI pg 145) P kc ks 28 [(7, .int ((nI a) + Int32.ofInt 1)), (6, .int ((v) + (Int32.ofInt 0))), (5, .int (g)), (1, .ref 4), (0, .ref 45)] [] SHF M) (o4 : ∀ (h1 : (M.1 4 0 : Int32) < (nI o : Int32)), ∀ (h2 : ¬ ((k : Int32) = 0)), vp_in (nI a) 7) (k5 : ∀ (h1 : (M.1 4 0 : Int32) < (nI o : Int32)), ∀ (h2 : ¬ ((k : Int32) = 0)), AW l (pI pg 145) P kc ks 28 [(7, .int ((nI a) + Int32.ofInt 1)), (6, .int ((v) + (M.1 47 (nI a).toNatClampNeg))), (5, .int (g)), (1, .ref 4), (0, .ref 45)] [] SHF M) (o7 : ∀ (h1 : ¬ ((M.1 4 0 : Int32) < (nI o : Int32))), ∀ (h6 : (nI a : Int32) ≤ (nI o : Int32)), vp_in (nI o) 7) (o8 : ∀ (h1 : ¬ ((M.1 4 0 : Int32) < (nI o : Int32))), ∀ (h6 : (nI a : Int32) ≤ (nI o : Int32)), vp_in (nI a) 7) (k11 : ∀ (h1 : ¬ ((M.1 4 0 : Int32) < (nI o : Int32))), ∀ (h6 : (nI a : Int32) ≤ (nI o : Int32)), ∀ (h9 : (M.1 47 (nI o).toNatClampNeg : Int32) ≤ (M.1 47 (nI a).toNatClampNeg : Int32)), AW l (pI pg 145) P kc ks 43 [(9, .int ((nI o) + Int32.ofInt 1)), (8, .int (k)), (7, .int (nI a)), (6, .int (v)), (5, .int (g)), (1, .ref 4), (0, .ref 45)] [] SHF M) (k14 : ∀ (h1 : ¬ ((M.1 4 0 : Int32) < (nI o : Int32))), ∀ (h6 : (nI a : Int32) ≤ (nI o : Int32)), ∀ (h9 : ¬ ((M.1 47 (nI o).toNatClampNeg : Int32) ≤ (M.1 47 (nI a).toNatClampNeg : Int32))), ∀ (h13 : ¬ ((M.1 46 (nI o).toNatClampNeg) &&& (g) : Int32) = ((M.1 46 (nI a).toNatClampNeg) &&& (g) : Int32)), AW l (pI pg 145) P kc ks 43 [(9, .int ((nI o) + Int32.ofInt 1)), (8, .int (k)), (7, .int (nI a)), (6, .int (v)), (5, .int (g)), (1, .ref 4), (0, .ref 45)] [] SHF M) (k15 : ∀ (h1 : ¬ ((M.1 4 0 : Int32) < (nI o : Int32))), ∀ (h6 : (nI a : Int32) ≤ (nI o : Int32)), ∀ (h9 : ¬ ((M.1 47 (nI o).toNatClampNeg : Int32) ≤ (M.1 47 (nI a).toNatClampNeg : Int32))), ∀ (h13 : ((M.1 46 (nI o).toNatClampNeg) &&& (g) : Int32) = ((M.1 46 (nI a).toNatClampNeg) &&& (g) : Int32)), AW l (pI pg 145) P kc ks 43 [(9, .int ((nI o) + Int32.ofInt 1)), (8, .int (Int32.ofInt 0)), (7, .int (nI a)), (6, .int (v)), (5, .int (g)), (1, .ref 4), (0, .ref 45)] [] SHF M) (o16 : ∀ (h1 : ¬ ((M.1 4 0 : Int32) < (nI o : Int32))), ∀ (h6 : ¬ ((nI a : Int32) ≤ (nI o : Int32))), vp_in (nI o) 7) (o17 : ∀ (h1 : ¬ ((M.1 4 0 : Int32) < (nI o : Int32))), ∀ (h6 : ¬ ((nI a : Int32) ≤ (nI o : Int32))), vp_in (nI a) 7) (k20 : ∀ (h1 : ¬ ((M.1 4 0 : Int32) < (nI o : Int32))), ∀ (h6 : ¬ ((nI a : Int32) ≤ (nI o : Int32))), ∀ (h18 : (M.1 47 (nI o).toNatClampNeg : Int32) < (M.1 47 (nI a).toNatClampNeg : Int32)), AW l (pI pg 145) P kc ks 43 [(9, .int ((nI o) + Int32.ofInt 1)), (8, .int (k)), (7, .int (nI a)), (6, .int (v)), (5, .int (g)), (1, .ref 4), (0, .ref 45)] [] SHF M) (k23 : ∀ (h1 : ¬ ((M.1 4 0 : Int32) < (nI o : Int32))), ∀ (h6 : ¬ ((nI a : Int32) ≤ (nI o : Int32))), ∀ (h18 : ¬ ((M.1 47 (nI o).toNatClampNeg : Int32) < (M.1 47 (nI a).toNatClampNeg : Int32))), ∀ (h22 : ¬ ((M.1 46 (nI o).toNatClampNeg) &&& (g) : Int32) = ((M.1 46 (nI a).toNatClampNeg) &&& (g) : Int32)), AW l (pI pg 145) P kc ks 43 [(9, .int ((nI o) + Int32.ofInt 1)), (8, .int (k)), (7, .int (nI a)), (6, .int (v)), (5, .int (g)), (1, .ref 4), (0, .ref 45)] [] SHF M) (k24 : ∀ (h1 : ¬ ((M.1 4 0 : Int32) < (nI o : Int32))), ∀ (h6 : ¬ ((nI a : Int32) ≤ (nI o : Int32))), ∀ (h18 : ¬ ((M.1 47 (nI o).toNatClampNeg : Int32) < (M.1 47 (nI a).toNatClampNeg : Int32))), ∀ (h22 : ((M.1 46 (nI o).toNatClampNeg) &&& (g) : Int32) = ((M.1 46 (nI a).toNatClampNeg) &&& (g) : Int32)), AW l (pI pg 145) P kc ks 43 [(9, .int ((nI o) + Int32.ofInt 1)), (8, .int (Int32.ofInt 0)), (7, .int (nI a)), (6, .int (v)), (5, .int (g)), (1, .ref 4), (0, .ref 45)] [] SHF M) : AW l (pI pg 145) P kc ks 43 [(9, .int (nI o)), (8, .int (k)), (7, .int (nI a)), (6, .int (v)), (5, .int (g)), (1, .ref 4), (0, .ref 45)] [] SHF M := by
  refine AW.iload (dq rfl) rfl ?_
  show AW l (pI pg 145) P kc ks 45 _ _ SHF _
  refine AW.aload_n (dq rfl) rfl rfl ?_
  show AW l (pI pg 145) P kc ks 46 _ _ SHF _
  refine fw_get (dq rfl) (pg_ok.2.1 145 _ _ _ _ rfl) rfl (v := .int (M.1 4 0)) rfl ?_
  show AW l (pI pg 145) P kc ks 49 _ _ SHF _
  refine AW.icmp_gt (dq rfl) (tgt := 145) (by decide) (fun h1 => ?_) (fun h1 => ?_)
  · have _ := h1
    refine AW.iload (dq rfl) rfl ?_
    show AW l (pI pg 145) P kc ks 147 _ _ SHF _
    refine AW.iload (dq rfl) rfl ?_
    show AW l (pI pg 145) P kc ks 149 _ _ SHF _
    refine AW.if_eq (dq rfl) (tgt := 162) (by decide) (fun h2 => ?_) (fun h2 => ?_)
    · have _ := h2
      refine AW.iconst (dq rfl) ?_
      show AW l (pI pg 145) P kc ks 163 _ _ SHF _
      refine AW.iadd (dq rfl) ?_
      show AW l (pI pg 145) P kc ks 164 _ _ SHF _
      refine AW.istore (dq rfl) (by decide +kernel) ?_
      show AW l (pI pg 145) P kc ks 166 [(6, .int ((v) + (Int32.ofInt 0))), (9, .int (nI o)), (8, .int (k)), (7, .int (nI a)), (5, .int (g)), (1, .ref 4), (0, .ref 45)] [] SHF _
      refine AW.iinc (dq rfl) rfl (by decide +kernel) ?_
      show AW l (pI pg 145) P kc ks 169 [(7, .int ((nI a) + Int32.ofInt 1)), (6, .int ((v) + (Int32.ofInt 0))), (9, .int (nI o)), (8, .int (k)), (5, .int (g)), (1, .ref 4), (0, .ref 45)] [] SHF _
      refine AW.goto (dq rfl) (tgt := 28) (by decide) ?_
      refine AW.drop (lv' := [(7, .int ((nI a) + Int32.ofInt 1)), (6, .int ((v) + (Int32.ofInt 0))), (5, .int (g)), (1, .ref 4), (0, .ref 45)]) (List.forall_mem_cons.mpr ⟨List.mem_of_getElem? (i := 0) rfl, List.forall_mem_cons.mpr ⟨List.mem_of_getElem? (i := 1) rfl, List.forall_mem_cons.mpr ⟨List.mem_of_getElem? (i := 4) rfl, List.forall_mem_cons.mpr ⟨List.mem_of_getElem? (i := 5) rfl, List.forall_mem_cons.mpr ⟨List.mem_of_getElem? (i := 6) rfl, fun _ h => absurd h List.not_mem_nil⟩⟩⟩⟩⟩) ?_
      exact k3 h1 h2
    · have _ := h2
      refine AW.aload_n (dq rfl) rfl rfl ?_
      show AW l (pI pg 145) P kc ks 153 _ _ SHF _
      refine fw_get (dq rfl) (pg_ok.2.1 145 _ _ _ _ rfl) rfl (v := .ref 47) (isTA_ok rfl (rgR_ok hJ rfl)) ?_
      show AW l (pI pg 145) P kc ks 156 _ _ SHF _
      refine AW.iload (dq rfl) rfl ?_
      show AW l (pI pg 145) P kc ks 158 _ _ SHF _
      refine AW.iald (dq rfl) rfl (o4 h1 h2) ?_
      show AW l (pI pg 145) P kc ks 159 _ _ SHF _
      refine AW.goto (dq rfl) (tgt := 163) (by decide) ?_
      refine AW.iadd (dq rfl) ?_
      show AW l (pI pg 145) P kc ks 164 _ _ SHF _
      refine AW.istore (dq rfl) (by decide +kernel) ?_
      show AW l (pI pg 145) P kc ks 166 [(6, .int ((v) + (M.1 47 (nI a).toNatClampNeg))), (9, .int (nI o)), (8, .int (k)), (7, .int (nI a)), (5, .int (g)), (1, .ref 4), (0, .ref 45)] [] SHF _
      refine AW.iinc (dq rfl) rfl (by decide +kernel) ?_
      show AW l (pI pg 145) P kc ks 169 [(7, .int ((nI a) + Int32.ofInt 1)), (6, .int ((v) + (M.1 47 (nI a).toNatClampNeg))), (9, .int (nI o)), (8, .int (k)), (5, .int (g)), (1, .ref 4), (0, .ref 45)] [] SHF _
      refine AW.goto (dq rfl) (tgt := 28) (by decide) ?_
      refine AW.drop (lv' := [(7, .int ((nI a) + Int32.ofInt 1)), (6, .int ((v) + (M.1 47 (nI a).toNatClampNeg))), (5, .int (g)), (1, .ref 4), (0, .ref 45)]) (List.forall_mem_cons.mpr ⟨List.mem_of_getElem? (i := 0) rfl, List.forall_mem_cons.mpr ⟨List.mem_of_getElem? (i := 1) rfl, List.forall_mem_cons.mpr ⟨List.mem_of_getElem? (i := 4) rfl, List.forall_mem_cons.mpr ⟨List.mem_of_getElem? (i := 5) rfl, List.forall_mem_cons.mpr ⟨List.mem_of_getElem? (i := 6) rfl, fun _ h => absurd h List.not_mem_nil⟩⟩⟩⟩⟩) ?_
      exact k5 h1 h2
  · have _ := h1
    refine AW.iload (dq rfl) rfl ?_
    show AW l (pI pg 145) P kc ks 54 _ _ SHF _
    refine AW.iload (dq rfl) rfl ?_
    show AW l (pI pg 145) P kc ks 56 _ _ SHF _
    refine AW.icmp_ge (dq rfl) (tgt := 84) (by decide) (fun h6 => ?_) (fun h6 => ?_)
    · have _ := h6
      refine AW.aload_n (dq rfl) rfl rfl ?_
      show AW l (pI pg 145) P kc ks 85 _ _ SHF _
      refine fw_get (dq rfl) (pg_ok.2.1 145 _ _ _ _ rfl) rfl (v := .ref 47) (isTA_ok rfl (rgR_ok hJ rfl)) ?_
      show AW l (pI pg 145) P kc ks 88 _ _ SHF _
      refine AW.iload (dq rfl) rfl ?_
      show AW l (pI pg 145) P kc ks 90 _ _ SHF _
      refine AW.iald (dq rfl) rfl (o7 h1 h6) ?_
      show AW l (pI pg 145) P kc ks 91 _ _ SHF _
      refine AW.aload_n (dq rfl) rfl rfl ?_
      show AW l (pI pg 145) P kc ks 92 _ _ SHF _
      refine fw_get (dq rfl) (pg_ok.2.1 145 _ _ _ _ rfl) rfl (v := .ref 47) (isTA_ok rfl (rgR_ok hJ rfl)) ?_
      show AW l (pI pg 145) P kc ks 95 _ _ SHF _
      refine AW.iload (dq rfl) rfl ?_
      show AW l (pI pg 145) P kc ks 97 _ _ SHF _
      refine AW.iald (dq rfl) rfl (o8 h1 h6) ?_
      show AW l (pI pg 145) P kc ks 98 _ _ SHF _
      refine AW.icmp_le (dq rfl) (tgt := 105) (by decide) (fun h9 => ?_) (fun h9 => ?_)
      · have _ := h9
        refine AW.iconst (dq rfl) ?_
        show AW l (pI pg 145) P kc ks 106 _ _ SHF _
        refine AW.istore (dq rfl) (by decide +kernel) ?_
        show AW l (pI pg 145) P kc ks 108 [(10, .int (Int32.ofInt 0)), (9, .int (nI o)), (8, .int (k)), (7, .int (nI a)), (6, .int (v)), (5, .int (g)), (1, .ref 4), (0, .ref 45)] [] SHF _
        refine AW.iload (dq rfl) rfl ?_
        show AW l (pI pg 145) P kc ks 110 _ _ SHF _
        refine AW.if_eq (dq rfl) (tgt := 139) (by decide) (fun h10 => ?_) (fun h10 => ?_)
        rotate_left
        · exact absurd h10 (by decide)
        refine AW.iinc (dq rfl) rfl (by decide +kernel) ?_
        show AW l (pI pg 145) P kc ks 142 [(9, .int ((nI o) + Int32.ofInt 1)), (10, .int (Int32.ofInt 0)), (8, .int (k)), (7, .int (nI a)), (6, .int (v)), (5, .int (g)), (1, .ref 4), (0, .ref 45)] [] SHF _
        refine AW.goto (dq rfl) (tgt := 43) (by decide) ?_
        refine AW.drop (lv' := [(9, .int ((nI o) + Int32.ofInt 1)), (8, .int (k)), (7, .int (nI a)), (6, .int (v)), (5, .int (g)), (1, .ref 4), (0, .ref 45)]) (List.forall_mem_cons.mpr ⟨List.mem_of_getElem? (i := 0) rfl, List.forall_mem_cons.mpr ⟨List.mem_of_getElem? (i := 2) rfl, List.forall_mem_cons.mpr ⟨List.mem_of_getElem? (i := 3) rfl, List.forall_mem_cons.mpr ⟨List.mem_of_getElem? (i := 4) rfl, List.forall_mem_cons.mpr ⟨List.mem_of_getElem? (i := 5) rfl, List.forall_mem_cons.mpr ⟨List.mem_of_getElem? (i := 6) rfl, List.forall_mem_cons.mpr ⟨List.mem_of_getElem? (i := 7) rfl, fun _ h => absurd h List.not_mem_nil⟩⟩⟩⟩⟩⟩⟩) ?_
        exact k11 h1 h6 h9
      · have _ := h9
        refine AW.iconst (dq rfl) ?_
        show AW l (pI pg 145) P kc ks 102 _ _ SHF _
        refine AW.goto (dq rfl) (tgt := 106) (by decide) ?_
        refine AW.istore (dq rfl) (by decide +kernel) ?_
        show AW l (pI pg 145) P kc ks 108 [(10, .int (Int32.ofInt 1)), (9, .int (nI o)), (8, .int (k)), (7, .int (nI a)), (6, .int (v)), (5, .int (g)), (1, .ref 4), (0, .ref 45)] [] SHF _
        refine AW.iload (dq rfl) rfl ?_
        show AW l (pI pg 145) P kc ks 110 _ _ SHF _
        refine AW.if_eq (dq rfl) (tgt := 139) (by decide) (fun h12 => ?_) (fun h12 => ?_)
        · exact absurd h12 (by decide)
        refine AW.aload_n (dq rfl) rfl rfl ?_
        show AW l (pI pg 145) P kc ks 114 _ _ SHF _
        refine fw_get (dq rfl) (pg_ok.2.1 145 _ _ _ _ rfl) rfl (v := .ref 46) (isTA_ok rfl (rgR_ok hJ rfl)) ?_
        show AW l (pI pg 145) P kc ks 117 _ _ SHF _
        refine AW.iload (dq rfl) rfl ?_
        show AW l (pI pg 145) P kc ks 119 _ _ SHF _
        refine AW.iald (dq rfl) rfl (o7 h1 h6) ?_
        show AW l (pI pg 145) P kc ks 120 _ _ SHF _
        refine AW.iload (dq rfl) rfl ?_
        show AW l (pI pg 145) P kc ks 122 _ _ SHF _
        refine AW.iand (dq rfl) ?_
        show AW l (pI pg 145) P kc ks 123 _ _ SHF _
        refine AW.aload_n (dq rfl) rfl rfl ?_
        show AW l (pI pg 145) P kc ks 124 _ _ SHF _
        refine fw_get (dq rfl) (pg_ok.2.1 145 _ _ _ _ rfl) rfl (v := .ref 46) (isTA_ok rfl (rgR_ok hJ rfl)) ?_
        show AW l (pI pg 145) P kc ks 127 _ _ SHF _
        refine AW.iload (dq rfl) rfl ?_
        show AW l (pI pg 145) P kc ks 129 _ _ SHF _
        refine AW.iald (dq rfl) rfl (o8 h1 h6) ?_
        show AW l (pI pg 145) P kc ks 130 _ _ SHF _
        refine AW.iload (dq rfl) rfl ?_
        show AW l (pI pg 145) P kc ks 132 _ _ SHF _
        refine AW.iand (dq rfl) ?_
        show AW l (pI pg 145) P kc ks 133 _ _ SHF _
        refine AW.icmp_ne (dq rfl) (tgt := 139) (by decide) (fun h13 => ?_) (fun h13 => ?_)
        · have _ := h13
          refine AW.iinc (dq rfl) rfl (by decide +kernel) ?_
          show AW l (pI pg 145) P kc ks 142 [(9, .int ((nI o) + Int32.ofInt 1)), (10, .int (Int32.ofInt 1)), (8, .int (k)), (7, .int (nI a)), (6, .int (v)), (5, .int (g)), (1, .ref 4), (0, .ref 45)] [] SHF _
          refine AW.goto (dq rfl) (tgt := 43) (by decide) ?_
          refine AW.drop (lv' := [(9, .int ((nI o) + Int32.ofInt 1)), (8, .int (k)), (7, .int (nI a)), (6, .int (v)), (5, .int (g)), (1, .ref 4), (0, .ref 45)]) (List.forall_mem_cons.mpr ⟨List.mem_of_getElem? (i := 0) rfl, List.forall_mem_cons.mpr ⟨List.mem_of_getElem? (i := 2) rfl, List.forall_mem_cons.mpr ⟨List.mem_of_getElem? (i := 3) rfl, List.forall_mem_cons.mpr ⟨List.mem_of_getElem? (i := 4) rfl, List.forall_mem_cons.mpr ⟨List.mem_of_getElem? (i := 5) rfl, List.forall_mem_cons.mpr ⟨List.mem_of_getElem? (i := 6) rfl, List.forall_mem_cons.mpr ⟨List.mem_of_getElem? (i := 7) rfl, fun _ h => absurd h List.not_mem_nil⟩⟩⟩⟩⟩⟩⟩) ?_
          exact k14 h1 h6 h9 h13
        · have _ := h13
          refine AW.iconst (dq rfl) ?_
          show AW l (pI pg 145) P kc ks 137 _ _ SHF _
          refine AW.istore (dq rfl) (by decide +kernel) ?_
          show AW l (pI pg 145) P kc ks 139 [(8, .int (Int32.ofInt 0)), (10, .int (Int32.ofInt 1)), (9, .int (nI o)), (7, .int (nI a)), (6, .int (v)), (5, .int (g)), (1, .ref 4), (0, .ref 45)] [] SHF _
          refine AW.iinc (dq rfl) rfl (by decide +kernel) ?_
          show AW l (pI pg 145) P kc ks 142 [(9, .int ((nI o) + Int32.ofInt 1)), (8, .int (Int32.ofInt 0)), (10, .int (Int32.ofInt 1)), (7, .int (nI a)), (6, .int (v)), (5, .int (g)), (1, .ref 4), (0, .ref 45)] [] SHF _
          refine AW.goto (dq rfl) (tgt := 43) (by decide) ?_
          refine AW.drop (lv' := [(9, .int ((nI o) + Int32.ofInt 1)), (8, .int (Int32.ofInt 0)), (7, .int (nI a)), (6, .int (v)), (5, .int (g)), (1, .ref 4), (0, .ref 45)]) (List.forall_mem_cons.mpr ⟨List.mem_of_getElem? (i := 0) rfl, List.forall_mem_cons.mpr ⟨List.mem_of_getElem? (i := 1) rfl, List.forall_mem_cons.mpr ⟨List.mem_of_getElem? (i := 3) rfl, List.forall_mem_cons.mpr ⟨List.mem_of_getElem? (i := 4) rfl, List.forall_mem_cons.mpr ⟨List.mem_of_getElem? (i := 5) rfl, List.forall_mem_cons.mpr ⟨List.mem_of_getElem? (i := 6) rfl, List.forall_mem_cons.mpr ⟨List.mem_of_getElem? (i := 7) rfl, fun _ h => absurd h List.not_mem_nil⟩⟩⟩⟩⟩⟩⟩) ?_
          exact k15 h1 h6 h9 h13
    · have _ := h6
      refine AW.aload_n (dq rfl) rfl rfl ?_
      show AW l (pI pg 145) P kc ks 60 _ _ SHF _
      refine fw_get (dq rfl) (pg_ok.2.1 145 _ _ _ _ rfl) rfl (v := .ref 47) (isTA_ok rfl (rgR_ok hJ rfl)) ?_
      show AW l (pI pg 145) P kc ks 63 _ _ SHF _
      refine AW.iload (dq rfl) rfl ?_
      show AW l (pI pg 145) P kc ks 65 _ _ SHF _
      refine AW.iald (dq rfl) rfl (o16 h1 h6) ?_
      show AW l (pI pg 145) P kc ks 66 _ _ SHF _
      refine AW.aload_n (dq rfl) rfl rfl ?_
      show AW l (pI pg 145) P kc ks 67 _ _ SHF _
      refine fw_get (dq rfl) (pg_ok.2.1 145 _ _ _ _ rfl) rfl (v := .ref 47) (isTA_ok rfl (rgR_ok hJ rfl)) ?_
      show AW l (pI pg 145) P kc ks 70 _ _ SHF _
      refine AW.iload (dq rfl) rfl ?_
      show AW l (pI pg 145) P kc ks 72 _ _ SHF _
      refine AW.iald (dq rfl) rfl (o17 h1 h6) ?_
      show AW l (pI pg 145) P kc ks 73 _ _ SHF _
      refine AW.icmp_lt (dq rfl) (tgt := 80) (by decide) (fun h18 => ?_) (fun h18 => ?_)
      · have _ := h18
        refine AW.iconst (dq rfl) ?_
        show AW l (pI pg 145) P kc ks 81 _ _ SHF _
        refine AW.goto (dq rfl) (tgt := 106) (by decide) ?_
        refine AW.istore (dq rfl) (by decide +kernel) ?_
        show AW l (pI pg 145) P kc ks 108 [(10, .int (Int32.ofInt 0)), (9, .int (nI o)), (8, .int (k)), (7, .int (nI a)), (6, .int (v)), (5, .int (g)), (1, .ref 4), (0, .ref 45)] [] SHF _
        refine AW.iload (dq rfl) rfl ?_
        show AW l (pI pg 145) P kc ks 110 _ _ SHF _
        refine AW.if_eq (dq rfl) (tgt := 139) (by decide) (fun h19 => ?_) (fun h19 => ?_)
        rotate_left
        · exact absurd h19 (by decide)
        refine AW.iinc (dq rfl) rfl (by decide +kernel) ?_
        show AW l (pI pg 145) P kc ks 142 [(9, .int ((nI o) + Int32.ofInt 1)), (10, .int (Int32.ofInt 0)), (8, .int (k)), (7, .int (nI a)), (6, .int (v)), (5, .int (g)), (1, .ref 4), (0, .ref 45)] [] SHF _
        refine AW.goto (dq rfl) (tgt := 43) (by decide) ?_
        refine AW.drop (lv' := [(9, .int ((nI o) + Int32.ofInt 1)), (8, .int (k)), (7, .int (nI a)), (6, .int (v)), (5, .int (g)), (1, .ref 4), (0, .ref 45)]) (List.forall_mem_cons.mpr ⟨List.mem_of_getElem? (i := 0) rfl, List.forall_mem_cons.mpr ⟨List.mem_of_getElem? (i := 2) rfl, List.forall_mem_cons.mpr ⟨List.mem_of_getElem? (i := 3) rfl, List.forall_mem_cons.mpr ⟨List.mem_of_getElem? (i := 4) rfl, List.forall_mem_cons.mpr ⟨List.mem_of_getElem? (i := 5) rfl, List.forall_mem_cons.mpr ⟨List.mem_of_getElem? (i := 6) rfl, List.forall_mem_cons.mpr ⟨List.mem_of_getElem? (i := 7) rfl, fun _ h => absurd h List.not_mem_nil⟩⟩⟩⟩⟩⟩⟩) ?_
        exact k20 h1 h6 h18
      · have _ := h18
        refine AW.iconst (dq rfl) ?_
        show AW l (pI pg 145) P kc ks 77 _ _ SHF _
        refine AW.goto (dq rfl) (tgt := 106) (by decide) ?_
        refine AW.istore (dq rfl) (by decide +kernel) ?_
        show AW l (pI pg 145) P kc ks 108 [(10, .int (Int32.ofInt 1)), (9, .int (nI o)), (8, .int (k)), (7, .int (nI a)), (6, .int (v)), (5, .int (g)), (1, .ref 4), (0, .ref 45)] [] SHF _
        refine AW.iload (dq rfl) rfl ?_
        show AW l (pI pg 145) P kc ks 110 _ _ SHF _
        refine AW.if_eq (dq rfl) (tgt := 139) (by decide) (fun h21 => ?_) (fun h21 => ?_)
        · exact absurd h21 (by decide)
        refine AW.aload_n (dq rfl) rfl rfl ?_
        show AW l (pI pg 145) P kc ks 114 _ _ SHF _
        refine fw_get (dq rfl) (pg_ok.2.1 145 _ _ _ _ rfl) rfl (v := .ref 46) (isTA_ok rfl (rgR_ok hJ rfl)) ?_
        show AW l (pI pg 145) P kc ks 117 _ _ SHF _
        refine AW.iload (dq rfl) rfl ?_
        show AW l (pI pg 145) P kc ks 119 _ _ SHF _
        refine AW.iald (dq rfl) rfl (o16 h1 h6) ?_
        show AW l (pI pg 145) P kc ks 120 _ _ SHF _
        refine AW.iload (dq rfl) rfl ?_
        show AW l (pI pg 145) P kc ks 122 _ _ SHF _
        refine AW.iand (dq rfl) ?_
        show AW l (pI pg 145) P kc ks 123 _ _ SHF _
        refine AW.aload_n (dq rfl) rfl rfl ?_
        show AW l (pI pg 145) P kc ks 124 _ _ SHF _
        refine fw_get (dq rfl) (pg_ok.2.1 145 _ _ _ _ rfl) rfl (v := .ref 46) (isTA_ok rfl (rgR_ok hJ rfl)) ?_
        show AW l (pI pg 145) P kc ks 127 _ _ SHF _
        refine AW.iload (dq rfl) rfl ?_
        show AW l (pI pg 145) P kc ks 129 _ _ SHF _
        refine AW.iald (dq rfl) rfl (o17 h1 h6) ?_
        show AW l (pI pg 145) P kc ks 130 _ _ SHF _
        refine AW.iload (dq rfl) rfl ?_
        show AW l (pI pg 145) P kc ks 132 _ _ SHF _
        refine AW.iand (dq rfl) ?_
        show AW l (pI pg 145) P kc ks 133 _ _ SHF _
        refine AW.icmp_ne (dq rfl) (tgt := 139) (by decide) (fun h22 => ?_) (fun h22 => ?_)
        · have _ := h22
          refine AW.iinc (dq rfl) rfl (by decide +kernel) ?_
          show AW l (pI pg 145) P kc ks 142 [(9, .int ((nI o) + Int32.ofInt 1)), (10, .int (Int32.ofInt 1)), (8, .int (k)), (7, .int (nI a)), (6, .int (v)), (5, .int (g)), (1, .ref 4), (0, .ref 45)] [] SHF _
          refine AW.goto (dq rfl) (tgt := 43) (by decide) ?_
          refine AW.drop (lv' := [(9, .int ((nI o) + Int32.ofInt 1)), (8, .int (k)), (7, .int (nI a)), (6, .int (v)), (5, .int (g)), (1, .ref 4), (0, .ref 45)]) (List.forall_mem_cons.mpr ⟨List.mem_of_getElem? (i := 0) rfl, List.forall_mem_cons.mpr ⟨List.mem_of_getElem? (i := 2) rfl, List.forall_mem_cons.mpr ⟨List.mem_of_getElem? (i := 3) rfl, List.forall_mem_cons.mpr ⟨List.mem_of_getElem? (i := 4) rfl, List.forall_mem_cons.mpr ⟨List.mem_of_getElem? (i := 5) rfl, List.forall_mem_cons.mpr ⟨List.mem_of_getElem? (i := 6) rfl, List.forall_mem_cons.mpr ⟨List.mem_of_getElem? (i := 7) rfl, fun _ h => absurd h List.not_mem_nil⟩⟩⟩⟩⟩⟩⟩) ?_
          exact k23 h1 h6 h18 h22
        · have _ := h22
          refine AW.iconst (dq rfl) ?_
          show AW l (pI pg 145) P kc ks 137 _ _ SHF _
          refine AW.istore (dq rfl) (by decide +kernel) ?_
          show AW l (pI pg 145) P kc ks 139 [(8, .int (Int32.ofInt 0)), (10, .int (Int32.ofInt 1)), (9, .int (nI o)), (7, .int (nI a)), (6, .int (v)), (5, .int (g)), (1, .ref 4), (0, .ref 45)] [] SHF _
          refine AW.iinc (dq rfl) rfl (by decide +kernel) ?_
          show AW l (pI pg 145) P kc ks 142 [(9, .int ((nI o) + Int32.ofInt 1)), (8, .int (Int32.ofInt 0)), (10, .int (Int32.ofInt 1)), (7, .int (nI a)), (6, .int (v)), (5, .int (g)), (1, .ref 4), (0, .ref 45)] [] SHF _
          refine AW.goto (dq rfl) (tgt := 43) (by decide) ?_
          refine AW.drop (lv' := [(9, .int ((nI o) + Int32.ofInt 1)), (8, .int (Int32.ofInt 0)), (7, .int (nI a)), (6, .int (v)), (5, .int (g)), (1, .ref 4), (0, .ref 45)]) (List.forall_mem_cons.mpr ⟨List.mem_of_getElem? (i := 0) rfl, List.forall_mem_cons.mpr ⟨List.mem_of_getElem? (i := 1) rfl, List.forall_mem_cons.mpr ⟨List.mem_of_getElem? (i := 3) rfl, List.forall_mem_cons.mpr ⟨List.mem_of_getElem? (i := 4) rfl, List.forall_mem_cons.mpr ⟨List.mem_of_getElem? (i := 5) rfl, List.forall_mem_cons.mpr ⟨List.mem_of_getElem? (i := 6) rfl, List.forall_mem_cons.mpr ⟨List.mem_of_getElem? (i := 7) rfl, fun _ h => absurd h List.not_mem_nil⟩⟩⟩⟩⟩⟩⟩) ?_
          exact k24 h1 h6 h18 h22

theorem loka_0 {l : aL} {P : aP} {kc ks : Nat} {x : Int32} {M : aM} (hJ : ∀ e ∈ RR.2, M.2.2 e.1 e.2.1 = e.2.2) (hl0 : l.1.stackTraces = false) (Q1 : Int32 → aM → Prop) (c2 : AC l (pI pg 18) (fcI M Q1) 0 0 [.ref 4] SHF M) (Q4 : Int32 → aM → Int32 → aM → Prop) (c5 : ∀ (y1 : Int32), ∀ (M1 : aM), ∀ (e1 : M1.2.2 = M.2.2), ∀ (q1 : Q1 y1 M1), ∀ (h3 : ((x) &&& ((y1) ^^^ (Int32.ofInt (-1))) : Int32) = 0), AC l (pI pg 145) (fcI M1 (Q4 y1 M1)) 0 0 [.ref 45, .ref 4, .ref 30, .ref 36, .int (x)] SHF M1) (r6 : ∀ (y1 : Int32), ∀ (M1 : aM), ∀ (e1 : M1.2.2 = M.2.2), ∀ (q1 : Q1 y1 M1), ∀ (h3 : ((x) &&& ((y1) ^^^ (Int32.ofInt (-1))) : Int32) = 0), ∀ (y4 : Int32), ∀ (M4 : aM), ∀ (e4 : M4.2.2 = M1.2.2), ∀ (q4 : (Q4 y1 M1) y4 M4), P (.inl (some (.int (y4)))) SHF M4) (x7 : ∀ (y1 : Int32), ∀ (M1 : aM), ∀ (e1 : M1.2.2 = M.2.2), ∀ (q1 : Q1 y1 M1), ∀ (h3 : ¬ (((x) &&& ((y1) ^^^ (Int32.ofInt (-1))) : Int32) = 0)), P (.inr "java/lang/IllegalArgumentException") SHF M1) : AW l (pI pg 144) P (kc + 1) (ks + 6) 0 [(0, .ref 0), (1, .int (x))] [] SHF M := by
  refine AW.iload_n (dq rfl) rfl ?_
  show AW l (pI pg 144) P (kc + 1) (ks + 6) 1 _ _ SHF _
  refine AW.aload_n (dq rfl) rfl rfl ?_
  show AW l (pI pg 144) P (kc + 1) (ks + 6) 2 _ _ SHF _
  refine fw_get (dq rfl) (pg_ok.2.1 144 _ _ _ _ rfl) rfl (v := .ref 4) (isTA_ok rfl (rgR_ok hJ rfl)) ?_
  show AW l (pI pg 144) P (kc + 1) (ks + 6) 5 _ _ SHF _
  refine fw_callVI (as := []) (dq rfl) (pg_ok.2.2.1 144 _ _ _ _ rfl) rfl (by decide +kernel) rfl rfl (c2) (fun y1 M1 e1 q1 => ?_)
  have hJ1 : ∀ e ∈ RR.2, M1.2.2 e.1 e.2.1 = e.2.2 := fun e he => by rw [e1]; exact hJ e he
  show AW l (pI pg 144) P (kc + 1) (ks + 6) 8 [(0, .ref 0), (1, .int (x))] [.int (y1), .int (x)] SHF _
  refine AW.iconst (dq rfl) ?_
  show AW l (pI pg 144) P (kc + 1) (ks + 6) 9 _ _ SHF _
  refine AW.ixor (dq rfl) ?_
  show AW l (pI pg 144) P (kc + 1) (ks + 6) 10 _ _ SHF _
  refine AW.iand (dq rfl) ?_
  show AW l (pI pg 144) P (kc + 1) (ks + 6) 11 _ _ SHF _
  refine AW.if_eq (dq rfl) (tgt := 25) (by decide) (fun h3 => ?_) (fun h3 => ?_)
  · have _ := h3
    refine AW.aload_n (dq rfl) rfl rfl ?_
    show AW l (pI pg 144) P (kc + 1) (ks + 6) 26 _ _ SHF _
    refine fw_get (dq rfl) (pg_ok.2.1 144 _ _ _ _ rfl) rfl (v := .ref 45) (isTA_ok rfl (rgR_ok hJ1 rfl)) ?_
    show AW l (pI pg 144) P (kc + 1) (ks + 6) 29 _ _ SHF _
    refine AW.aload_n (dq rfl) rfl rfl ?_
    show AW l (pI pg 144) P (kc + 1) (ks + 6) 30 _ _ SHF _
    refine fw_get (dq rfl) (pg_ok.2.1 144 _ _ _ _ rfl) rfl (v := .ref 4) (isTA_ok rfl (rgR_ok hJ1 rfl)) ?_
    show AW l (pI pg 144) P (kc + 1) (ks + 6) 33 _ _ SHF _
    refine AW.aload_n (dq rfl) rfl rfl ?_
    show AW l (pI pg 144) P (kc + 1) (ks + 6) 34 _ _ SHF _
    refine fw_get (dq rfl) (pg_ok.2.1 144 _ _ _ _ rfl) rfl (v := .ref 30) (isTA_ok rfl (rgR_ok hJ1 rfl)) ?_
    show AW l (pI pg 144) P (kc + 1) (ks + 6) 37 _ _ SHF _
    refine AW.aload_n (dq rfl) rfl rfl ?_
    show AW l (pI pg 144) P (kc + 1) (ks + 6) 38 _ _ SHF _
    refine fw_get (dq rfl) (pg_ok.2.1 144 _ _ _ _ rfl) rfl (v := .ref 36) (isTA_ok rfl (rgR_ok hJ1 rfl)) ?_
    show AW l (pI pg 144) P (kc + 1) (ks + 6) 41 _ _ SHF _
    refine AW.iload_n (dq rfl) rfl ?_
    show AW l (pI pg 144) P (kc + 1) (ks + 6) 42 _ _ SHF _
    refine fw_callVI (as := [.ref 4, .ref 30, .ref 36, .int (x)]) (dq rfl) (pg_ok.2.2.1 144 _ _ _ _ rfl) rfl (by decide +kernel) rfl rfl (c5 y1 M1 e1 q1 h3) (fun y4 M4 e4 q4 => ?_)
    have hJ4 : ∀ e ∈ RR.2, M4.2.2 e.1 e.2.1 = e.2.2 := fun e he => by rw [e4]; exact hJ1 e he
    show AW l (pI pg 144) P (kc + 1) (ks + 6) 45 [(0, .ref 0), (1, .int (x))] [.int (y4)] SHF _
    refine AW.iret (dq rfl) rfl ?_
    exact r6 y1 M1 e1 q1 h3 y4 M4 e4 q4
  · have _ := h3
    refine pg_ok.2.2.2.2.2.2.2.1 144 _ _ rfl _ _ _ _ _ _ _ ?_
    exact x7 y1 M1 e1 q1 h3

theorem besa_0 {l : aL} {P : aP} {kc ks : Nat} {x : Int32} {M : aM} (hJ : ∀ e ∈ RR.2, M.2.2 e.1 e.2.1 = e.2.2) (hl0 : l.1.stackTraces = false) (x2 : ∀ (h1 : (x : Int32) < 0), P (.inr "java/lang/IllegalArgumentException") SHF M) (k4 : ∀ (h1 : ¬ ((x : Int32) < 0)), ∀ (h3 : (x : Int32) ≤ (M.1 4 1 : Int32)), AW l (pI pg 150) P (kc + 1) (ks + 6) 33 [(4, .int (Int32.ofInt 0)), (3, .int (Int32.ofInt (-1))), (2, .int (Int32.ofInt 0)), (1, .int (x)), (0, .ref 0)] [] SHF M) (x5 : ∀ (h1 : ¬ ((x : Int32) < 0)), ∀ (h3 : ¬ ((x : Int32) ≤ (M.1 4 1 : Int32))), P (.inr "java/lang/IllegalArgumentException") SHF M) : AW l (pI pg 150) P (kc + 1) (ks + 6) 0 [(0, .ref 0), (1, .int (x))] [] SHF M := by
  refine AW.iload_n (dq rfl) rfl ?_
  show AW l (pI pg 150) P (kc + 1) (ks + 6) 1 _ _ SHF _
  refine AW.if_lt (dq rfl) (tgt := 15) (by decide) (fun h1 => ?_) (fun h1 => ?_)
  · have _ := h1
    refine pg_ok.2.2.2.2.2.2.2.1 150 _ _ rfl _ _ _ _ _ _ _ ?_
    exact x2 h1
  · have _ := h1
    refine AW.iload_n (dq rfl) rfl ?_
    show AW l (pI pg 150) P (kc + 1) (ks + 6) 5 _ _ SHF _
    refine AW.aload_n (dq rfl) rfl rfl ?_
    show AW l (pI pg 150) P (kc + 1) (ks + 6) 6 _ _ SHF _
    refine fw_get (dq rfl) (pg_ok.2.1 150 _ _ _ _ rfl) rfl (v := .ref 4) (isTA_ok rfl (rgR_ok hJ rfl)) ?_
    show AW l (pI pg 150) P (kc + 1) (ks + 6) 9 _ _ SHF _
    refine fw_get (dq rfl) (pg_ok.2.1 150 _ _ _ _ rfl) rfl (v := .int (M.1 4 1)) rfl ?_
    show AW l (pI pg 150) P (kc + 1) (ks + 6) 12 _ _ SHF _
    refine AW.icmp_le (dq rfl) (tgt := 26) (by decide) (fun h3 => ?_) (fun h3 => ?_)
    · have _ := h3
      refine AW.iconst (dq rfl) ?_
      show AW l (pI pg 150) P (kc + 1) (ks + 6) 27 _ _ SHF _
      refine AW.istore_n (dq rfl) (by decide +kernel) ?_
      show AW l (pI pg 150) P (kc + 1) (ks + 6) 28 [(2, .int (Int32.ofInt 0)), (0, .ref 0), (1, .int (x))] [] SHF _
      refine AW.iconst (dq rfl) ?_
      show AW l (pI pg 150) P (kc + 1) (ks + 6) 29 _ _ SHF _
      refine AW.istore_n (dq rfl) (by decide +kernel) ?_
      show AW l (pI pg 150) P (kc + 1) (ks + 6) 30 [(3, .int (Int32.ofInt (-1))), (2, .int (Int32.ofInt 0)), (0, .ref 0), (1, .int (x))] [] SHF _
      refine AW.iconst (dq rfl) ?_
      show AW l (pI pg 150) P (kc + 1) (ks + 6) 31 _ _ SHF _
      refine AW.istore (dq rfl) (by decide +kernel) ?_
      show AW l (pI pg 150) P (kc + 1) (ks + 6) 33 [(4, .int (Int32.ofInt 0)), (3, .int (Int32.ofInt (-1))), (2, .int (Int32.ofInt 0)), (0, .ref 0), (1, .int (x))] [] SHF _
      refine AW.drop (lv' := [(4, .int (Int32.ofInt 0)), (3, .int (Int32.ofInt (-1))), (2, .int (Int32.ofInt 0)), (1, .int (x)), (0, .ref 0)]) (List.forall_mem_cons.mpr ⟨List.mem_of_getElem? (i := 0) rfl, List.forall_mem_cons.mpr ⟨List.mem_of_getElem? (i := 1) rfl, List.forall_mem_cons.mpr ⟨List.mem_of_getElem? (i := 2) rfl, List.forall_mem_cons.mpr ⟨List.mem_of_getElem? (i := 4) rfl, List.forall_mem_cons.mpr ⟨List.mem_of_getElem? (i := 3) rfl, fun _ h => absurd h List.not_mem_nil⟩⟩⟩⟩⟩) ?_
      exact k4 h1 h3
    · have _ := h3
      refine pg_ok.2.2.2.2.2.2.2.1 150 _ _ rfl _ _ _ _ _ _ _ ?_
      exact x5 h1 h3

theorem besa_33 {l : aL} {P : aP} {kc ks : Nat} {s : Nat} {v g x : Int32} {M : aM} (hJ : ∀ e ∈ RR.2, M.2.2 e.1 e.2.1 = e.2.2) (hl0 : l.1.stackTraces = false) (Q1 : Int32 → aM → Prop) (c2 : AC l (pI pg 18) (fcI M Q1) 0 0 [.ref 4] SHF M) (r4 : ∀ (y1 : Int32), ∀ (M1 : aM), ∀ (e1 : M1.2.2 = M.2.2), ∀ (q1 : Q1 y1 M1), ∀ (h3 : (y1 : Int32) < (nI s : Int32)), P (.inl (some (.int (g)))) SHF M1) (Q5 : Int32 → aM → Int32 → aM → Prop) (c6 : ∀ (y1 : Int32), ∀ (M1 : aM), ∀ (e1 : M1.2.2 = M.2.2), ∀ (q1 : Q1 y1 M1), ∀ (h3 : ¬ ((y1 : Int32) < (nI s : Int32))), AC l (pI pg 21) (fcI M1 (Q5 y1 M1)) 0 0 [.int (nI s)] SHF M1) (k8 : ∀ (y1 : Int32), ∀ (M1 : aM), ∀ (e1 : M1.2.2 = M.2.2), ∀ (q1 : Q1 y1 M1), ∀ (h3 : ¬ ((y1 : Int32) < (nI s : Int32))), ∀ (y5 : Int32), ∀ (M5 : aM), ∀ (e5 : M5.2.2 = M1.2.2), ∀ (q5 : (Q5 y1 M1) y5 M5), ∀ (h7 : ¬ (y5 : Int32) = (x : Int32)), AW l (pI pg 150) P kc ks 33 [(4, .int ((nI s) + Int32.ofInt 1)), (3, .int (v)), (2, .int (g)), (1, .int (x)), (0, .ref 0)] [] SHF M5) (Q9 : Int32 → aM → Int32 → aM → Int32 → aM → Prop) (c10 : ∀ (y1 : Int32), ∀ (M1 : aM), ∀ (e1 : M1.2.2 = M.2.2), ∀ (q1 : Q1 y1 M1), ∀ (h3 : ¬ ((y1 : Int32) < (nI s : Int32))), ∀ (y5 : Int32), ∀ (M5 : aM), ∀ (e5 : M5.2.2 = M1.2.2), ∀ (q5 : (Q5 y1 M1) y5 M5), ∀ (h7 : (y5 : Int32) = (x : Int32)), AC l (pI pg 145) (fcI M5 (Q9 y1 M1 y5 M5)) 0 0 [.ref 45, .ref 4, .ref 30, .ref 36, .int (nI s)] SHF M5) (k12 : ∀ (y1 : Int32), ∀ (M1 : aM), ∀ (e1 : M1.2.2 = M.2.2), ∀ (q1 : Q1 y1 M1), ∀ (h3 : ¬ ((y1 : Int32) < (nI s : Int32))), ∀ (y5 : Int32), ∀ (M5 : aM), ∀ (e5 : M5.2.2 = M1.2.2), ∀ (q5 : (Q5 y1 M1) y5 M5), ∀ (h7 : (y5 : Int32) = (x : Int32)), ∀ (y9 : Int32), ∀ (M9 : aM), ∀ (e9 : M9.2.2 = M5.2.2), ∀ (q9 : (Q9 y1 M1 y5 M5) y9 M9), ∀ (h11 : (y9 : Int32) ≤ (v : Int32)), AW l (pI pg 150) P kc ks 33 [(4, .int ((nI s) + Int32.ofInt 1)), (3, .int (v)), (2, .int (g)), (1, .int (x)), (0, .ref 0)] [] SHF M9) (k13 : ∀ (y1 : Int32), ∀ (M1 : aM), ∀ (e1 : M1.2.2 = M.2.2), ∀ (q1 : Q1 y1 M1), ∀ (h3 : ¬ ((y1 : Int32) < (nI s : Int32))), ∀ (y5 : Int32), ∀ (M5 : aM), ∀ (e5 : M5.2.2 = M1.2.2), ∀ (q5 : (Q5 y1 M1) y5 M5), ∀ (h7 : (y5 : Int32) = (x : Int32)), ∀ (y9 : Int32), ∀ (M9 : aM), ∀ (e9 : M9.2.2 = M5.2.2), ∀ (q9 : (Q9 y1 M1 y5 M5) y9 M9), ∀ (h11 : ¬ ((y9 : Int32) ≤ (v : Int32))), AW l (pI pg 150) P kc ks 33 [(4, .int ((nI s) + Int32.ofInt 1)), (3, .int (y9)), (2, .int (nI s)), (1, .int (x)), (0, .ref 0)] [] SHF M9) : AW l (pI pg 150) P kc ks 33 [(4, .int (nI s)), (3, .int (v)), (2, .int (g)), (1, .int (x)), (0, .ref 0)] [] SHF M := by
  refine AW.iload (dq rfl) rfl ?_
  show AW l (pI pg 150) P kc ks 35 _ _ SHF _
  refine AW.aload_n (dq rfl) rfl rfl ?_
  show AW l (pI pg 150) P kc ks 36 _ _ SHF _
  refine fw_get (dq rfl) (pg_ok.2.1 150 _ _ _ _ rfl) rfl (v := .ref 4) (isTA_ok rfl (rgR_ok hJ rfl)) ?_
  show AW l (pI pg 150) P kc ks 39 _ _ SHF _
  refine fw_callVI (as := []) (dq rfl) (pg_ok.2.2.1 150 _ _ _ _ rfl) rfl (by decide +kernel) rfl rfl (c2) (fun y1 M1 e1 q1 => ?_)
  have hJ1 : ∀ e ∈ RR.2, M1.2.2 e.1 e.2.1 = e.2.2 := fun e he => by rw [e1]; exact hJ e he
  show AW l (pI pg 150) P kc ks 42 [(4, .int (nI s)), (3, .int (v)), (2, .int (g)), (1, .int (x)), (0, .ref 0)] [.int (y1), .int (nI s)] SHF _
  refine AW.icmp_gt (dq rfl) (tgt := 95) (by decide) (fun h3 => ?_) (fun h3 => ?_)
  · have _ := h3
    refine AW.iload_n (dq rfl) rfl ?_
    show AW l (pI pg 150) P kc ks 96 _ _ SHF _
    refine AW.iret (dq rfl) rfl ?_
    exact r4 y1 M1 e1 q1 h3
  · have _ := h3
    refine AW.iload (dq rfl) rfl ?_
    show AW l (pI pg 150) P kc ks 47 _ _ SHF _
    refine fw_callSI (as := [.int (nI s)]) (dq rfl) (pg_ok.2.2.1 150 _ _ _ _ rfl) (by decide +kernel) rfl rfl (c6 y1 M1 e1 q1 h3) (fun y5 M5 e5 q5 => ?_)
    have hJ5 : ∀ e ∈ RR.2, M5.2.2 e.1 e.2.1 = e.2.2 := fun e he => by rw [e5]; exact hJ1 e he
    show AW l (pI pg 150) P kc ks 50 [(4, .int (nI s)), (3, .int (v)), (2, .int (g)), (1, .int (x)), (0, .ref 0)] [.int (y5)] SHF _
    refine AW.iload_n (dq rfl) rfl ?_
    show AW l (pI pg 150) P kc ks 51 _ _ SHF _
    refine AW.icmp_ne (dq rfl) (tgt := 89) (by decide) (fun h7 => ?_) (fun h7 => ?_)
    · have _ := h7
      refine AW.iinc (dq rfl) rfl (by decide +kernel) ?_
      show AW l (pI pg 150) P kc ks 92 [(4, .int ((nI s) + Int32.ofInt 1)), (3, .int (v)), (2, .int (g)), (1, .int (x)), (0, .ref 0)] [] SHF _
      refine AW.goto (dq rfl) (tgt := 33) (by decide) ?_
      refine AW.drop (lv' := [(4, .int ((nI s) + Int32.ofInt 1)), (3, .int (v)), (2, .int (g)), (1, .int (x)), (0, .ref 0)]) (List.forall_mem_cons.mpr ⟨List.mem_of_getElem? (i := 0) rfl, List.forall_mem_cons.mpr ⟨List.mem_of_getElem? (i := 1) rfl, List.forall_mem_cons.mpr ⟨List.mem_of_getElem? (i := 2) rfl, List.forall_mem_cons.mpr ⟨List.mem_of_getElem? (i := 3) rfl, List.forall_mem_cons.mpr ⟨List.mem_of_getElem? (i := 4) rfl, fun _ h => absurd h List.not_mem_nil⟩⟩⟩⟩⟩) ?_
      exact k8 y1 M1 e1 q1 h3 y5 M5 e5 q5 h7
    · have _ := h7
      refine AW.aload_n (dq rfl) rfl rfl ?_
      show AW l (pI pg 150) P kc ks 55 _ _ SHF _
      refine fw_get (dq rfl) (pg_ok.2.1 150 _ _ _ _ rfl) rfl (v := .ref 45) (isTA_ok rfl (rgR_ok hJ5 rfl)) ?_
      show AW l (pI pg 150) P kc ks 58 _ _ SHF _
      refine AW.aload_n (dq rfl) rfl rfl ?_
      show AW l (pI pg 150) P kc ks 59 _ _ SHF _
      refine fw_get (dq rfl) (pg_ok.2.1 150 _ _ _ _ rfl) rfl (v := .ref 4) (isTA_ok rfl (rgR_ok hJ5 rfl)) ?_
      show AW l (pI pg 150) P kc ks 62 _ _ SHF _
      refine AW.aload_n (dq rfl) rfl rfl ?_
      show AW l (pI pg 150) P kc ks 63 _ _ SHF _
      refine fw_get (dq rfl) (pg_ok.2.1 150 _ _ _ _ rfl) rfl (v := .ref 30) (isTA_ok rfl (rgR_ok hJ5 rfl)) ?_
      show AW l (pI pg 150) P kc ks 66 _ _ SHF _
      refine AW.aload_n (dq rfl) rfl rfl ?_
      show AW l (pI pg 150) P kc ks 67 _ _ SHF _
      refine fw_get (dq rfl) (pg_ok.2.1 150 _ _ _ _ rfl) rfl (v := .ref 36) (isTA_ok rfl (rgR_ok hJ5 rfl)) ?_
      show AW l (pI pg 150) P kc ks 70 _ _ SHF _
      refine AW.iload (dq rfl) rfl ?_
      show AW l (pI pg 150) P kc ks 72 _ _ SHF _
      refine fw_callVI (as := [.ref 4, .ref 30, .ref 36, .int (nI s)]) (dq rfl) (pg_ok.2.2.1 150 _ _ _ _ rfl) rfl (by decide +kernel) rfl rfl (c10 y1 M1 e1 q1 h3 y5 M5 e5 q5 h7) (fun y9 M9 e9 q9 => ?_)
      have hJ9 : ∀ e ∈ RR.2, M9.2.2 e.1 e.2.1 = e.2.2 := fun e he => by rw [e9]; exact hJ5 e he
      show AW l (pI pg 150) P kc ks 75 [(4, .int (nI s)), (3, .int (v)), (2, .int (g)), (1, .int (x)), (0, .ref 0)] [.int (y9)] SHF _
      refine AW.istore (dq rfl) (by decide +kernel) ?_
      show AW l (pI pg 150) P kc ks 77 [(5, .int (y9)), (4, .int (nI s)), (3, .int (v)), (2, .int (g)), (1, .int (x)), (0, .ref 0)] [] SHF _
      refine AW.iload (dq rfl) rfl ?_
      show AW l (pI pg 150) P kc ks 79 _ _ SHF _
      refine AW.iload_n (dq rfl) rfl ?_
      show AW l (pI pg 150) P kc ks 80 _ _ SHF _
      refine AW.icmp_le (dq rfl) (tgt := 89) (by decide) (fun h11 => ?_) (fun h11 => ?_)
      · have _ := h11
        refine AW.iinc (dq rfl) rfl (by decide +kernel) ?_
        show AW l (pI pg 150) P kc ks 92 [(4, .int ((nI s) + Int32.ofInt 1)), (5, .int (y9)), (3, .int (v)), (2, .int (g)), (1, .int (x)), (0, .ref 0)] [] SHF _
        refine AW.goto (dq rfl) (tgt := 33) (by decide) ?_
        refine AW.drop (lv' := [(4, .int ((nI s) + Int32.ofInt 1)), (3, .int (v)), (2, .int (g)), (1, .int (x)), (0, .ref 0)]) (List.forall_mem_cons.mpr ⟨List.mem_of_getElem? (i := 0) rfl, List.forall_mem_cons.mpr ⟨List.mem_of_getElem? (i := 2) rfl, List.forall_mem_cons.mpr ⟨List.mem_of_getElem? (i := 3) rfl, List.forall_mem_cons.mpr ⟨List.mem_of_getElem? (i := 4) rfl, List.forall_mem_cons.mpr ⟨List.mem_of_getElem? (i := 5) rfl, fun _ h => absurd h List.not_mem_nil⟩⟩⟩⟩⟩) ?_
        exact k12 y1 M1 e1 q1 h3 y5 M5 e5 q5 h7 y9 M9 e9 q9 h11
      · have _ := h11
        refine AW.iload (dq rfl) rfl ?_
        show AW l (pI pg 150) P kc ks 85 _ _ SHF _
        refine AW.istore_n (dq rfl) (by decide +kernel) ?_
        show AW l (pI pg 150) P kc ks 86 [(2, .int (nI s)), (5, .int (y9)), (4, .int (nI s)), (3, .int (v)), (1, .int (x)), (0, .ref 0)] [] SHF _
        refine AW.iload (dq rfl) rfl ?_
        show AW l (pI pg 150) P kc ks 88 _ _ SHF _
        refine AW.istore_n (dq rfl) (by decide +kernel) ?_
        show AW l (pI pg 150) P kc ks 89 [(3, .int (y9)), (2, .int (nI s)), (5, .int (y9)), (4, .int (nI s)), (1, .int (x)), (0, .ref 0)] [] SHF _
        refine AW.iinc (dq rfl) rfl (by decide +kernel) ?_
        show AW l (pI pg 150) P kc ks 92 [(4, .int ((nI s) + Int32.ofInt 1)), (3, .int (y9)), (2, .int (nI s)), (5, .int (y9)), (1, .int (x)), (0, .ref 0)] [] SHF _
        refine AW.goto (dq rfl) (tgt := 33) (by decide) ?_
        refine AW.drop (lv' := [(4, .int ((nI s) + Int32.ofInt 1)), (3, .int (y9)), (2, .int (nI s)), (1, .int (x)), (0, .ref 0)]) (List.forall_mem_cons.mpr ⟨List.mem_of_getElem? (i := 0) rfl, List.forall_mem_cons.mpr ⟨List.mem_of_getElem? (i := 1) rfl, List.forall_mem_cons.mpr ⟨List.mem_of_getElem? (i := 2) rfl, List.forall_mem_cons.mpr ⟨List.mem_of_getElem? (i := 4) rfl, List.forall_mem_cons.mpr ⟨List.mem_of_getElem? (i := 5) rfl, fun _ h => absurd h List.not_mem_nil⟩⟩⟩⟩⟩) ?_
        exact k13 y1 M1 e1 q1 h3 y5 M5 e5 q5 h7 y9 M9 e9 q9 h11

theorem sksb_0 {l : aL} {P : aP} {kc ks : Nat} {f : Int64} {M : aM} (hJ : ∀ e ∈ RRS.2, M.2.2 e.1 e.2.1 = e.2.2) (hl0 : l.1.stackTraces = false) (k1 : AW l (pI pg 147) P kc ks 5 [(4, .int (Int32.ofInt 0)), (3, .int (Int32.ofInt 0)), (1, .long (f)), (0, .ref 17)] [] SHF M) : AW l (pI pg 147) P kc ks 0 [(0, .ref 17), (1, .long (f))] [] SHF M := by
  refine AW.iconst (dq rfl) ?_
  show AW l (pI pg 147) P kc ks 1 _ _ SHF _
  refine AW.istore_n (dq rfl) (by decide +kernel) ?_
  show AW l (pI pg 147) P kc ks 2 [(3, .int (Int32.ofInt 0)), (0, .ref 17), (1, .long (f))] [] SHF _
  refine AW.iconst (dq rfl) ?_
  show AW l (pI pg 147) P kc ks 3 _ _ SHF _
  refine AW.istore (dq rfl) (by decide +kernel) ?_
  show AW l (pI pg 147) P kc ks 5 [(4, .int (Int32.ofInt 0)), (3, .int (Int32.ofInt 0)), (0, .ref 17), (1, .long (f))] [] SHF _
  refine AW.drop (lv' := [(4, .int (Int32.ofInt 0)), (3, .int (Int32.ofInt 0)), (1, .long (f)), (0, .ref 17)]) (List.forall_mem_cons.mpr ⟨List.mem_of_getElem? (i := 0) rfl, List.forall_mem_cons.mpr ⟨List.mem_of_getElem? (i := 1) rfl, List.forall_mem_cons.mpr ⟨List.mem_of_getElem? (i := 3) rfl, List.forall_mem_cons.mpr ⟨List.mem_of_getElem? (i := 2) rfl, fun _ h => absurd h List.not_mem_nil⟩⟩⟩⟩) ?_
  exact k1

theorem sksb_5 {l : aL} {P : aP} {kc ks : Nat} {w : Nat} {v : Int32} {f : Int64} {M : aM} (hJ : ∀ e ∈ RRS.2, M.2.2 e.1 e.2.1 = e.2.2) (hl0 : l.1.stackTraces = false) (r2 : ∀ (h1 : (M.1 17 1 : Int32) ≤ (nI w : Int32)), P (.inl (some (.int (v)))) SHF M) (r4 : ∀ (h1 : ¬ ((M.1 17 1 : Int32) ≤ (nI w : Int32))), ∀ (h3 : (lg_cmp (f) ((-1)) : Int32) = 0), P (.inl (some (.int (v)))) SHF M) (Q5 : Int32 → aM → Prop) (c6 : ∀ (h1 : ¬ ((M.1 17 1 : Int32) ≤ (nI w : Int32))), ∀ (h3 : ¬ ((lg_cmp (f) ((-1)) : Int32) = 0)), AC l (pI pg 108) (fcI M Q5) 0 0 [.long (f)] SHF M) (Q7 : Int32 → aM → Int32 → aM → Prop) (c8 : ∀ (h1 : ¬ ((M.1 17 1 : Int32) ≤ (nI w : Int32))), ∀ (h3 : ¬ ((lg_cmp (f) ((-1)) : Int32) = 0)), ∀ (y5 : Int32), ∀ (M5 : aM), ∀ (e5 : M5.2.2 = M.2.2), ∀ (q5 : Q5 y5 M5), AC l (pI pg 112) (fcI M5 (Q7 y5 M5)) 0 0 [.int (y5), .int (nI w)] SHF M5) (k11 : ∀ (h1 : ¬ ((M.1 17 1 : Int32) ≤ (nI w : Int32))), ∀ (h3 : ¬ ((lg_cmp (f) ((-1)) : Int32) = 0)), ∀ (y5 : Int32), ∀ (M5 : aM), ∀ (e5 : M5.2.2 = M.2.2), ∀ (q5 : Q5 y5 M5), ∀ (y7 : Int32), ∀ (M7 : aM), ∀ (e7 : M7.2.2 = M5.2.2), ∀ (q7 : (Q7 y5 M5) y7 M7), ∀ (h10 : (hpV (M7.1 17 0) (y7) : Int32) = 0), AW l (pI pg 147) P kc ks 5 [(4, .int ((nI w) + Int32.ofInt 1)), (3, .int (v)), (1, .long (f)), (0, .ref 17)] [] SHF M7) (o12 : ∀ (h1 : ¬ ((M.1 17 1 : Int32) ≤ (nI w : Int32))), ∀ (h3 : ¬ ((lg_cmp (f) ((-1)) : Int32) = 0)), ∀ (y5 : Int32), ∀ (M5 : aM), ∀ (e5 : M5.2.2 = M.2.2), ∀ (q5 : Q5 y5 M5), ∀ (y7 : Int32), ∀ (M7 : aM), ∀ (e7 : M7.2.2 = M5.2.2), ∀ (q7 : (Q7 y5 M5) y7 M7), ∀ (h10 : ¬ ((hpV (M7.1 17 0) (y7) : Int32) = 0)), vp_in (((y7) * ((Int8.ofInt 8).toInt32)) + (nI w)) 48) (k13 : ∀ (h1 : ¬ ((M.1 17 1 : Int32) ≤ (nI w : Int32))), ∀ (h3 : ¬ ((lg_cmp (f) ((-1)) : Int32) = 0)), ∀ (y5 : Int32), ∀ (M5 : aM), ∀ (e5 : M5.2.2 = M.2.2), ∀ (q5 : Q5 y5 M5), ∀ (y7 : Int32), ∀ (M7 : aM), ∀ (e7 : M7.2.2 = M5.2.2), ∀ (q7 : (Q7 y5 M5) y7 M7), ∀ (h10 : ¬ ((hpV (M7.1 17 0) (y7) : Int32) = 0)), AW l (pI pg 147) P kc ks 5 [(4, .int ((nI w) + Int32.ofInt 1)), (3, .int ((v) ||| ((M7.1 25 (((y7) * ((Int8.ofInt 8).toInt32)) + (nI w)).toNatClampNeg) <<< (((Int32.ofInt 4) * (nI w)) &&& 31)))), (1, .long (f)), (0, .ref 17)] [] SHF M7) : AW l (pI pg 147) P kc ks 5 [(4, .int (nI w)), (3, .int (v)), (1, .long (f)), (0, .ref 17)] [] SHF M := by
  refine AW.iload (dq rfl) rfl ?_
  show AW l (pI pg 147) P kc ks 7 _ _ SHF _
  refine AW.aload_n (dq rfl) rfl rfl ?_
  show AW l (pI pg 147) P kc ks 8 _ _ SHF _
  refine fw_get (dq rfl) (pg_ok.2.1 147 _ _ _ _ rfl) rfl (v := .int (M.1 17 1)) rfl ?_
  show AW l (pI pg 147) P kc ks 11 _ _ SHF _
  refine AW.icmp_ge (dq rfl) (tgt := 69) (by decide) (fun h1 => ?_) (fun h1 => ?_)
  · have _ := h1
    refine AW.iload_n (dq rfl) rfl ?_
    show AW l (pI pg 147) P kc ks 70 _ _ SHF _
    refine AW.iret (dq rfl) rfl ?_
    exact r2 h1
  · have _ := h1
    refine AW.lload_n (dq rfl) rfl ?_
    show AW l (pI pg 147) P kc ks 15 _ _ SHF _
    refine AW.ldc2 (dq rfl) (pg_ok.2.2.2.2.2.1 147 _ (-1) rfl) ?_
    show AW l (pI pg 147) P kc ks 18 _ _ SHF _
    refine AW.lcmp (dq rfl) ?_
    show AW l (pI pg 147) P kc ks 19 _ _ SHF _
    refine AW.if_eq (dq rfl) (tgt := 69) (by decide) (fun h3 => ?_) (fun h3 => ?_)
    · have _ := h3
      refine AW.iload_n (dq rfl) rfl ?_
      show AW l (pI pg 147) P kc ks 70 _ _ SHF _
      refine AW.iret (dq rfl) rfl ?_
      exact r4 h1 h3
    · have _ := h3
      refine AW.lload_n (dq rfl) rfl ?_
      show AW l (pI pg 147) P kc ks 23 _ _ SHF _
      refine fw_callSI (as := [.long (f)]) (dq rfl) (pg_ok.2.2.1 147 _ _ _ _ rfl) (by decide +kernel) rfl rfl (c6 h1 h3) (fun y5 M5 e5 q5 => ?_)
      have hJ5 : ∀ e ∈ RRS.2, M5.2.2 e.1 e.2.1 = e.2.2 := fun e he => by rw [e5]; exact hJ e he
      show AW l (pI pg 147) P kc ks 26 [(4, .int (nI w)), (3, .int (v)), (1, .long (f)), (0, .ref 17)] [.int (y5)] SHF _
      refine AW.iload (dq rfl) rfl ?_
      show AW l (pI pg 147) P kc ks 28 _ _ SHF _
      refine fw_callSI (as := [.int (y5), .int (nI w)]) (dq rfl) (pg_ok.2.2.1 147 _ _ _ _ rfl) (by decide +kernel) rfl rfl (c8 h1 h3 y5 M5 e5 q5) (fun y7 M7 e7 q7 => ?_)
      have hJ7 : ∀ e ∈ RRS.2, M7.2.2 e.1 e.2.1 = e.2.2 := fun e he => by rw [e7]; exact hJ5 e he
      show AW l (pI pg 147) P kc ks 31 [(4, .int (nI w)), (3, .int (v)), (1, .long (f)), (0, .ref 17)] [.int (y7)] SHF _
      refine AW.istore (dq rfl) (by decide +kernel) ?_
      show AW l (pI pg 147) P kc ks 33 [(5, .int (y7)), (4, .int (nI w)), (3, .int (v)), (1, .long (f)), (0, .ref 17)] [] SHF _
      refine AW.aload_n (dq rfl) rfl rfl ?_
      show AW l (pI pg 147) P kc ks 34 _ _ SHF _
      refine AW.iload (dq rfl) rfl ?_
      show AW l (pI pg 147) P kc ks 36 _ _ SHF _
      refine fw_callVI (as := [.int (y7)]) (dq rfl) (pg_ok.2.2.1 147 _ _ _ _ rfl) rfl (by decide +kernel) rfl rfl (hpeB_c hl0 (fun e he => (fun e he => hJ7 e he) e (rk_RRS e he))) (fun y9 M9 e9 q9 => ?_)
      obtain ⟨rfl, rfl⟩ := q9
      show AW l (pI pg 147) P kc ks 39 [(5, .int (y7)), (4, .int (nI w)), (3, .int (v)), (1, .long (f)), (0, .ref 17)] [.int (hpV (M7.1 17 0) (y7))] SHF _
      refine AW.if_eq (dq rfl) (tgt := 63) (by decide) (fun h10 => ?_) (fun h10 => ?_)
      · have _ := h10
        refine AW.iinc (dq rfl) rfl (by decide +kernel) ?_
        show AW l (pI pg 147) P kc ks 66 [(4, .int ((nI w) + Int32.ofInt 1)), (5, .int (y7)), (3, .int (v)), (1, .long (f)), (0, .ref 17)] [] SHF _
        refine AW.goto (dq rfl) (tgt := 5) (by decide) ?_
        refine AW.drop (lv' := [(4, .int ((nI w) + Int32.ofInt 1)), (3, .int (v)), (1, .long (f)), (0, .ref 17)]) (List.forall_mem_cons.mpr ⟨List.mem_of_getElem? (i := 0) rfl, List.forall_mem_cons.mpr ⟨List.mem_of_getElem? (i := 2) rfl, List.forall_mem_cons.mpr ⟨List.mem_of_getElem? (i := 3) rfl, List.forall_mem_cons.mpr ⟨List.mem_of_getElem? (i := 4) rfl, fun _ h => absurd h List.not_mem_nil⟩⟩⟩⟩) ?_
        exact k11 h1 h3 y5 M5 e5 q5 y7 M7 e7 q7 h10
      · have _ := h10
        refine AW.iload_n (dq rfl) rfl ?_
        show AW l (pI pg 147) P kc ks 43 _ _ SHF _
        refine AW.aload_n (dq rfl) rfl rfl ?_
        show AW l (pI pg 147) P kc ks 44 _ _ SHF _
        refine fw_get (dq rfl) (pg_ok.2.1 147 _ _ _ _ rfl) rfl (v := .ref 25) (isTA_ok rfl (rgR_ok hJ7 rfl)) ?_
        show AW l (pI pg 147) P kc ks 47 _ _ SHF _
        refine AW.iload (dq rfl) rfl ?_
        show AW l (pI pg 147) P kc ks 49 _ _ SHF _
        refine AW.bipush (dq rfl) ?_
        show AW l (pI pg 147) P kc ks 51 _ _ SHF _
        refine AW.imul (dq rfl) ?_
        show AW l (pI pg 147) P kc ks 52 _ _ SHF _
        refine AW.iload (dq rfl) rfl ?_
        show AW l (pI pg 147) P kc ks 54 _ _ SHF _
        refine AW.iadd (dq rfl) ?_
        show AW l (pI pg 147) P kc ks 55 _ _ SHF _
        refine AW.iald (dq rfl) rfl (o12 h1 h3 y5 M5 e5 q5 y7 M7 e7 q7 h10) ?_
        show AW l (pI pg 147) P kc ks 56 _ _ SHF _
        refine AW.iconst (dq rfl) ?_
        show AW l (pI pg 147) P kc ks 57 _ _ SHF _
        refine AW.iload (dq rfl) rfl ?_
        show AW l (pI pg 147) P kc ks 59 _ _ SHF _
        refine AW.imul (dq rfl) ?_
        show AW l (pI pg 147) P kc ks 60 _ _ SHF _
        refine AW.ishl (dq rfl) ?_
        show AW l (pI pg 147) P kc ks 61 _ _ SHF _
        refine AW.ior (dq rfl) ?_
        show AW l (pI pg 147) P kc ks 62 _ _ SHF _
        refine AW.istore_n (dq rfl) (by decide +kernel) ?_
        show AW l (pI pg 147) P kc ks 63 [(3, .int ((v) ||| ((M7.1 25 (((y7) * ((Int8.ofInt 8).toInt32)) + (nI w)).toNatClampNeg) <<< (((Int32.ofInt 4) * (nI w)) &&& 31)))), (5, .int (y7)), (4, .int (nI w)), (1, .long (f)), (0, .ref 17)] [] SHF _
        refine AW.iinc (dq rfl) rfl (by decide +kernel) ?_
        show AW l (pI pg 147) P kc ks 66 [(4, .int ((nI w) + Int32.ofInt 1)), (3, .int ((v) ||| ((M7.1 25 (((y7) * ((Int8.ofInt 8).toInt32)) + (nI w)).toNatClampNeg) <<< (((Int32.ofInt 4) * (nI w)) &&& 31)))), (5, .int (y7)), (1, .long (f)), (0, .ref 17)] [] SHF _
        refine AW.goto (dq rfl) (tgt := 5) (by decide) ?_
        refine AW.drop (lv' := [(4, .int ((nI w) + Int32.ofInt 1)), (3, .int ((v) ||| ((M7.1 25 (((y7) * ((Int8.ofInt 8).toInt32)) + (nI w)).toNatClampNeg) <<< (((Int32.ofInt 4) * (nI w)) &&& 31)))), (1, .long (f)), (0, .ref 17)]) (List.forall_mem_cons.mpr ⟨List.mem_of_getElem? (i := 0) rfl, List.forall_mem_cons.mpr ⟨List.mem_of_getElem? (i := 1) rfl, List.forall_mem_cons.mpr ⟨List.mem_of_getElem? (i := 3) rfl, List.forall_mem_cons.mpr ⟨List.mem_of_getElem? (i := 4) rfl, fun _ h => absurd h List.not_mem_nil⟩⟩⟩⟩) ?_
        exact k13 h1 h3 y5 M5 e5 q5 y7 M7 e7 q7 h10

theorem sigb_0 {l : aL} {P : aP} {kc ks : Nat} {x : Int32} {M : aM} (hJ : ∀ e ∈ RRS.2, M.2.2 e.1 e.2.1 = e.2.2) (hl0 : l.1.stackTraces = false) (k1 : AW l (pI pg 148) P kc ks 4 [(3, .int (Int32.ofInt 0)), (2, .int (Int32.ofInt 0)), (1, .int (x)), (0, .ref 17)] [] SHF M) : AW l (pI pg 148) P kc ks 0 [(0, .ref 17), (1, .int (x))] [] SHF M := by
  refine AW.iconst (dq rfl) ?_
  show AW l (pI pg 148) P kc ks 1 _ _ SHF _
  refine AW.istore_n (dq rfl) (by decide +kernel) ?_
  show AW l (pI pg 148) P kc ks 2 [(2, .int (Int32.ofInt 0)), (0, .ref 17), (1, .int (x))] [] SHF _
  refine AW.iconst (dq rfl) ?_
  show AW l (pI pg 148) P kc ks 3 _ _ SHF _
  refine AW.istore_n (dq rfl) (by decide +kernel) ?_
  show AW l (pI pg 148) P kc ks 4 [(3, .int (Int32.ofInt 0)), (2, .int (Int32.ofInt 0)), (0, .ref 17), (1, .int (x))] [] SHF _
  refine AW.drop (lv' := [(3, .int (Int32.ofInt 0)), (2, .int (Int32.ofInt 0)), (1, .int (x)), (0, .ref 17)]) (List.forall_mem_cons.mpr ⟨List.mem_of_getElem? (i := 0) rfl, List.forall_mem_cons.mpr ⟨List.mem_of_getElem? (i := 1) rfl, List.forall_mem_cons.mpr ⟨List.mem_of_getElem? (i := 3) rfl, List.forall_mem_cons.mpr ⟨List.mem_of_getElem? (i := 2) rfl, fun _ h => absurd h List.not_mem_nil⟩⟩⟩⟩) ?_
  exact k1

theorem sigb_4 {l : aL} {P : aP} {kc ks : Nat} {w : Nat} {v x : Int32} {M : aM} (hJ : ∀ e ∈ RRS.2, M.2.2 e.1 e.2.1 = e.2.2) (hl0 : l.1.stackTraces = false) (r2 : ∀ (h1 : (M.1 17 1 : Int32) ≤ (nI w : Int32)), P (.inl (some (.int (v)))) SHF M) (k4 : ∀ (h1 : ¬ ((M.1 17 1 : Int32) ≤ (nI w : Int32))), ∀ (h3 : (((x) >>> ((nI w) &&& 31)) &&& (Int32.ofInt 1) : Int32) = 0), AW l (pI pg 148) P kc ks 4 [(3, .int ((nI w) + Int32.ofInt 1)), (2, .int (v)), (1, .int (x)), (0, .ref 17)] [] SHF M) (k5 : ∀ (h1 : ¬ ((M.1 17 1 : Int32) ≤ (nI w : Int32))), ∀ (h3 : ¬ ((((x) >>> ((nI w) &&& 31)) &&& (Int32.ofInt 1) : Int32) = 0)), AW l (pI pg 148) P kc ks 4 [(3, .int ((nI w) + Int32.ofInt 1)), (2, .int ((v) ||| (((Int8.ofInt 15).toInt32) <<< (((Int32.ofInt 4) * (nI w)) &&& 31)))), (1, .int (x)), (0, .ref 17)] [] SHF M) : AW l (pI pg 148) P kc ks 4 [(3, .int (nI w)), (2, .int (v)), (1, .int (x)), (0, .ref 17)] [] SHF M := by
  refine AW.iload_n (dq rfl) rfl ?_
  show AW l (pI pg 148) P kc ks 5 _ _ SHF _
  refine AW.aload_n (dq rfl) rfl rfl ?_
  show AW l (pI pg 148) P kc ks 6 _ _ SHF _
  refine fw_get (dq rfl) (pg_ok.2.1 148 _ _ _ _ rfl) rfl (v := .int (M.1 17 1)) rfl ?_
  show AW l (pI pg 148) P kc ks 9 _ _ SHF _
  refine AW.icmp_ge (dq rfl) (tgt := 35) (by decide) (fun h1 => ?_) (fun h1 => ?_)
  · have _ := h1
    refine AW.iload_n (dq rfl) rfl ?_
    show AW l (pI pg 148) P kc ks 36 _ _ SHF _
    refine AW.iret (dq rfl) rfl ?_
    exact r2 h1
  · have _ := h1
    refine AW.iload_n (dq rfl) rfl ?_
    show AW l (pI pg 148) P kc ks 13 _ _ SHF _
    refine AW.iload_n (dq rfl) rfl ?_
    show AW l (pI pg 148) P kc ks 14 _ _ SHF _
    refine AW.ishr (dq rfl) ?_
    show AW l (pI pg 148) P kc ks 15 _ _ SHF _
    refine AW.iconst (dq rfl) ?_
    show AW l (pI pg 148) P kc ks 16 _ _ SHF _
    refine AW.iand (dq rfl) ?_
    show AW l (pI pg 148) P kc ks 17 _ _ SHF _
    refine AW.if_eq (dq rfl) (tgt := 29) (by decide) (fun h3 => ?_) (fun h3 => ?_)
    · have _ := h3
      refine AW.iinc (dq rfl) rfl (by decide +kernel) ?_
      show AW l (pI pg 148) P kc ks 32 [(3, .int ((nI w) + Int32.ofInt 1)), (2, .int (v)), (1, .int (x)), (0, .ref 17)] [] SHF _
      refine AW.goto (dq rfl) (tgt := 4) (by decide) ?_
      refine AW.drop (lv' := [(3, .int ((nI w) + Int32.ofInt 1)), (2, .int (v)), (1, .int (x)), (0, .ref 17)]) (List.forall_mem_cons.mpr ⟨List.mem_of_getElem? (i := 0) rfl, List.forall_mem_cons.mpr ⟨List.mem_of_getElem? (i := 1) rfl, List.forall_mem_cons.mpr ⟨List.mem_of_getElem? (i := 2) rfl, List.forall_mem_cons.mpr ⟨List.mem_of_getElem? (i := 3) rfl, fun _ h => absurd h List.not_mem_nil⟩⟩⟩⟩) ?_
      exact k4 h1 h3
    · have _ := h3
      refine AW.iload_n (dq rfl) rfl ?_
      show AW l (pI pg 148) P kc ks 21 _ _ SHF _
      refine AW.bipush (dq rfl) ?_
      show AW l (pI pg 148) P kc ks 23 _ _ SHF _
      refine AW.iconst (dq rfl) ?_
      show AW l (pI pg 148) P kc ks 24 _ _ SHF _
      refine AW.iload_n (dq rfl) rfl ?_
      show AW l (pI pg 148) P kc ks 25 _ _ SHF _
      refine AW.imul (dq rfl) ?_
      show AW l (pI pg 148) P kc ks 26 _ _ SHF _
      refine AW.ishl (dq rfl) ?_
      show AW l (pI pg 148) P kc ks 27 _ _ SHF _
      refine AW.ior (dq rfl) ?_
      show AW l (pI pg 148) P kc ks 28 _ _ SHF _
      refine AW.istore_n (dq rfl) (by decide +kernel) ?_
      show AW l (pI pg 148) P kc ks 29 [(2, .int ((v) ||| (((Int8.ofInt 15).toInt32) <<< (((Int32.ofInt 4) * (nI w)) &&& 31)))), (3, .int (nI w)), (1, .int (x)), (0, .ref 17)] [] SHF _
      refine AW.iinc (dq rfl) rfl (by decide +kernel) ?_
      show AW l (pI pg 148) P kc ks 32 [(3, .int ((nI w) + Int32.ofInt 1)), (2, .int ((v) ||| (((Int8.ofInt 15).toInt32) <<< (((Int32.ofInt 4) * (nI w)) &&& 31)))), (1, .int (x)), (0, .ref 17)] [] SHF _
      refine AW.goto (dq rfl) (tgt := 4) (by decide) ?_
      refine AW.drop (lv' := [(3, .int ((nI w) + Int32.ofInt 1)), (2, .int ((v) ||| (((Int8.ofInt 15).toInt32) <<< (((Int32.ofInt 4) * (nI w)) &&& 31)))), (1, .int (x)), (0, .ref 17)]) (List.forall_mem_cons.mpr ⟨List.mem_of_getElem? (i := 0) rfl, List.forall_mem_cons.mpr ⟨List.mem_of_getElem? (i := 1) rfl, List.forall_mem_cons.mpr ⟨List.mem_of_getElem? (i := 2) rfl, List.forall_mem_cons.mpr ⟨List.mem_of_getElem? (i := 3) rfl, fun _ h => absurd h List.not_mem_nil⟩⟩⟩⟩) ?_
      exact k5 h1 h3

theorem prpb_0 {l : aL} {P : aP} {kc ks : Nat} {M : aM} (hJ : ∀ e ∈ RRS.2, M.2.2 e.1 e.2.1 = e.2.2) (hl0 : l.1.stackTraces = false) (Q1 : Int32 → aM → Prop) (c2 : AC l (pI pg 32) (fcI M Q1) 0 0 [.ref 17] SHF M) (k3 : ∀ (y1 : Int32), ∀ (M1 : aM), ∀ (e1 : M1.2.2 = M.2.2), ∀ (q1 : Q1 y1 M1), AW l (pI pg 146) P kc ks 9 [(5, .int (Int32.ofInt 0)), (4, .int (y1)), (3, .ref 36), (2, .ref 30), (1, .ref 17), (0, .ref 45)] [] SHF M1) : AW l (pI pg 146) P kc ks 0 [(0, .ref 45), (1, .ref 17), (2, .ref 30), (3, .ref 36)] [] SHF M := by
  refine AW.aload_n (dq rfl) rfl rfl ?_
  show AW l (pI pg 146) P kc ks 1 _ _ SHF _
  refine fw_callVI (as := []) (dq rfl) (pg_ok.2.2.1 146 _ _ _ _ rfl) rfl (by decide +kernel) rfl rfl (c2) (fun y1 M1 e1 q1 => ?_)
  have hJ1 : ∀ e ∈ RRS.2, M1.2.2 e.1 e.2.1 = e.2.2 := fun e he => by rw [e1]; exact hJ e he
  show AW l (pI pg 146) P kc ks 4 [(0, .ref 45), (1, .ref 17), (2, .ref 30), (3, .ref 36)] [.int (y1)] SHF _
  refine AW.istore (dq rfl) (by decide +kernel) ?_
  show AW l (pI pg 146) P kc ks 6 [(4, .int (y1)), (0, .ref 45), (1, .ref 17), (2, .ref 30), (3, .ref 36)] [] SHF _
  refine AW.iconst (dq rfl) ?_
  show AW l (pI pg 146) P kc ks 7 _ _ SHF _
  refine AW.istore (dq rfl) (by decide +kernel) ?_
  show AW l (pI pg 146) P kc ks 9 [(5, .int (Int32.ofInt 0)), (4, .int (y1)), (0, .ref 45), (1, .ref 17), (2, .ref 30), (3, .ref 36)] [] SHF _
  refine AW.drop (lv' := [(5, .int (Int32.ofInt 0)), (4, .int (y1)), (3, .ref 36), (2, .ref 30), (1, .ref 17), (0, .ref 45)]) (List.forall_mem_cons.mpr ⟨List.mem_of_getElem? (i := 0) rfl, List.forall_mem_cons.mpr ⟨List.mem_of_getElem? (i := 1) rfl, List.forall_mem_cons.mpr ⟨List.mem_of_getElem? (i := 5) rfl, List.forall_mem_cons.mpr ⟨List.mem_of_getElem? (i := 4) rfl, List.forall_mem_cons.mpr ⟨List.mem_of_getElem? (i := 3) rfl, List.forall_mem_cons.mpr ⟨List.mem_of_getElem? (i := 2) rfl, fun _ h => absurd h List.not_mem_nil⟩⟩⟩⟩⟩⟩) ?_
  exact k3 y1 M1 e1 q1

theorem prpb_9 {l : aL} {P : aP} {kc ks : Nat} {a : Nat} {e : Int32} {M : aM} (hJ : ∀ e ∈ RRS.2, M.2.2 e.1 e.2.1 = e.2.2) (hl0 : l.1.stackTraces = false) (Q2 : Int64 → aM → Prop) (c3 : ∀ (h1 : (M.1 17 0 : Int32) ≤ (nI a : Int32)), AC l (pI pg 101) (fcJ M Q2) 0 0 [.ref 36, .ref 17, .ref 30, .int (e)] SHF M) (Q4 : Int64 → aM → Int32 → aM → Prop) (c5 : ∀ (h1 : (M.1 17 0 : Int32) ≤ (nI a : Int32)), ∀ (y2 : Int64), ∀ (M2 : aM), ∀ (e2 : M2.2.2 = M.2.2), ∀ (q2 : Q2 y2 M2), AC l (pI pg 147) (fcI M2 (Q4 y2 M2)) 0 0 [.ref 17, .long (y2)] SHF M2) (o6 : ∀ (h1 : (M.1 17 0 : Int32) ≤ (nI a : Int32)), ∀ (y2 : Int64), ∀ (M2 : aM), ∀ (e2 : M2.2.2 = M.2.2), ∀ (q2 : Q2 y2 M2), ∀ (y4 : Int32), ∀ (M4 : aM), ∀ (e4 : M4.2.2 = M2.2.2), ∀ (q4 : (Q4 y2 M2) y4 M4), vp_in (M.1 17 0) 7) (Q7 : Int64 → aM → Int32 → aM → Int32 → aM → Prop) (c8 : ∀ (h1 : (M.1 17 0 : Int32) ≤ (nI a : Int32)), ∀ (y2 : Int64), ∀ (M2 : aM), ∀ (e2 : M2.2.2 = M.2.2), ∀ (q2 : Q2 y2 M2), ∀ (y4 : Int32), ∀ (M4 : aM), ∀ (e4 : M4.2.2 = M2.2.2), ∀ (q4 : (Q4 y2 M2) y4 M4), AC l (pI pg 71) (fcI (aset M4 46 (M.1 17 0).toNatClampNeg (.int (y4))) (Q7 y2 M2 y4 M4)) 0 0 [.ref 17] SHF (aset M4 46 (M.1 17 0).toNatClampNeg (.int (y4)))) (o9 : ∀ (h1 : (M.1 17 0 : Int32) ≤ (nI a : Int32)), ∀ (y2 : Int64), ∀ (M2 : aM), ∀ (e2 : M2.2.2 = M.2.2), ∀ (q2 : Q2 y2 M2), ∀ (y4 : Int32), ∀ (M4 : aM), ∀ (e4 : M4.2.2 = M2.2.2), ∀ (q4 : (Q4 y2 M2) y4 M4), ∀ (y7 : Int32), ∀ (M7 : aM), ∀ (e7 : M7.2.2 = (aset M4 46 (M.1 17 0).toNatClampNeg (.int (y4))).2.2), ∀ (q7 : (Q7 y2 M2 y4 M4) y7 M7), vp_in ((aset M4 46 (M.1 17 0).toNatClampNeg (.int (y4))).1 17 0) 7) (r10 : ∀ (h1 : (M.1 17 0 : Int32) ≤ (nI a : Int32)), ∀ (y2 : Int64), ∀ (M2 : aM), ∀ (e2 : M2.2.2 = M.2.2), ∀ (q2 : Q2 y2 M2), ∀ (y4 : Int32), ∀ (M4 : aM), ∀ (e4 : M4.2.2 = M2.2.2), ∀ (q4 : (Q4 y2 M2) y4 M4), ∀ (y7 : Int32), ∀ (M7 : aM), ∀ (e7 : M7.2.2 = (aset M4 46 (M.1 17 0).toNatClampNeg (.int (y4))).2.2), ∀ (q7 : (Q7 y2 M2 y4 M4) y7 M7), P (.inl none) SHF (aset (aset M7 47 ((aset M4 46 (M.1 17 0).toNatClampNeg (.int (y4))).1 17 0).toNatClampNeg (.int (((Int16.ofInt 1000).toInt32) - (y7)))) 45 2 (.int (Int32.ofInt 1)))) (Q11 : Int64 → aM → Prop) (c12 : ∀ (h1 : ¬ ((M.1 17 0 : Int32) ≤ (nI a : Int32))), AC l (pI pg 101) (fcJ M Q11) 0 0 [.ref 36, .ref 17, .ref 30, .int ((e) ^^^ ((Int32.ofInt 1) <<< ((nI a) &&& 31)))] SHF M) (Q13 : Int64 → aM → Int32 → aM → Prop) (c14 : ∀ (h1 : ¬ ((M.1 17 0 : Int32) ≤ (nI a : Int32))), ∀ (y11 : Int64), ∀ (M11 : aM), ∀ (e11 : M11.2.2 = M.2.2), ∀ (q11 : Q11 y11 M11), AC l (pI pg 147) (fcI M11 (Q13 y11 M11)) 0 0 [.ref 17, .long (y11)] SHF M11) (o15 : ∀ (h1 : ¬ ((M.1 17 0 : Int32) ≤ (nI a : Int32))), ∀ (y11 : Int64), ∀ (M11 : aM), ∀ (e11 : M11.2.2 = M.2.2), ∀ (q11 : Q11 y11 M11), ∀ (y13 : Int32), ∀ (M13 : aM), ∀ (e13 : M13.2.2 = M11.2.2), ∀ (q13 : (Q13 y11 M11) y13 M13), vp_in (nI a) 7) (o16 : ∀ (h1 : ¬ ((M.1 17 0 : Int32) ≤ (nI a : Int32))), ∀ (y11 : Int64), ∀ (M11 : aM), ∀ (e11 : M11.2.2 = M.2.2), ∀ (q11 : Q11 y11 M11), ∀ (y13 : Int32), ∀ (M13 : aM), ∀ (e13 : M13.2.2 = M11.2.2), ∀ (q13 : (Q13 y11 M11) y13 M13), vp_in (nI a) 6) (k17 : ∀ (h1 : ¬ ((M.1 17 0 : Int32) ≤ (nI a : Int32))), ∀ (y11 : Int64), ∀ (M11 : aM), ∀ (e11 : M11.2.2 = M.2.2), ∀ (q11 : Q11 y11 M11), ∀ (y13 : Int32), ∀ (M13 : aM), ∀ (e13 : M13.2.2 = M11.2.2), ∀ (q13 : (Q13 y11 M11) y13 M13), AW l (pI pg 146) P kc ks 9 [(5, .int ((nI a) + Int32.ofInt 1)), (4, .int (e)), (3, .ref 36), (2, .ref 30), (1, .ref 17), (0, .ref 45)] [] SHF (aset (aset M13 46 (nI a).toNatClampNeg (.int (y13))) 47 (nI a).toNatClampNeg (.int ((aset M13 46 (nI a).toNatClampNeg (.int (y13))).1 19 (nI a).toNatClampNeg)))) : AW l (pI pg 146) P kc ks 9 [(5, .int (nI a)), (4, .int (e)), (3, .ref 36), (2, .ref 30), (1, .ref 17), (0, .ref 45)] [] SHF M := by
  refine AW.iload (dq rfl) rfl ?_
  show AW l (pI pg 146) P kc ks 11 _ _ SHF _
  refine AW.aload_n (dq rfl) rfl rfl ?_
  show AW l (pI pg 146) P kc ks 12 _ _ SHF _
  refine fw_get (dq rfl) (pg_ok.2.1 146 _ _ _ _ rfl) rfl (v := .int (M.1 17 0)) rfl ?_
  show AW l (pI pg 146) P kc ks 15 _ _ SHF _
  refine AW.icmp_ge (dq rfl) (tgt := 62) (by decide) (fun h1 => ?_) (fun h1 => ?_)
  · have _ := h1
    refine AW.aload_n (dq rfl) rfl rfl ?_
    show AW l (pI pg 146) P kc ks 63 _ _ SHF _
    refine fw_get (dq rfl) (pg_ok.2.1 146 _ _ _ _ rfl) rfl (v := .ref 46) (isTA_ok rfl (rgR_ok hJ rfl)) ?_
    show AW l (pI pg 146) P kc ks 66 _ _ SHF _
    refine AW.aload_n (dq rfl) rfl rfl ?_
    show AW l (pI pg 146) P kc ks 67 _ _ SHF _
    refine fw_get (dq rfl) (pg_ok.2.1 146 _ _ _ _ rfl) rfl (v := .int (M.1 17 0)) rfl ?_
    show AW l (pI pg 146) P kc ks 70 _ _ SHF _
    refine AW.aload_n (dq rfl) rfl rfl ?_
    show AW l (pI pg 146) P kc ks 71 _ _ SHF _
    refine AW.aload_n (dq rfl) rfl rfl ?_
    show AW l (pI pg 146) P kc ks 72 _ _ SHF _
    refine AW.aload_n (dq rfl) rfl rfl ?_
    show AW l (pI pg 146) P kc ks 73 _ _ SHF _
    refine AW.aload_n (dq rfl) rfl rfl ?_
    show AW l (pI pg 146) P kc ks 74 _ _ SHF _
    refine AW.iload (dq rfl) rfl ?_
    show AW l (pI pg 146) P kc ks 76 _ _ SHF _
    refine fw_callVJ (as := [.ref 17, .ref 30, .int (e)]) (dq rfl) (pg_ok.2.2.1 146 _ _ _ _ rfl) rfl (by decide +kernel) rfl rfl (c3 h1) (fun y2 M2 e2 q2 => ?_)
    have hJ2 : ∀ e ∈ RRS.2, M2.2.2 e.1 e.2.1 = e.2.2 := fun e he => by rw [e2]; exact hJ e he
    show AW l (pI pg 146) P kc ks 79 [(5, .int (nI a)), (4, .int (e)), (3, .ref 36), (2, .ref 30), (1, .ref 17), (0, .ref 45)] [.long (y2), .ref 17, .int (M.1 17 0), .ref 46] SHF _
    refine fw_callSI (as := [.ref 17, .long (y2)]) (dq rfl) (pg_ok.2.2.1 146 _ _ _ _ rfl) (by decide +kernel) rfl rfl (c5 h1 y2 M2 e2 q2) (fun y4 M4 e4 q4 => ?_)
    have hJ4 : ∀ e ∈ RRS.2, M4.2.2 e.1 e.2.1 = e.2.2 := fun e he => by rw [e4]; exact hJ2 e he
    show AW l (pI pg 146) P kc ks 82 [(5, .int (nI a)), (4, .int (e)), (3, .ref 36), (2, .ref 30), (1, .ref 17), (0, .ref 45)] [.int (y4), .int (M.1 17 0), .ref 46] SHF _
    refine AW.iast (dq rfl) rfl (o6 h1 y2 M2 e2 q2 y4 M4 e4 q4) ?_
    show AW l (pI pg 146) P kc ks 83 _ _ SHF _
    refine AW.aload_n (dq rfl) rfl rfl ?_
    show AW l (pI pg 146) P kc ks 84 _ _ SHF _
    refine fw_get (dq rfl) (pg_ok.2.1 146 _ _ _ _ rfl) rfl (v := .ref 47) (isTA_ok rfl (rgR_ok hJ4 rfl)) ?_
    show AW l (pI pg 146) P kc ks 87 _ _ SHF _
    refine AW.aload_n (dq rfl) rfl rfl ?_
    show AW l (pI pg 146) P kc ks 88 _ _ SHF _
    refine fw_get (dq rfl) (pg_ok.2.1 146 _ _ _ _ rfl) rfl (v := .int ((aset M4 46 (M.1 17 0).toNatClampNeg (.int (y4))).1 17 0)) rfl ?_
    show AW l (pI pg 146) P kc ks 91 _ _ SHF _
    refine AW.sipush (dq rfl) ?_
    show AW l (pI pg 146) P kc ks 94 _ _ SHF _
    refine AW.aload_n (dq rfl) rfl rfl ?_
    show AW l (pI pg 146) P kc ks 95 _ _ SHF _
    refine fw_callVI (as := []) (dq rfl) (pg_ok.2.2.1 146 _ _ _ _ rfl) rfl (by decide +kernel) rfl rfl (c8 h1 y2 M2 e2 q2 y4 M4 e4 q4) (fun y7 M7 e7 q7 => ?_)
    have hJ7 : ∀ e ∈ RRS.2, M7.2.2 e.1 e.2.1 = e.2.2 := fun e he => by rw [e7]; exact hJ4 e he
    show AW l (pI pg 146) P kc ks 98 [(5, .int (nI a)), (4, .int (e)), (3, .ref 36), (2, .ref 30), (1, .ref 17), (0, .ref 45)] [.int (y7), .int ((Int16.ofInt 1000).toInt32), .int ((aset M4 46 (M.1 17 0).toNatClampNeg (.int (y4))).1 17 0), .ref 47] SHF _
    refine AW.isub (dq rfl) ?_
    show AW l (pI pg 146) P kc ks 99 _ _ SHF _
    refine AW.iast (dq rfl) rfl (o9 h1 y2 M2 e2 q2 y4 M4 e4 q4 y7 M7 e7 q7) ?_
    show AW l (pI pg 146) P kc ks 100 _ _ SHF _
    refine AW.aload_n (dq rfl) rfl rfl ?_
    show AW l (pI pg 146) P kc ks 101 _ _ SHF _
    refine AW.iconst (dq rfl) ?_
    show AW l (pI pg 146) P kc ks 102 _ _ SHF _
    refine fw_putZ (dq rfl) (pg_ok.2.1 146 _ _ _ _ rfl) rfl rfl rfl (by decide) ?_
    show AW l (pI pg 146) P kc ks 105 _ _ SHF _
    refine AW.vret (dq rfl) rfl ?_
    exact r10 h1 y2 M2 e2 q2 y4 M4 e4 q4 y7 M7 e7 q7
  · have _ := h1
    refine AW.aload_n (dq rfl) rfl rfl ?_
    show AW l (pI pg 146) P kc ks 19 _ _ SHF _
    refine fw_get (dq rfl) (pg_ok.2.1 146 _ _ _ _ rfl) rfl (v := .ref 46) (isTA_ok rfl (rgR_ok hJ rfl)) ?_
    show AW l (pI pg 146) P kc ks 22 _ _ SHF _
    refine AW.iload (dq rfl) rfl ?_
    show AW l (pI pg 146) P kc ks 24 _ _ SHF _
    refine AW.aload_n (dq rfl) rfl rfl ?_
    show AW l (pI pg 146) P kc ks 25 _ _ SHF _
    refine AW.aload_n (dq rfl) rfl rfl ?_
    show AW l (pI pg 146) P kc ks 26 _ _ SHF _
    refine AW.aload_n (dq rfl) rfl rfl ?_
    show AW l (pI pg 146) P kc ks 27 _ _ SHF _
    refine AW.aload_n (dq rfl) rfl rfl ?_
    show AW l (pI pg 146) P kc ks 28 _ _ SHF _
    refine AW.iload (dq rfl) rfl ?_
    show AW l (pI pg 146) P kc ks 30 _ _ SHF _
    refine AW.iconst (dq rfl) ?_
    show AW l (pI pg 146) P kc ks 31 _ _ SHF _
    refine AW.iload (dq rfl) rfl ?_
    show AW l (pI pg 146) P kc ks 33 _ _ SHF _
    refine AW.ishl (dq rfl) ?_
    show AW l (pI pg 146) P kc ks 34 _ _ SHF _
    refine AW.ixor (dq rfl) ?_
    show AW l (pI pg 146) P kc ks 35 _ _ SHF _
    refine fw_callVJ (as := [.ref 17, .ref 30, .int ((e) ^^^ ((Int32.ofInt 1) <<< ((nI a) &&& 31)))]) (dq rfl) (pg_ok.2.2.1 146 _ _ _ _ rfl) rfl (by decide +kernel) rfl rfl (c12 h1) (fun y11 M11 e11 q11 => ?_)
    have hJ11 : ∀ e ∈ RRS.2, M11.2.2 e.1 e.2.1 = e.2.2 := fun e he => by rw [e11]; exact hJ e he
    show AW l (pI pg 146) P kc ks 38 [(5, .int (nI a)), (4, .int (e)), (3, .ref 36), (2, .ref 30), (1, .ref 17), (0, .ref 45)] [.long (y11), .ref 17, .int (nI a), .ref 46] SHF _
    refine fw_callSI (as := [.ref 17, .long (y11)]) (dq rfl) (pg_ok.2.2.1 146 _ _ _ _ rfl) (by decide +kernel) rfl rfl (c14 h1 y11 M11 e11 q11) (fun y13 M13 e13 q13 => ?_)
    have hJ13 : ∀ e ∈ RRS.2, M13.2.2 e.1 e.2.1 = e.2.2 := fun e he => by rw [e13]; exact hJ11 e he
    show AW l (pI pg 146) P kc ks 41 [(5, .int (nI a)), (4, .int (e)), (3, .ref 36), (2, .ref 30), (1, .ref 17), (0, .ref 45)] [.int (y13), .int (nI a), .ref 46] SHF _
    refine AW.iast (dq rfl) rfl (o15 h1 y11 M11 e11 q11 y13 M13 e13 q13) ?_
    show AW l (pI pg 146) P kc ks 42 _ _ SHF _
    refine AW.aload_n (dq rfl) rfl rfl ?_
    show AW l (pI pg 146) P kc ks 43 _ _ SHF _
    refine fw_get (dq rfl) (pg_ok.2.1 146 _ _ _ _ rfl) rfl (v := .ref 47) (isTA_ok rfl (rgR_ok hJ13 rfl)) ?_
    show AW l (pI pg 146) P kc ks 46 _ _ SHF _
    refine AW.iload (dq rfl) rfl ?_
    show AW l (pI pg 146) P kc ks 48 _ _ SHF _
    refine AW.aload_n (dq rfl) rfl rfl ?_
    show AW l (pI pg 146) P kc ks 49 _ _ SHF _
    refine fw_get (dq rfl) (pg_ok.2.1 146 _ _ _ _ rfl) rfl (v := .ref 19) (isTA_ok rfl (rgR_ok hJ13 rfl)) ?_
    show AW l (pI pg 146) P kc ks 52 _ _ SHF _
    refine AW.iload (dq rfl) rfl ?_
    show AW l (pI pg 146) P kc ks 54 _ _ SHF _
    refine AW.iald (dq rfl) rfl (o16 h1 y11 M11 e11 q11 y13 M13 e13 q13) ?_
    show AW l (pI pg 146) P kc ks 55 _ _ SHF _
    refine AW.iast (dq rfl) rfl (o15 h1 y11 M11 e11 q11 y13 M13 e13 q13) ?_
    show AW l (pI pg 146) P kc ks 56 _ _ SHF _
    refine AW.iinc (dq rfl) rfl (by decide +kernel) ?_
    show AW l (pI pg 146) P kc ks 59 [(5, .int ((nI a) + Int32.ofInt 1)), (4, .int (e)), (3, .ref 36), (2, .ref 30), (1, .ref 17), (0, .ref 45)] [] SHF _
    refine AW.goto (dq rfl) (tgt := 9) (by decide) ?_
    refine AW.drop (lv' := [(5, .int ((nI a) + Int32.ofInt 1)), (4, .int (e)), (3, .ref 36), (2, .ref 30), (1, .ref 17), (0, .ref 45)]) (List.forall_mem_cons.mpr ⟨List.mem_of_getElem? (i := 0) rfl, List.forall_mem_cons.mpr ⟨List.mem_of_getElem? (i := 1) rfl, List.forall_mem_cons.mpr ⟨List.mem_of_getElem? (i := 2) rfl, List.forall_mem_cons.mpr ⟨List.mem_of_getElem? (i := 3) rfl, List.forall_mem_cons.mpr ⟨List.mem_of_getElem? (i := 4) rfl, List.forall_mem_cons.mpr ⟨List.mem_of_getElem? (i := 5) rfl, fun _ h => absurd h List.not_mem_nil⟩⟩⟩⟩⟩⟩) ?_
    exact k17 h1 y11 M11 e11 q11 y13 M13 e13 q13

theorem lrtb_0 {l : aL} {P : aP} {kc ks : Nat} {x : Int32} {M : aM} (hJ : ∀ e ∈ RRS.2, M.2.2 e.1 e.2.1 = e.2.2) (hl0 : l.1.stackTraces = false) (k2 : ∀ (h1 : ¬ (M.1 45 2 : Int32) = 0), AW l (pI pg 145) P kc ks 14 [(4, .int (x)), (3, .ref 36), (2, .ref 30), (1, .ref 17), (0, .ref 45)] [] SHF M) (Q3 : aM → Prop) (c4 : ∀ (h1 : (M.1 45 2 : Int32) = 0), AC l (pI pg 146) (fcV M Q3) 0 0 [.ref 45, .ref 17, .ref 30, .ref 36] SHF M) (k5 : ∀ (h1 : (M.1 45 2 : Int32) = 0), ∀ (M3 : aM), ∀ (e3 : M3.2.2 = M.2.2), ∀ (q3 : Q3 M3), AW l (pI pg 145) P kc ks 14 [(4, .int (x)), (3, .ref 36), (2, .ref 30), (1, .ref 17), (0, .ref 45)] [] SHF M3) : AW l (pI pg 145) P kc ks 0 [(0, .ref 45), (1, .ref 17), (2, .ref 30), (3, .ref 36), (4, .int (x))] [] SHF M := by
  refine AW.aload_n (dq rfl) rfl rfl ?_
  show AW l (pI pg 145) P kc ks 1 _ _ SHF _
  refine fw_get (dq rfl) (pg_ok.2.1 145 _ _ _ _ rfl) rfl (v := .int (M.1 45 2)) rfl ?_
  show AW l (pI pg 145) P kc ks 4 _ _ SHF _
  refine AW.if_ne (dq rfl) (tgt := 14) (by decide) (fun h1 => ?_) (fun h1 => ?_)
  · have _ := h1
    refine AW.drop (lv' := [(4, .int (x)), (3, .ref 36), (2, .ref 30), (1, .ref 17), (0, .ref 45)]) (List.forall_mem_cons.mpr ⟨List.mem_of_getElem? (i := 4) rfl, List.forall_mem_cons.mpr ⟨List.mem_of_getElem? (i := 3) rfl, List.forall_mem_cons.mpr ⟨List.mem_of_getElem? (i := 2) rfl, List.forall_mem_cons.mpr ⟨List.mem_of_getElem? (i := 1) rfl, List.forall_mem_cons.mpr ⟨List.mem_of_getElem? (i := 0) rfl, fun _ h => absurd h List.not_mem_nil⟩⟩⟩⟩⟩) ?_
    exact k2 h1
  · have _ := h1
    refine AW.aload_n (dq rfl) rfl rfl ?_
    show AW l (pI pg 145) P kc ks 8 _ _ SHF _
    refine AW.aload_n (dq rfl) rfl rfl ?_
    show AW l (pI pg 145) P kc ks 9 _ _ SHF _
    refine AW.aload_n (dq rfl) rfl rfl ?_
    show AW l (pI pg 145) P kc ks 10 _ _ SHF _
    refine AW.aload_n (dq rfl) rfl rfl ?_
    show AW l (pI pg 145) P kc ks 11 _ _ SHF _
    refine fw_callVV (as := [.ref 17, .ref 30, .ref 36]) (dq rfl) (pg_ok.2.2.1 145 _ _ _ _ rfl) rfl (by decide +kernel) rfl rfl (c4 h1) (fun M3 e3 q3 => ?_)
    have hJ3 : ∀ e ∈ RRS.2, M3.2.2 e.1 e.2.1 = e.2.2 := fun e he => by rw [e3]; exact hJ e he
    show AW l (pI pg 145) P kc ks 14 [(0, .ref 45), (1, .ref 17), (2, .ref 30), (3, .ref 36), (4, .int (x))] [] SHF _
    refine AW.drop (lv' := [(4, .int (x)), (3, .ref 36), (2, .ref 30), (1, .ref 17), (0, .ref 45)]) (List.forall_mem_cons.mpr ⟨List.mem_of_getElem? (i := 4) rfl, List.forall_mem_cons.mpr ⟨List.mem_of_getElem? (i := 3) rfl, List.forall_mem_cons.mpr ⟨List.mem_of_getElem? (i := 2) rfl, List.forall_mem_cons.mpr ⟨List.mem_of_getElem? (i := 1) rfl, List.forall_mem_cons.mpr ⟨List.mem_of_getElem? (i := 0) rfl, fun _ h => absurd h List.not_mem_nil⟩⟩⟩⟩⟩) ?_
    exact k5 h1 M3 e3 q3

theorem lrtb_14 {l : aL} {P : aP} {kc ks : Nat} {x : Int32} {M : aM} (hJ : ∀ e ∈ RRS.2, M.2.2 e.1 e.2.1 = e.2.2) (hl0 : l.1.stackTraces = false) (Q1 : Int32 → aM → Prop) (c2 : AC l (pI pg 148) (fcI M Q1) 0 0 [.ref 17, .int (x)] SHF M) (k3 : ∀ (y1 : Int32), ∀ (M1 : aM), ∀ (e1 : M1.2.2 = M.2.2), ∀ (q1 : Q1 y1 M1), AW l (pI pg 145) P kc ks 28 [(7, .int (Int32.ofInt 0)), (6, .int (Int32.ofInt 0)), (5, .int (y1)), (1, .ref 17), (0, .ref 45)] [] SHF M1) : AW l (pI pg 145) P kc ks 14 [(4, .int (x)), (3, .ref 36), (2, .ref 30), (1, .ref 17), (0, .ref 45)] [] SHF M := by
  refine AW.aload_n (dq rfl) rfl rfl ?_
  show AW l (pI pg 145) P kc ks 15 _ _ SHF _
  refine AW.iload (dq rfl) rfl ?_
  show AW l (pI pg 145) P kc ks 17 _ _ SHF _
  refine fw_callSI (as := [.ref 17, .int (x)]) (dq rfl) (pg_ok.2.2.1 145 _ _ _ _ rfl) (by decide +kernel) rfl rfl (c2) (fun y1 M1 e1 q1 => ?_)
  have hJ1 : ∀ e ∈ RRS.2, M1.2.2 e.1 e.2.1 = e.2.2 := fun e he => by rw [e1]; exact hJ e he
  show AW l (pI pg 145) P kc ks 20 [(4, .int (x)), (3, .ref 36), (2, .ref 30), (1, .ref 17), (0, .ref 45)] [.int (y1)] SHF _
  refine AW.istore (dq rfl) (by decide +kernel) ?_
  show AW l (pI pg 145) P kc ks 22 [(5, .int (y1)), (4, .int (x)), (3, .ref 36), (2, .ref 30), (1, .ref 17), (0, .ref 45)] [] SHF _
  refine AW.iconst (dq rfl) ?_
  show AW l (pI pg 145) P kc ks 23 _ _ SHF _
  refine AW.istore (dq rfl) (by decide +kernel) ?_
  show AW l (pI pg 145) P kc ks 25 [(6, .int (Int32.ofInt 0)), (5, .int (y1)), (4, .int (x)), (3, .ref 36), (2, .ref 30), (1, .ref 17), (0, .ref 45)] [] SHF _
  refine AW.iconst (dq rfl) ?_
  show AW l (pI pg 145) P kc ks 26 _ _ SHF _
  refine AW.istore (dq rfl) (by decide +kernel) ?_
  show AW l (pI pg 145) P kc ks 28 [(7, .int (Int32.ofInt 0)), (6, .int (Int32.ofInt 0)), (5, .int (y1)), (4, .int (x)), (3, .ref 36), (2, .ref 30), (1, .ref 17), (0, .ref 45)] [] SHF _
  refine AW.drop (lv' := [(7, .int (Int32.ofInt 0)), (6, .int (Int32.ofInt 0)), (5, .int (y1)), (1, .ref 17), (0, .ref 45)]) (List.forall_mem_cons.mpr ⟨List.mem_of_getElem? (i := 0) rfl, List.forall_mem_cons.mpr ⟨List.mem_of_getElem? (i := 1) rfl, List.forall_mem_cons.mpr ⟨List.mem_of_getElem? (i := 2) rfl, List.forall_mem_cons.mpr ⟨List.mem_of_getElem? (i := 6) rfl, List.forall_mem_cons.mpr ⟨List.mem_of_getElem? (i := 7) rfl, fun _ h => absurd h List.not_mem_nil⟩⟩⟩⟩⟩) ?_
  exact k3 y1 M1 e1 q1

theorem lrtb_28 {l : aL} {P : aP} {kc ks : Nat} {a : Nat} {v g : Int32} {M : aM} (hJ : ∀ e ∈ RRS.2, M.2.2 e.1 e.2.1 = e.2.2) (hl0 : l.1.stackTraces = false) (r2 : ∀ (h1 : (M.1 17 0 : Int32) < (nI a : Int32)), P (.inl (some (.int (v)))) SHF M) (k3 : ∀ (h1 : ¬ ((M.1 17 0 : Int32) < (nI a : Int32))), AW l (pI pg 145) P kc ks 43 [(9, .int (Int32.ofInt 0)), (8, .int (Int32.ofInt 1)), (7, .int (nI a)), (6, .int (v)), (5, .int (g)), (1, .ref 17), (0, .ref 45)] [] SHF M) : AW l (pI pg 145) P kc ks 28 [(7, .int (nI a)), (6, .int (v)), (5, .int (g)), (1, .ref 17), (0, .ref 45)] [] SHF M := by
  refine AW.iload (dq rfl) rfl ?_
  show AW l (pI pg 145) P kc ks 30 _ _ SHF _
  refine AW.aload_n (dq rfl) rfl rfl ?_
  show AW l (pI pg 145) P kc ks 31 _ _ SHF _
  refine fw_get (dq rfl) (pg_ok.2.1 145 _ _ _ _ rfl) rfl (v := .int (M.1 17 0)) rfl ?_
  show AW l (pI pg 145) P kc ks 34 _ _ SHF _
  refine AW.icmp_gt (dq rfl) (tgt := 172) (by decide) (fun h1 => ?_) (fun h1 => ?_)
  · have _ := h1
    refine AW.iload (dq rfl) rfl ?_
    show AW l (pI pg 145) P kc ks 174 _ _ SHF _
    refine AW.iret (dq rfl) rfl ?_
    exact r2 h1
  · have _ := h1
    refine AW.iconst (dq rfl) ?_
    show AW l (pI pg 145) P kc ks 38 _ _ SHF _
    refine AW.istore (dq rfl) (by decide +kernel) ?_
    show AW l (pI pg 145) P kc ks 40 [(8, .int (Int32.ofInt 1)), (7, .int (nI a)), (6, .int (v)), (5, .int (g)), (1, .ref 17), (0, .ref 45)] [] SHF _
    refine AW.iconst (dq rfl) ?_
    show AW l (pI pg 145) P kc ks 41 _ _ SHF _
    refine AW.istore (dq rfl) (by decide +kernel) ?_
    show AW l (pI pg 145) P kc ks 43 [(9, .int (Int32.ofInt 0)), (8, .int (Int32.ofInt 1)), (7, .int (nI a)), (6, .int (v)), (5, .int (g)), (1, .ref 17), (0, .ref 45)] [] SHF _
    refine AW.drop (lv' := [(9, .int (Int32.ofInt 0)), (8, .int (Int32.ofInt 1)), (7, .int (nI a)), (6, .int (v)), (5, .int (g)), (1, .ref 17), (0, .ref 45)]) (List.forall_mem_cons.mpr ⟨List.mem_of_getElem? (i := 0) rfl, List.forall_mem_cons.mpr ⟨List.mem_of_getElem? (i := 1) rfl, List.forall_mem_cons.mpr ⟨List.mem_of_getElem? (i := 2) rfl, List.forall_mem_cons.mpr ⟨List.mem_of_getElem? (i := 3) rfl, List.forall_mem_cons.mpr ⟨List.mem_of_getElem? (i := 4) rfl, List.forall_mem_cons.mpr ⟨List.mem_of_getElem? (i := 5) rfl, List.forall_mem_cons.mpr ⟨List.mem_of_getElem? (i := 6) rfl, fun _ h => absurd h List.not_mem_nil⟩⟩⟩⟩⟩⟩⟩) ?_
    exact k3 h1

theorem lrtb_43 {l : aL} {P : aP} {kc ks : Nat} {a o : Nat} {v g k : Int32} {M : aM} (hJ : ∀ e ∈ RRS.2, M.2.2 e.1 e.2.1 = e.2.2) (hl0 : l.1.stackTraces = false) (k3 : ∀ (h1 : (M.1 17 0 : Int32) < (nI o : Int32)), ∀ (h2 : (k : Int32) = 0), AW l (pI pg 145) P kc ks 28 [(7, .int ((nI a) + Int32.ofInt 1)), (6, .int ((v) + (Int32.ofInt 0))), (5, .int (g)), (1, .ref 17), (0, .ref 45)] [] SHF M) (o4 : ∀ (h1 : (M.1 17 0 : Int32) < (nI o : Int32)), ∀ (h2 : ¬ ((k : Int32) = 0)), vp_in (nI a) 7) (k5 : ∀ (h1 : (M.1 17 0 : Int32) < (nI o : Int32)), ∀ (h2 : ¬ ((k : Int32) = 0)), AW l (pI pg 145) P kc ks 28 [(7, .int ((nI a) + Int32.ofInt 1)), (6, .int ((v) + (M.1 47 (nI a).toNatClampNeg))), (5, .int (g)), (1, .ref 17), (0, .ref 45)] [] SHF M) (o7 : ∀ (h1 : ¬ ((M.1 17 0 : Int32) < (nI o : Int32))), ∀ (h6 : (nI a : Int32) ≤ (nI o : Int32)), vp_in (nI o) 7) (o8 : ∀ (h1 : ¬ ((M.1 17 0 : Int32) < (nI o : Int32))), ∀ (h6 : (nI a : Int32) ≤ (nI o : Int32)), vp_in (nI a) 7) (k11 : ∀ (h1 : ¬ ((M.1 17 0 : Int32) < (nI o : Int32))), ∀ (h6 : (nI a : Int32) ≤ (nI o : Int32)), ∀ (h9 : (M.1 47 (nI o).toNatClampNeg : Int32) ≤ (M.1 47 (nI a).toNatClampNeg : Int32)), AW l (pI pg 145) P kc ks 43 [(9, .int ((nI o) + Int32.ofInt 1)), (8, .int (k)), (7, .int (nI a)), (6, .int (v)), (5, .int (g)), (1, .ref 17), (0, .ref 45)] [] SHF M) (k14 : ∀ (h1 : ¬ ((M.1 17 0 : Int32) < (nI o : Int32))), ∀ (h6 : (nI a : Int32) ≤ (nI o : Int32)), ∀ (h9 : ¬ ((M.1 47 (nI o).toNatClampNeg : Int32) ≤ (M.1 47 (nI a).toNatClampNeg : Int32))), ∀ (h13 : ¬ ((M.1 46 (nI o).toNatClampNeg) &&& (g) : Int32) = ((M.1 46 (nI a).toNatClampNeg) &&& (g) : Int32)), AW l (pI pg 145) P kc ks 43 [(9, .int ((nI o) + Int32.ofInt 1)), (8, .int (k)), (7, .int (nI a)), (6, .int (v)), (5, .int (g)), (1, .ref 17), (0, .ref 45)] [] SHF M) (k15 : ∀ (h1 : ¬ ((M.1 17 0 : Int32) < (nI o : Int32))), ∀ (h6 : (nI a : Int32) ≤ (nI o : Int32)), ∀ (h9 : ¬ ((M.1 47 (nI o).toNatClampNeg : Int32) ≤ (M.1 47 (nI a).toNatClampNeg : Int32))), ∀ (h13 : ((M.1 46 (nI o).toNatClampNeg) &&& (g) : Int32) = ((M.1 46 (nI a).toNatClampNeg) &&& (g) : Int32)), AW l (pI pg 145) P kc ks 43 [(9, .int ((nI o) + Int32.ofInt 1)), (8, .int (Int32.ofInt 0)), (7, .int (nI a)), (6, .int (v)), (5, .int (g)), (1, .ref 17), (0, .ref 45)] [] SHF M) (o16 : ∀ (h1 : ¬ ((M.1 17 0 : Int32) < (nI o : Int32))), ∀ (h6 : ¬ ((nI a : Int32) ≤ (nI o : Int32))), vp_in (nI o) 7) (o17 : ∀ (h1 : ¬ ((M.1 17 0 : Int32) < (nI o : Int32))), ∀ (h6 : ¬ ((nI a : Int32) ≤ (nI o : Int32))), vp_in (nI a) 7) (k20 : ∀ (h1 : ¬ ((M.1 17 0 : Int32) < (nI o : Int32))), ∀ (h6 : ¬ ((nI a : Int32) ≤ (nI o : Int32))), ∀ (h18 : (M.1 47 (nI o).toNatClampNeg : Int32) < (M.1 47 (nI a).toNatClampNeg : Int32)), AW l (pI pg 145) P kc ks 43 [(9, .int ((nI o) + Int32.ofInt 1)), (8, .int (k)), (7, .int (nI a)), (6, .int (v)), (5, .int (g)), (1, .ref 17), (0, .ref 45)] [] SHF M) (k23 : ∀ (h1 : ¬ ((M.1 17 0 : Int32) < (nI o : Int32))), ∀ (h6 : ¬ ((nI a : Int32) ≤ (nI o : Int32))), ∀ (h18 : ¬ ((M.1 47 (nI o).toNatClampNeg : Int32) < (M.1 47 (nI a).toNatClampNeg : Int32))), ∀ (h22 : ¬ ((M.1 46 (nI o).toNatClampNeg) &&& (g) : Int32) = ((M.1 46 (nI a).toNatClampNeg) &&& (g) : Int32)), AW l (pI pg 145) P kc ks 43 [(9, .int ((nI o) + Int32.ofInt 1)), (8, .int (k)), (7, .int (nI a)), (6, .int (v)), (5, .int (g)), (1, .ref 17), (0, .ref 45)] [] SHF M) (k24 : ∀ (h1 : ¬ ((M.1 17 0 : Int32) < (nI o : Int32))), ∀ (h6 : ¬ ((nI a : Int32) ≤ (nI o : Int32))), ∀ (h18 : ¬ ((M.1 47 (nI o).toNatClampNeg : Int32) < (M.1 47 (nI a).toNatClampNeg : Int32))), ∀ (h22 : ((M.1 46 (nI o).toNatClampNeg) &&& (g) : Int32) = ((M.1 46 (nI a).toNatClampNeg) &&& (g) : Int32)), AW l (pI pg 145) P kc ks 43 [(9, .int ((nI o) + Int32.ofInt 1)), (8, .int (Int32.ofInt 0)), (7, .int (nI a)), (6, .int (v)), (5, .int (g)), (1, .ref 17), (0, .ref 45)] [] SHF M) : AW l (pI pg 145) P kc ks 43 [(9, .int (nI o)), (8, .int (k)), (7, .int (nI a)), (6, .int (v)), (5, .int (g)), (1, .ref 17), (0, .ref 45)] [] SHF M := by
  refine AW.iload (dq rfl) rfl ?_
  show AW l (pI pg 145) P kc ks 45 _ _ SHF _
  refine AW.aload_n (dq rfl) rfl rfl ?_
  show AW l (pI pg 145) P kc ks 46 _ _ SHF _
  refine fw_get (dq rfl) (pg_ok.2.1 145 _ _ _ _ rfl) rfl (v := .int (M.1 17 0)) rfl ?_
  show AW l (pI pg 145) P kc ks 49 _ _ SHF _
  refine AW.icmp_gt (dq rfl) (tgt := 145) (by decide) (fun h1 => ?_) (fun h1 => ?_)
  · have _ := h1
    refine AW.iload (dq rfl) rfl ?_
    show AW l (pI pg 145) P kc ks 147 _ _ SHF _
    refine AW.iload (dq rfl) rfl ?_
    show AW l (pI pg 145) P kc ks 149 _ _ SHF _
    refine AW.if_eq (dq rfl) (tgt := 162) (by decide) (fun h2 => ?_) (fun h2 => ?_)
    · have _ := h2
      refine AW.iconst (dq rfl) ?_
      show AW l (pI pg 145) P kc ks 163 _ _ SHF _
      refine AW.iadd (dq rfl) ?_
      show AW l (pI pg 145) P kc ks 164 _ _ SHF _
      refine AW.istore (dq rfl) (by decide +kernel) ?_
      show AW l (pI pg 145) P kc ks 166 [(6, .int ((v) + (Int32.ofInt 0))), (9, .int (nI o)), (8, .int (k)), (7, .int (nI a)), (5, .int (g)), (1, .ref 17), (0, .ref 45)] [] SHF _
      refine AW.iinc (dq rfl) rfl (by decide +kernel) ?_
      show AW l (pI pg 145) P kc ks 169 [(7, .int ((nI a) + Int32.ofInt 1)), (6, .int ((v) + (Int32.ofInt 0))), (9, .int (nI o)), (8, .int (k)), (5, .int (g)), (1, .ref 17), (0, .ref 45)] [] SHF _
      refine AW.goto (dq rfl) (tgt := 28) (by decide) ?_
      refine AW.drop (lv' := [(7, .int ((nI a) + Int32.ofInt 1)), (6, .int ((v) + (Int32.ofInt 0))), (5, .int (g)), (1, .ref 17), (0, .ref 45)]) (List.forall_mem_cons.mpr ⟨List.mem_of_getElem? (i := 0) rfl, List.forall_mem_cons.mpr ⟨List.mem_of_getElem? (i := 1) rfl, List.forall_mem_cons.mpr ⟨List.mem_of_getElem? (i := 4) rfl, List.forall_mem_cons.mpr ⟨List.mem_of_getElem? (i := 5) rfl, List.forall_mem_cons.mpr ⟨List.mem_of_getElem? (i := 6) rfl, fun _ h => absurd h List.not_mem_nil⟩⟩⟩⟩⟩) ?_
      exact k3 h1 h2
    · have _ := h2
      refine AW.aload_n (dq rfl) rfl rfl ?_
      show AW l (pI pg 145) P kc ks 153 _ _ SHF _
      refine fw_get (dq rfl) (pg_ok.2.1 145 _ _ _ _ rfl) rfl (v := .ref 47) (isTA_ok rfl (rgR_ok hJ rfl)) ?_
      show AW l (pI pg 145) P kc ks 156 _ _ SHF _
      refine AW.iload (dq rfl) rfl ?_
      show AW l (pI pg 145) P kc ks 158 _ _ SHF _
      refine AW.iald (dq rfl) rfl (o4 h1 h2) ?_
      show AW l (pI pg 145) P kc ks 159 _ _ SHF _
      refine AW.goto (dq rfl) (tgt := 163) (by decide) ?_
      refine AW.iadd (dq rfl) ?_
      show AW l (pI pg 145) P kc ks 164 _ _ SHF _
      refine AW.istore (dq rfl) (by decide +kernel) ?_
      show AW l (pI pg 145) P kc ks 166 [(6, .int ((v) + (M.1 47 (nI a).toNatClampNeg))), (9, .int (nI o)), (8, .int (k)), (7, .int (nI a)), (5, .int (g)), (1, .ref 17), (0, .ref 45)] [] SHF _
      refine AW.iinc (dq rfl) rfl (by decide +kernel) ?_
      show AW l (pI pg 145) P kc ks 169 [(7, .int ((nI a) + Int32.ofInt 1)), (6, .int ((v) + (M.1 47 (nI a).toNatClampNeg))), (9, .int (nI o)), (8, .int (k)), (5, .int (g)), (1, .ref 17), (0, .ref 45)] [] SHF _
      refine AW.goto (dq rfl) (tgt := 28) (by decide) ?_
      refine AW.drop (lv' := [(7, .int ((nI a) + Int32.ofInt 1)), (6, .int ((v) + (M.1 47 (nI a).toNatClampNeg))), (5, .int (g)), (1, .ref 17), (0, .ref 45)]) (List.forall_mem_cons.mpr ⟨List.mem_of_getElem? (i := 0) rfl, List.forall_mem_cons.mpr ⟨List.mem_of_getElem? (i := 1) rfl, List.forall_mem_cons.mpr ⟨List.mem_of_getElem? (i := 4) rfl, List.forall_mem_cons.mpr ⟨List.mem_of_getElem? (i := 5) rfl, List.forall_mem_cons.mpr ⟨List.mem_of_getElem? (i := 6) rfl, fun _ h => absurd h List.not_mem_nil⟩⟩⟩⟩⟩) ?_
      exact k5 h1 h2
  · have _ := h1
    refine AW.iload (dq rfl) rfl ?_
    show AW l (pI pg 145) P kc ks 54 _ _ SHF _
    refine AW.iload (dq rfl) rfl ?_
    show AW l (pI pg 145) P kc ks 56 _ _ SHF _
    refine AW.icmp_ge (dq rfl) (tgt := 84) (by decide) (fun h6 => ?_) (fun h6 => ?_)
    · have _ := h6
      refine AW.aload_n (dq rfl) rfl rfl ?_
      show AW l (pI pg 145) P kc ks 85 _ _ SHF _
      refine fw_get (dq rfl) (pg_ok.2.1 145 _ _ _ _ rfl) rfl (v := .ref 47) (isTA_ok rfl (rgR_ok hJ rfl)) ?_
      show AW l (pI pg 145) P kc ks 88 _ _ SHF _
      refine AW.iload (dq rfl) rfl ?_
      show AW l (pI pg 145) P kc ks 90 _ _ SHF _
      refine AW.iald (dq rfl) rfl (o7 h1 h6) ?_
      show AW l (pI pg 145) P kc ks 91 _ _ SHF _
      refine AW.aload_n (dq rfl) rfl rfl ?_
      show AW l (pI pg 145) P kc ks 92 _ _ SHF _
      refine fw_get (dq rfl) (pg_ok.2.1 145 _ _ _ _ rfl) rfl (v := .ref 47) (isTA_ok rfl (rgR_ok hJ rfl)) ?_
      show AW l (pI pg 145) P kc ks 95 _ _ SHF _
      refine AW.iload (dq rfl) rfl ?_
      show AW l (pI pg 145) P kc ks 97 _ _ SHF _
      refine AW.iald (dq rfl) rfl (o8 h1 h6) ?_
      show AW l (pI pg 145) P kc ks 98 _ _ SHF _
      refine AW.icmp_le (dq rfl) (tgt := 105) (by decide) (fun h9 => ?_) (fun h9 => ?_)
      · have _ := h9
        refine AW.iconst (dq rfl) ?_
        show AW l (pI pg 145) P kc ks 106 _ _ SHF _
        refine AW.istore (dq rfl) (by decide +kernel) ?_
        show AW l (pI pg 145) P kc ks 108 [(10, .int (Int32.ofInt 0)), (9, .int (nI o)), (8, .int (k)), (7, .int (nI a)), (6, .int (v)), (5, .int (g)), (1, .ref 17), (0, .ref 45)] [] SHF _
        refine AW.iload (dq rfl) rfl ?_
        show AW l (pI pg 145) P kc ks 110 _ _ SHF _
        refine AW.if_eq (dq rfl) (tgt := 139) (by decide) (fun h10 => ?_) (fun h10 => ?_)
        rotate_left
        · exact absurd h10 (by decide)
        refine AW.iinc (dq rfl) rfl (by decide +kernel) ?_
        show AW l (pI pg 145) P kc ks 142 [(9, .int ((nI o) + Int32.ofInt 1)), (10, .int (Int32.ofInt 0)), (8, .int (k)), (7, .int (nI a)), (6, .int (v)), (5, .int (g)), (1, .ref 17), (0, .ref 45)] [] SHF _
        refine AW.goto (dq rfl) (tgt := 43) (by decide) ?_
        refine AW.drop (lv' := [(9, .int ((nI o) + Int32.ofInt 1)), (8, .int (k)), (7, .int (nI a)), (6, .int (v)), (5, .int (g)), (1, .ref 17), (0, .ref 45)]) (List.forall_mem_cons.mpr ⟨List.mem_of_getElem? (i := 0) rfl, List.forall_mem_cons.mpr ⟨List.mem_of_getElem? (i := 2) rfl, List.forall_mem_cons.mpr ⟨List.mem_of_getElem? (i := 3) rfl, List.forall_mem_cons.mpr ⟨List.mem_of_getElem? (i := 4) rfl, List.forall_mem_cons.mpr ⟨List.mem_of_getElem? (i := 5) rfl, List.forall_mem_cons.mpr ⟨List.mem_of_getElem? (i := 6) rfl, List.forall_mem_cons.mpr ⟨List.mem_of_getElem? (i := 7) rfl, fun _ h => absurd h List.not_mem_nil⟩⟩⟩⟩⟩⟩⟩) ?_
        exact k11 h1 h6 h9
      · have _ := h9
        refine AW.iconst (dq rfl) ?_
        show AW l (pI pg 145) P kc ks 102 _ _ SHF _
        refine AW.goto (dq rfl) (tgt := 106) (by decide) ?_
        refine AW.istore (dq rfl) (by decide +kernel) ?_
        show AW l (pI pg 145) P kc ks 108 [(10, .int (Int32.ofInt 1)), (9, .int (nI o)), (8, .int (k)), (7, .int (nI a)), (6, .int (v)), (5, .int (g)), (1, .ref 17), (0, .ref 45)] [] SHF _
        refine AW.iload (dq rfl) rfl ?_
        show AW l (pI pg 145) P kc ks 110 _ _ SHF _
        refine AW.if_eq (dq rfl) (tgt := 139) (by decide) (fun h12 => ?_) (fun h12 => ?_)
        · exact absurd h12 (by decide)
        refine AW.aload_n (dq rfl) rfl rfl ?_
        show AW l (pI pg 145) P kc ks 114 _ _ SHF _
        refine fw_get (dq rfl) (pg_ok.2.1 145 _ _ _ _ rfl) rfl (v := .ref 46) (isTA_ok rfl (rgR_ok hJ rfl)) ?_
        show AW l (pI pg 145) P kc ks 117 _ _ SHF _
        refine AW.iload (dq rfl) rfl ?_
        show AW l (pI pg 145) P kc ks 119 _ _ SHF _
        refine AW.iald (dq rfl) rfl (o7 h1 h6) ?_
        show AW l (pI pg 145) P kc ks 120 _ _ SHF _
        refine AW.iload (dq rfl) rfl ?_
        show AW l (pI pg 145) P kc ks 122 _ _ SHF _
        refine AW.iand (dq rfl) ?_
        show AW l (pI pg 145) P kc ks 123 _ _ SHF _
        refine AW.aload_n (dq rfl) rfl rfl ?_
        show AW l (pI pg 145) P kc ks 124 _ _ SHF _
        refine fw_get (dq rfl) (pg_ok.2.1 145 _ _ _ _ rfl) rfl (v := .ref 46) (isTA_ok rfl (rgR_ok hJ rfl)) ?_
        show AW l (pI pg 145) P kc ks 127 _ _ SHF _
        refine AW.iload (dq rfl) rfl ?_
        show AW l (pI pg 145) P kc ks 129 _ _ SHF _
        refine AW.iald (dq rfl) rfl (o8 h1 h6) ?_
        show AW l (pI pg 145) P kc ks 130 _ _ SHF _
        refine AW.iload (dq rfl) rfl ?_
        show AW l (pI pg 145) P kc ks 132 _ _ SHF _
        refine AW.iand (dq rfl) ?_
        show AW l (pI pg 145) P kc ks 133 _ _ SHF _
        refine AW.icmp_ne (dq rfl) (tgt := 139) (by decide) (fun h13 => ?_) (fun h13 => ?_)
        · have _ := h13
          refine AW.iinc (dq rfl) rfl (by decide +kernel) ?_
          show AW l (pI pg 145) P kc ks 142 [(9, .int ((nI o) + Int32.ofInt 1)), (10, .int (Int32.ofInt 1)), (8, .int (k)), (7, .int (nI a)), (6, .int (v)), (5, .int (g)), (1, .ref 17), (0, .ref 45)] [] SHF _
          refine AW.goto (dq rfl) (tgt := 43) (by decide) ?_
          refine AW.drop (lv' := [(9, .int ((nI o) + Int32.ofInt 1)), (8, .int (k)), (7, .int (nI a)), (6, .int (v)), (5, .int (g)), (1, .ref 17), (0, .ref 45)]) (List.forall_mem_cons.mpr ⟨List.mem_of_getElem? (i := 0) rfl, List.forall_mem_cons.mpr ⟨List.mem_of_getElem? (i := 2) rfl, List.forall_mem_cons.mpr ⟨List.mem_of_getElem? (i := 3) rfl, List.forall_mem_cons.mpr ⟨List.mem_of_getElem? (i := 4) rfl, List.forall_mem_cons.mpr ⟨List.mem_of_getElem? (i := 5) rfl, List.forall_mem_cons.mpr ⟨List.mem_of_getElem? (i := 6) rfl, List.forall_mem_cons.mpr ⟨List.mem_of_getElem? (i := 7) rfl, fun _ h => absurd h List.not_mem_nil⟩⟩⟩⟩⟩⟩⟩) ?_
          exact k14 h1 h6 h9 h13
        · have _ := h13
          refine AW.iconst (dq rfl) ?_
          show AW l (pI pg 145) P kc ks 137 _ _ SHF _
          refine AW.istore (dq rfl) (by decide +kernel) ?_
          show AW l (pI pg 145) P kc ks 139 [(8, .int (Int32.ofInt 0)), (10, .int (Int32.ofInt 1)), (9, .int (nI o)), (7, .int (nI a)), (6, .int (v)), (5, .int (g)), (1, .ref 17), (0, .ref 45)] [] SHF _
          refine AW.iinc (dq rfl) rfl (by decide +kernel) ?_
          show AW l (pI pg 145) P kc ks 142 [(9, .int ((nI o) + Int32.ofInt 1)), (8, .int (Int32.ofInt 0)), (10, .int (Int32.ofInt 1)), (7, .int (nI a)), (6, .int (v)), (5, .int (g)), (1, .ref 17), (0, .ref 45)] [] SHF _
          refine AW.goto (dq rfl) (tgt := 43) (by decide) ?_
          refine AW.drop (lv' := [(9, .int ((nI o) + Int32.ofInt 1)), (8, .int (Int32.ofInt 0)), (7, .int (nI a)), (6, .int (v)), (5, .int (g)), (1, .ref 17), (0, .ref 45)]) (List.forall_mem_cons.mpr ⟨List.mem_of_getElem? (i := 0) rfl, List.forall_mem_cons.mpr ⟨List.mem_of_getElem? (i := 1) rfl, List.forall_mem_cons.mpr ⟨List.mem_of_getElem? (i := 3) rfl, List.forall_mem_cons.mpr ⟨List.mem_of_getElem? (i := 4) rfl, List.forall_mem_cons.mpr ⟨List.mem_of_getElem? (i := 5) rfl, List.forall_mem_cons.mpr ⟨List.mem_of_getElem? (i := 6) rfl, List.forall_mem_cons.mpr ⟨List.mem_of_getElem? (i := 7) rfl, fun _ h => absurd h List.not_mem_nil⟩⟩⟩⟩⟩⟩⟩) ?_
          exact k15 h1 h6 h9 h13
    · have _ := h6
      refine AW.aload_n (dq rfl) rfl rfl ?_
      show AW l (pI pg 145) P kc ks 60 _ _ SHF _
      refine fw_get (dq rfl) (pg_ok.2.1 145 _ _ _ _ rfl) rfl (v := .ref 47) (isTA_ok rfl (rgR_ok hJ rfl)) ?_
      show AW l (pI pg 145) P kc ks 63 _ _ SHF _
      refine AW.iload (dq rfl) rfl ?_
      show AW l (pI pg 145) P kc ks 65 _ _ SHF _
      refine AW.iald (dq rfl) rfl (o16 h1 h6) ?_
      show AW l (pI pg 145) P kc ks 66 _ _ SHF _
      refine AW.aload_n (dq rfl) rfl rfl ?_
      show AW l (pI pg 145) P kc ks 67 _ _ SHF _
      refine fw_get (dq rfl) (pg_ok.2.1 145 _ _ _ _ rfl) rfl (v := .ref 47) (isTA_ok rfl (rgR_ok hJ rfl)) ?_
      show AW l (pI pg 145) P kc ks 70 _ _ SHF _
      refine AW.iload (dq rfl) rfl ?_
      show AW l (pI pg 145) P kc ks 72 _ _ SHF _
      refine AW.iald (dq rfl) rfl (o17 h1 h6) ?_
      show AW l (pI pg 145) P kc ks 73 _ _ SHF _
      refine AW.icmp_lt (dq rfl) (tgt := 80) (by decide) (fun h18 => ?_) (fun h18 => ?_)
      · have _ := h18
        refine AW.iconst (dq rfl) ?_
        show AW l (pI pg 145) P kc ks 81 _ _ SHF _
        refine AW.goto (dq rfl) (tgt := 106) (by decide) ?_
        refine AW.istore (dq rfl) (by decide +kernel) ?_
        show AW l (pI pg 145) P kc ks 108 [(10, .int (Int32.ofInt 0)), (9, .int (nI o)), (8, .int (k)), (7, .int (nI a)), (6, .int (v)), (5, .int (g)), (1, .ref 17), (0, .ref 45)] [] SHF _
        refine AW.iload (dq rfl) rfl ?_
        show AW l (pI pg 145) P kc ks 110 _ _ SHF _
        refine AW.if_eq (dq rfl) (tgt := 139) (by decide) (fun h19 => ?_) (fun h19 => ?_)
        rotate_left
        · exact absurd h19 (by decide)
        refine AW.iinc (dq rfl) rfl (by decide +kernel) ?_
        show AW l (pI pg 145) P kc ks 142 [(9, .int ((nI o) + Int32.ofInt 1)), (10, .int (Int32.ofInt 0)), (8, .int (k)), (7, .int (nI a)), (6, .int (v)), (5, .int (g)), (1, .ref 17), (0, .ref 45)] [] SHF _
        refine AW.goto (dq rfl) (tgt := 43) (by decide) ?_
        refine AW.drop (lv' := [(9, .int ((nI o) + Int32.ofInt 1)), (8, .int (k)), (7, .int (nI a)), (6, .int (v)), (5, .int (g)), (1, .ref 17), (0, .ref 45)]) (List.forall_mem_cons.mpr ⟨List.mem_of_getElem? (i := 0) rfl, List.forall_mem_cons.mpr ⟨List.mem_of_getElem? (i := 2) rfl, List.forall_mem_cons.mpr ⟨List.mem_of_getElem? (i := 3) rfl, List.forall_mem_cons.mpr ⟨List.mem_of_getElem? (i := 4) rfl, List.forall_mem_cons.mpr ⟨List.mem_of_getElem? (i := 5) rfl, List.forall_mem_cons.mpr ⟨List.mem_of_getElem? (i := 6) rfl, List.forall_mem_cons.mpr ⟨List.mem_of_getElem? (i := 7) rfl, fun _ h => absurd h List.not_mem_nil⟩⟩⟩⟩⟩⟩⟩) ?_
        exact k20 h1 h6 h18
      · have _ := h18
        refine AW.iconst (dq rfl) ?_
        show AW l (pI pg 145) P kc ks 77 _ _ SHF _
        refine AW.goto (dq rfl) (tgt := 106) (by decide) ?_
        refine AW.istore (dq rfl) (by decide +kernel) ?_
        show AW l (pI pg 145) P kc ks 108 [(10, .int (Int32.ofInt 1)), (9, .int (nI o)), (8, .int (k)), (7, .int (nI a)), (6, .int (v)), (5, .int (g)), (1, .ref 17), (0, .ref 45)] [] SHF _
        refine AW.iload (dq rfl) rfl ?_
        show AW l (pI pg 145) P kc ks 110 _ _ SHF _
        refine AW.if_eq (dq rfl) (tgt := 139) (by decide) (fun h21 => ?_) (fun h21 => ?_)
        · exact absurd h21 (by decide)
        refine AW.aload_n (dq rfl) rfl rfl ?_
        show AW l (pI pg 145) P kc ks 114 _ _ SHF _
        refine fw_get (dq rfl) (pg_ok.2.1 145 _ _ _ _ rfl) rfl (v := .ref 46) (isTA_ok rfl (rgR_ok hJ rfl)) ?_
        show AW l (pI pg 145) P kc ks 117 _ _ SHF _
        refine AW.iload (dq rfl) rfl ?_
        show AW l (pI pg 145) P kc ks 119 _ _ SHF _
        refine AW.iald (dq rfl) rfl (o16 h1 h6) ?_
        show AW l (pI pg 145) P kc ks 120 _ _ SHF _
        refine AW.iload (dq rfl) rfl ?_
        show AW l (pI pg 145) P kc ks 122 _ _ SHF _
        refine AW.iand (dq rfl) ?_
        show AW l (pI pg 145) P kc ks 123 _ _ SHF _
        refine AW.aload_n (dq rfl) rfl rfl ?_
        show AW l (pI pg 145) P kc ks 124 _ _ SHF _
        refine fw_get (dq rfl) (pg_ok.2.1 145 _ _ _ _ rfl) rfl (v := .ref 46) (isTA_ok rfl (rgR_ok hJ rfl)) ?_
        show AW l (pI pg 145) P kc ks 127 _ _ SHF _
        refine AW.iload (dq rfl) rfl ?_
        show AW l (pI pg 145) P kc ks 129 _ _ SHF _
        refine AW.iald (dq rfl) rfl (o17 h1 h6) ?_
        show AW l (pI pg 145) P kc ks 130 _ _ SHF _
        refine AW.iload (dq rfl) rfl ?_
        show AW l (pI pg 145) P kc ks 132 _ _ SHF _
        refine AW.iand (dq rfl) ?_
        show AW l (pI pg 145) P kc ks 133 _ _ SHF _
        refine AW.icmp_ne (dq rfl) (tgt := 139) (by decide) (fun h22 => ?_) (fun h22 => ?_)
        · have _ := h22
          refine AW.iinc (dq rfl) rfl (by decide +kernel) ?_
          show AW l (pI pg 145) P kc ks 142 [(9, .int ((nI o) + Int32.ofInt 1)), (10, .int (Int32.ofInt 1)), (8, .int (k)), (7, .int (nI a)), (6, .int (v)), (5, .int (g)), (1, .ref 17), (0, .ref 45)] [] SHF _
          refine AW.goto (dq rfl) (tgt := 43) (by decide) ?_
          refine AW.drop (lv' := [(9, .int ((nI o) + Int32.ofInt 1)), (8, .int (k)), (7, .int (nI a)), (6, .int (v)), (5, .int (g)), (1, .ref 17), (0, .ref 45)]) (List.forall_mem_cons.mpr ⟨List.mem_of_getElem? (i := 0) rfl, List.forall_mem_cons.mpr ⟨List.mem_of_getElem? (i := 2) rfl, List.forall_mem_cons.mpr ⟨List.mem_of_getElem? (i := 3) rfl, List.forall_mem_cons.mpr ⟨List.mem_of_getElem? (i := 4) rfl, List.forall_mem_cons.mpr ⟨List.mem_of_getElem? (i := 5) rfl, List.forall_mem_cons.mpr ⟨List.mem_of_getElem? (i := 6) rfl, List.forall_mem_cons.mpr ⟨List.mem_of_getElem? (i := 7) rfl, fun _ h => absurd h List.not_mem_nil⟩⟩⟩⟩⟩⟩⟩) ?_
          exact k23 h1 h6 h18 h22
        · have _ := h22
          refine AW.iconst (dq rfl) ?_
          show AW l (pI pg 145) P kc ks 137 _ _ SHF _
          refine AW.istore (dq rfl) (by decide +kernel) ?_
          show AW l (pI pg 145) P kc ks 139 [(8, .int (Int32.ofInt 0)), (10, .int (Int32.ofInt 1)), (9, .int (nI o)), (7, .int (nI a)), (6, .int (v)), (5, .int (g)), (1, .ref 17), (0, .ref 45)] [] SHF _
          refine AW.iinc (dq rfl) rfl (by decide +kernel) ?_
          show AW l (pI pg 145) P kc ks 142 [(9, .int ((nI o) + Int32.ofInt 1)), (8, .int (Int32.ofInt 0)), (10, .int (Int32.ofInt 1)), (7, .int (nI a)), (6, .int (v)), (5, .int (g)), (1, .ref 17), (0, .ref 45)] [] SHF _
          refine AW.goto (dq rfl) (tgt := 43) (by decide) ?_
          refine AW.drop (lv' := [(9, .int ((nI o) + Int32.ofInt 1)), (8, .int (Int32.ofInt 0)), (7, .int (nI a)), (6, .int (v)), (5, .int (g)), (1, .ref 17), (0, .ref 45)]) (List.forall_mem_cons.mpr ⟨List.mem_of_getElem? (i := 0) rfl, List.forall_mem_cons.mpr ⟨List.mem_of_getElem? (i := 1) rfl, List.forall_mem_cons.mpr ⟨List.mem_of_getElem? (i := 3) rfl, List.forall_mem_cons.mpr ⟨List.mem_of_getElem? (i := 4) rfl, List.forall_mem_cons.mpr ⟨List.mem_of_getElem? (i := 5) rfl, List.forall_mem_cons.mpr ⟨List.mem_of_getElem? (i := 6) rfl, List.forall_mem_cons.mpr ⟨List.mem_of_getElem? (i := 7) rfl, fun _ h => absurd h List.not_mem_nil⟩⟩⟩⟩⟩⟩⟩) ?_
          exact k24 h1 h6 h18 h22

theorem lokb_0 {l : aL} {P : aP} {kc ks : Nat} {x : Int32} {M : aM} (hJ : ∀ e ∈ RRS.2, M.2.2 e.1 e.2.1 = e.2.2) (hl0 : l.1.stackTraces = false) (Q1 : Int32 → aM → Prop) (c2 : AC l (pI pg 18) (fcI M Q1) 0 0 [.ref 17] SHF M) (Q4 : Int32 → aM → Int32 → aM → Prop) (c5 : ∀ (y1 : Int32), ∀ (M1 : aM), ∀ (e1 : M1.2.2 = M.2.2), ∀ (q1 : Q1 y1 M1), ∀ (h3 : ((x) &&& ((y1) ^^^ (Int32.ofInt (-1))) : Int32) = 0), AC l (pI pg 145) (fcI M1 (Q4 y1 M1)) 0 0 [.ref 45, .ref 17, .ref 30, .ref 36, .int (x)] SHF M1) (r6 : ∀ (y1 : Int32), ∀ (M1 : aM), ∀ (e1 : M1.2.2 = M.2.2), ∀ (q1 : Q1 y1 M1), ∀ (h3 : ((x) &&& ((y1) ^^^ (Int32.ofInt (-1))) : Int32) = 0), ∀ (y4 : Int32), ∀ (M4 : aM), ∀ (e4 : M4.2.2 = M1.2.2), ∀ (q4 : (Q4 y1 M1) y4 M4), P (.inl (some (.int (y4)))) SHF M4) (x7 : ∀ (y1 : Int32), ∀ (M1 : aM), ∀ (e1 : M1.2.2 = M.2.2), ∀ (q1 : Q1 y1 M1), ∀ (h3 : ¬ (((x) &&& ((y1) ^^^ (Int32.ofInt (-1))) : Int32) = 0)), P (.inr "java/lang/IllegalArgumentException") SHF M1) : AW l (pI pg 144) P (kc + 1) (ks + 6) 0 [(0, .ref 0), (1, .int (x))] [] SHF M := by
  refine AW.iload_n (dq rfl) rfl ?_
  show AW l (pI pg 144) P (kc + 1) (ks + 6) 1 _ _ SHF _
  refine AW.aload_n (dq rfl) rfl rfl ?_
  show AW l (pI pg 144) P (kc + 1) (ks + 6) 2 _ _ SHF _
  refine fw_get (dq rfl) (pg_ok.2.1 144 _ _ _ _ rfl) rfl (v := .ref 17) (isTA_ok rfl (rgR_ok hJ rfl)) ?_
  show AW l (pI pg 144) P (kc + 1) (ks + 6) 5 _ _ SHF _
  refine fw_callVI (as := []) (dq rfl) (pg_ok.2.2.1 144 _ _ _ _ rfl) rfl (by decide +kernel) rfl rfl (c2) (fun y1 M1 e1 q1 => ?_)
  have hJ1 : ∀ e ∈ RRS.2, M1.2.2 e.1 e.2.1 = e.2.2 := fun e he => by rw [e1]; exact hJ e he
  show AW l (pI pg 144) P (kc + 1) (ks + 6) 8 [(0, .ref 0), (1, .int (x))] [.int (y1), .int (x)] SHF _
  refine AW.iconst (dq rfl) ?_
  show AW l (pI pg 144) P (kc + 1) (ks + 6) 9 _ _ SHF _
  refine AW.ixor (dq rfl) ?_
  show AW l (pI pg 144) P (kc + 1) (ks + 6) 10 _ _ SHF _
  refine AW.iand (dq rfl) ?_
  show AW l (pI pg 144) P (kc + 1) (ks + 6) 11 _ _ SHF _
  refine AW.if_eq (dq rfl) (tgt := 25) (by decide) (fun h3 => ?_) (fun h3 => ?_)
  · have _ := h3
    refine AW.aload_n (dq rfl) rfl rfl ?_
    show AW l (pI pg 144) P (kc + 1) (ks + 6) 26 _ _ SHF _
    refine fw_get (dq rfl) (pg_ok.2.1 144 _ _ _ _ rfl) rfl (v := .ref 45) (isTA_ok rfl (rgR_ok hJ1 rfl)) ?_
    show AW l (pI pg 144) P (kc + 1) (ks + 6) 29 _ _ SHF _
    refine AW.aload_n (dq rfl) rfl rfl ?_
    show AW l (pI pg 144) P (kc + 1) (ks + 6) 30 _ _ SHF _
    refine fw_get (dq rfl) (pg_ok.2.1 144 _ _ _ _ rfl) rfl (v := .ref 17) (isTA_ok rfl (rgR_ok hJ1 rfl)) ?_
    show AW l (pI pg 144) P (kc + 1) (ks + 6) 33 _ _ SHF _
    refine AW.aload_n (dq rfl) rfl rfl ?_
    show AW l (pI pg 144) P (kc + 1) (ks + 6) 34 _ _ SHF _
    refine fw_get (dq rfl) (pg_ok.2.1 144 _ _ _ _ rfl) rfl (v := .ref 30) (isTA_ok rfl (rgR_ok hJ1 rfl)) ?_
    show AW l (pI pg 144) P (kc + 1) (ks + 6) 37 _ _ SHF _
    refine AW.aload_n (dq rfl) rfl rfl ?_
    show AW l (pI pg 144) P (kc + 1) (ks + 6) 38 _ _ SHF _
    refine fw_get (dq rfl) (pg_ok.2.1 144 _ _ _ _ rfl) rfl (v := .ref 36) (isTA_ok rfl (rgR_ok hJ1 rfl)) ?_
    show AW l (pI pg 144) P (kc + 1) (ks + 6) 41 _ _ SHF _
    refine AW.iload_n (dq rfl) rfl ?_
    show AW l (pI pg 144) P (kc + 1) (ks + 6) 42 _ _ SHF _
    refine fw_callVI (as := [.ref 17, .ref 30, .ref 36, .int (x)]) (dq rfl) (pg_ok.2.2.1 144 _ _ _ _ rfl) rfl (by decide +kernel) rfl rfl (c5 y1 M1 e1 q1 h3) (fun y4 M4 e4 q4 => ?_)
    have hJ4 : ∀ e ∈ RRS.2, M4.2.2 e.1 e.2.1 = e.2.2 := fun e he => by rw [e4]; exact hJ1 e he
    show AW l (pI pg 144) P (kc + 1) (ks + 6) 45 [(0, .ref 0), (1, .int (x))] [.int (y4)] SHF _
    refine AW.iret (dq rfl) rfl ?_
    exact r6 y1 M1 e1 q1 h3 y4 M4 e4 q4
  · have _ := h3
    refine pg_ok.2.2.2.2.2.2.2.1 144 _ _ rfl _ _ _ _ _ _ _ ?_
    exact x7 y1 M1 e1 q1 h3

theorem besb_0 {l : aL} {P : aP} {kc ks : Nat} {x : Int32} {M : aM} (hJ : ∀ e ∈ RRS.2, M.2.2 e.1 e.2.1 = e.2.2) (hl0 : l.1.stackTraces = false) (x2 : ∀ (h1 : (x : Int32) < 0), P (.inr "java/lang/IllegalArgumentException") SHF M) (k4 : ∀ (h1 : ¬ ((x : Int32) < 0)), ∀ (h3 : (x : Int32) ≤ (M.1 17 1 : Int32)), AW l (pI pg 150) P (kc + 1) (ks + 6) 33 [(4, .int (Int32.ofInt 0)), (3, .int (Int32.ofInt (-1))), (2, .int (Int32.ofInt 0)), (1, .int (x)), (0, .ref 0)] [] SHF M) (x5 : ∀ (h1 : ¬ ((x : Int32) < 0)), ∀ (h3 : ¬ ((x : Int32) ≤ (M.1 17 1 : Int32))), P (.inr "java/lang/IllegalArgumentException") SHF M) : AW l (pI pg 150) P (kc + 1) (ks + 6) 0 [(0, .ref 0), (1, .int (x))] [] SHF M := by
  refine AW.iload_n (dq rfl) rfl ?_
  show AW l (pI pg 150) P (kc + 1) (ks + 6) 1 _ _ SHF _
  refine AW.if_lt (dq rfl) (tgt := 15) (by decide) (fun h1 => ?_) (fun h1 => ?_)
  · have _ := h1
    refine pg_ok.2.2.2.2.2.2.2.1 150 _ _ rfl _ _ _ _ _ _ _ ?_
    exact x2 h1
  · have _ := h1
    refine AW.iload_n (dq rfl) rfl ?_
    show AW l (pI pg 150) P (kc + 1) (ks + 6) 5 _ _ SHF _
    refine AW.aload_n (dq rfl) rfl rfl ?_
    show AW l (pI pg 150) P (kc + 1) (ks + 6) 6 _ _ SHF _
    refine fw_get (dq rfl) (pg_ok.2.1 150 _ _ _ _ rfl) rfl (v := .ref 17) (isTA_ok rfl (rgR_ok hJ rfl)) ?_
    show AW l (pI pg 150) P (kc + 1) (ks + 6) 9 _ _ SHF _
    refine fw_get (dq rfl) (pg_ok.2.1 150 _ _ _ _ rfl) rfl (v := .int (M.1 17 1)) rfl ?_
    show AW l (pI pg 150) P (kc + 1) (ks + 6) 12 _ _ SHF _
    refine AW.icmp_le (dq rfl) (tgt := 26) (by decide) (fun h3 => ?_) (fun h3 => ?_)
    · have _ := h3
      refine AW.iconst (dq rfl) ?_
      show AW l (pI pg 150) P (kc + 1) (ks + 6) 27 _ _ SHF _
      refine AW.istore_n (dq rfl) (by decide +kernel) ?_
      show AW l (pI pg 150) P (kc + 1) (ks + 6) 28 [(2, .int (Int32.ofInt 0)), (0, .ref 0), (1, .int (x))] [] SHF _
      refine AW.iconst (dq rfl) ?_
      show AW l (pI pg 150) P (kc + 1) (ks + 6) 29 _ _ SHF _
      refine AW.istore_n (dq rfl) (by decide +kernel) ?_
      show AW l (pI pg 150) P (kc + 1) (ks + 6) 30 [(3, .int (Int32.ofInt (-1))), (2, .int (Int32.ofInt 0)), (0, .ref 0), (1, .int (x))] [] SHF _
      refine AW.iconst (dq rfl) ?_
      show AW l (pI pg 150) P (kc + 1) (ks + 6) 31 _ _ SHF _
      refine AW.istore (dq rfl) (by decide +kernel) ?_
      show AW l (pI pg 150) P (kc + 1) (ks + 6) 33 [(4, .int (Int32.ofInt 0)), (3, .int (Int32.ofInt (-1))), (2, .int (Int32.ofInt 0)), (0, .ref 0), (1, .int (x))] [] SHF _
      refine AW.drop (lv' := [(4, .int (Int32.ofInt 0)), (3, .int (Int32.ofInt (-1))), (2, .int (Int32.ofInt 0)), (1, .int (x)), (0, .ref 0)]) (List.forall_mem_cons.mpr ⟨List.mem_of_getElem? (i := 0) rfl, List.forall_mem_cons.mpr ⟨List.mem_of_getElem? (i := 1) rfl, List.forall_mem_cons.mpr ⟨List.mem_of_getElem? (i := 2) rfl, List.forall_mem_cons.mpr ⟨List.mem_of_getElem? (i := 4) rfl, List.forall_mem_cons.mpr ⟨List.mem_of_getElem? (i := 3) rfl, fun _ h => absurd h List.not_mem_nil⟩⟩⟩⟩⟩) ?_
      exact k4 h1 h3
    · have _ := h3
      refine pg_ok.2.2.2.2.2.2.2.1 150 _ _ rfl _ _ _ _ _ _ _ ?_
      exact x5 h1 h3

theorem besb_33 {l : aL} {P : aP} {kc ks : Nat} {s : Nat} {v g x : Int32} {M : aM} (hJ : ∀ e ∈ RRS.2, M.2.2 e.1 e.2.1 = e.2.2) (hl0 : l.1.stackTraces = false) (Q1 : Int32 → aM → Prop) (c2 : AC l (pI pg 18) (fcI M Q1) 0 0 [.ref 17] SHF M) (r4 : ∀ (y1 : Int32), ∀ (M1 : aM), ∀ (e1 : M1.2.2 = M.2.2), ∀ (q1 : Q1 y1 M1), ∀ (h3 : (y1 : Int32) < (nI s : Int32)), P (.inl (some (.int (g)))) SHF M1) (Q5 : Int32 → aM → Int32 → aM → Prop) (c6 : ∀ (y1 : Int32), ∀ (M1 : aM), ∀ (e1 : M1.2.2 = M.2.2), ∀ (q1 : Q1 y1 M1), ∀ (h3 : ¬ ((y1 : Int32) < (nI s : Int32))), AC l (pI pg 21) (fcI M1 (Q5 y1 M1)) 0 0 [.int (nI s)] SHF M1) (k8 : ∀ (y1 : Int32), ∀ (M1 : aM), ∀ (e1 : M1.2.2 = M.2.2), ∀ (q1 : Q1 y1 M1), ∀ (h3 : ¬ ((y1 : Int32) < (nI s : Int32))), ∀ (y5 : Int32), ∀ (M5 : aM), ∀ (e5 : M5.2.2 = M1.2.2), ∀ (q5 : (Q5 y1 M1) y5 M5), ∀ (h7 : ¬ (y5 : Int32) = (x : Int32)), AW l (pI pg 150) P kc ks 33 [(4, .int ((nI s) + Int32.ofInt 1)), (3, .int (v)), (2, .int (g)), (1, .int (x)), (0, .ref 0)] [] SHF M5) (Q9 : Int32 → aM → Int32 → aM → Int32 → aM → Prop) (c10 : ∀ (y1 : Int32), ∀ (M1 : aM), ∀ (e1 : M1.2.2 = M.2.2), ∀ (q1 : Q1 y1 M1), ∀ (h3 : ¬ ((y1 : Int32) < (nI s : Int32))), ∀ (y5 : Int32), ∀ (M5 : aM), ∀ (e5 : M5.2.2 = M1.2.2), ∀ (q5 : (Q5 y1 M1) y5 M5), ∀ (h7 : (y5 : Int32) = (x : Int32)), AC l (pI pg 145) (fcI M5 (Q9 y1 M1 y5 M5)) 0 0 [.ref 45, .ref 17, .ref 30, .ref 36, .int (nI s)] SHF M5) (k12 : ∀ (y1 : Int32), ∀ (M1 : aM), ∀ (e1 : M1.2.2 = M.2.2), ∀ (q1 : Q1 y1 M1), ∀ (h3 : ¬ ((y1 : Int32) < (nI s : Int32))), ∀ (y5 : Int32), ∀ (M5 : aM), ∀ (e5 : M5.2.2 = M1.2.2), ∀ (q5 : (Q5 y1 M1) y5 M5), ∀ (h7 : (y5 : Int32) = (x : Int32)), ∀ (y9 : Int32), ∀ (M9 : aM), ∀ (e9 : M9.2.2 = M5.2.2), ∀ (q9 : (Q9 y1 M1 y5 M5) y9 M9), ∀ (h11 : (y9 : Int32) ≤ (v : Int32)), AW l (pI pg 150) P kc ks 33 [(4, .int ((nI s) + Int32.ofInt 1)), (3, .int (v)), (2, .int (g)), (1, .int (x)), (0, .ref 0)] [] SHF M9) (k13 : ∀ (y1 : Int32), ∀ (M1 : aM), ∀ (e1 : M1.2.2 = M.2.2), ∀ (q1 : Q1 y1 M1), ∀ (h3 : ¬ ((y1 : Int32) < (nI s : Int32))), ∀ (y5 : Int32), ∀ (M5 : aM), ∀ (e5 : M5.2.2 = M1.2.2), ∀ (q5 : (Q5 y1 M1) y5 M5), ∀ (h7 : (y5 : Int32) = (x : Int32)), ∀ (y9 : Int32), ∀ (M9 : aM), ∀ (e9 : M9.2.2 = M5.2.2), ∀ (q9 : (Q9 y1 M1 y5 M5) y9 M9), ∀ (h11 : ¬ ((y9 : Int32) ≤ (v : Int32))), AW l (pI pg 150) P kc ks 33 [(4, .int ((nI s) + Int32.ofInt 1)), (3, .int (y9)), (2, .int (nI s)), (1, .int (x)), (0, .ref 0)] [] SHF M9) : AW l (pI pg 150) P kc ks 33 [(4, .int (nI s)), (3, .int (v)), (2, .int (g)), (1, .int (x)), (0, .ref 0)] [] SHF M := by
  refine AW.iload (dq rfl) rfl ?_
  show AW l (pI pg 150) P kc ks 35 _ _ SHF _
  refine AW.aload_n (dq rfl) rfl rfl ?_
  show AW l (pI pg 150) P kc ks 36 _ _ SHF _
  refine fw_get (dq rfl) (pg_ok.2.1 150 _ _ _ _ rfl) rfl (v := .ref 17) (isTA_ok rfl (rgR_ok hJ rfl)) ?_
  show AW l (pI pg 150) P kc ks 39 _ _ SHF _
  refine fw_callVI (as := []) (dq rfl) (pg_ok.2.2.1 150 _ _ _ _ rfl) rfl (by decide +kernel) rfl rfl (c2) (fun y1 M1 e1 q1 => ?_)
  have hJ1 : ∀ e ∈ RRS.2, M1.2.2 e.1 e.2.1 = e.2.2 := fun e he => by rw [e1]; exact hJ e he
  show AW l (pI pg 150) P kc ks 42 [(4, .int (nI s)), (3, .int (v)), (2, .int (g)), (1, .int (x)), (0, .ref 0)] [.int (y1), .int (nI s)] SHF _
  refine AW.icmp_gt (dq rfl) (tgt := 95) (by decide) (fun h3 => ?_) (fun h3 => ?_)
  · have _ := h3
    refine AW.iload_n (dq rfl) rfl ?_
    show AW l (pI pg 150) P kc ks 96 _ _ SHF _
    refine AW.iret (dq rfl) rfl ?_
    exact r4 y1 M1 e1 q1 h3
  · have _ := h3
    refine AW.iload (dq rfl) rfl ?_
    show AW l (pI pg 150) P kc ks 47 _ _ SHF _
    refine fw_callSI (as := [.int (nI s)]) (dq rfl) (pg_ok.2.2.1 150 _ _ _ _ rfl) (by decide +kernel) rfl rfl (c6 y1 M1 e1 q1 h3) (fun y5 M5 e5 q5 => ?_)
    have hJ5 : ∀ e ∈ RRS.2, M5.2.2 e.1 e.2.1 = e.2.2 := fun e he => by rw [e5]; exact hJ1 e he
    show AW l (pI pg 150) P kc ks 50 [(4, .int (nI s)), (3, .int (v)), (2, .int (g)), (1, .int (x)), (0, .ref 0)] [.int (y5)] SHF _
    refine AW.iload_n (dq rfl) rfl ?_
    show AW l (pI pg 150) P kc ks 51 _ _ SHF _
    refine AW.icmp_ne (dq rfl) (tgt := 89) (by decide) (fun h7 => ?_) (fun h7 => ?_)
    · have _ := h7
      refine AW.iinc (dq rfl) rfl (by decide +kernel) ?_
      show AW l (pI pg 150) P kc ks 92 [(4, .int ((nI s) + Int32.ofInt 1)), (3, .int (v)), (2, .int (g)), (1, .int (x)), (0, .ref 0)] [] SHF _
      refine AW.goto (dq rfl) (tgt := 33) (by decide) ?_
      refine AW.drop (lv' := [(4, .int ((nI s) + Int32.ofInt 1)), (3, .int (v)), (2, .int (g)), (1, .int (x)), (0, .ref 0)]) (List.forall_mem_cons.mpr ⟨List.mem_of_getElem? (i := 0) rfl, List.forall_mem_cons.mpr ⟨List.mem_of_getElem? (i := 1) rfl, List.forall_mem_cons.mpr ⟨List.mem_of_getElem? (i := 2) rfl, List.forall_mem_cons.mpr ⟨List.mem_of_getElem? (i := 3) rfl, List.forall_mem_cons.mpr ⟨List.mem_of_getElem? (i := 4) rfl, fun _ h => absurd h List.not_mem_nil⟩⟩⟩⟩⟩) ?_
      exact k8 y1 M1 e1 q1 h3 y5 M5 e5 q5 h7
    · have _ := h7
      refine AW.aload_n (dq rfl) rfl rfl ?_
      show AW l (pI pg 150) P kc ks 55 _ _ SHF _
      refine fw_get (dq rfl) (pg_ok.2.1 150 _ _ _ _ rfl) rfl (v := .ref 45) (isTA_ok rfl (rgR_ok hJ5 rfl)) ?_
      show AW l (pI pg 150) P kc ks 58 _ _ SHF _
      refine AW.aload_n (dq rfl) rfl rfl ?_
      show AW l (pI pg 150) P kc ks 59 _ _ SHF _
      refine fw_get (dq rfl) (pg_ok.2.1 150 _ _ _ _ rfl) rfl (v := .ref 17) (isTA_ok rfl (rgR_ok hJ5 rfl)) ?_
      show AW l (pI pg 150) P kc ks 62 _ _ SHF _
      refine AW.aload_n (dq rfl) rfl rfl ?_
      show AW l (pI pg 150) P kc ks 63 _ _ SHF _
      refine fw_get (dq rfl) (pg_ok.2.1 150 _ _ _ _ rfl) rfl (v := .ref 30) (isTA_ok rfl (rgR_ok hJ5 rfl)) ?_
      show AW l (pI pg 150) P kc ks 66 _ _ SHF _
      refine AW.aload_n (dq rfl) rfl rfl ?_
      show AW l (pI pg 150) P kc ks 67 _ _ SHF _
      refine fw_get (dq rfl) (pg_ok.2.1 150 _ _ _ _ rfl) rfl (v := .ref 36) (isTA_ok rfl (rgR_ok hJ5 rfl)) ?_
      show AW l (pI pg 150) P kc ks 70 _ _ SHF _
      refine AW.iload (dq rfl) rfl ?_
      show AW l (pI pg 150) P kc ks 72 _ _ SHF _
      refine fw_callVI (as := [.ref 17, .ref 30, .ref 36, .int (nI s)]) (dq rfl) (pg_ok.2.2.1 150 _ _ _ _ rfl) rfl (by decide +kernel) rfl rfl (c10 y1 M1 e1 q1 h3 y5 M5 e5 q5 h7) (fun y9 M9 e9 q9 => ?_)
      have hJ9 : ∀ e ∈ RRS.2, M9.2.2 e.1 e.2.1 = e.2.2 := fun e he => by rw [e9]; exact hJ5 e he
      show AW l (pI pg 150) P kc ks 75 [(4, .int (nI s)), (3, .int (v)), (2, .int (g)), (1, .int (x)), (0, .ref 0)] [.int (y9)] SHF _
      refine AW.istore (dq rfl) (by decide +kernel) ?_
      show AW l (pI pg 150) P kc ks 77 [(5, .int (y9)), (4, .int (nI s)), (3, .int (v)), (2, .int (g)), (1, .int (x)), (0, .ref 0)] [] SHF _
      refine AW.iload (dq rfl) rfl ?_
      show AW l (pI pg 150) P kc ks 79 _ _ SHF _
      refine AW.iload_n (dq rfl) rfl ?_
      show AW l (pI pg 150) P kc ks 80 _ _ SHF _
      refine AW.icmp_le (dq rfl) (tgt := 89) (by decide) (fun h11 => ?_) (fun h11 => ?_)
      · have _ := h11
        refine AW.iinc (dq rfl) rfl (by decide +kernel) ?_
        show AW l (pI pg 150) P kc ks 92 [(4, .int ((nI s) + Int32.ofInt 1)), (5, .int (y9)), (3, .int (v)), (2, .int (g)), (1, .int (x)), (0, .ref 0)] [] SHF _
        refine AW.goto (dq rfl) (tgt := 33) (by decide) ?_
        refine AW.drop (lv' := [(4, .int ((nI s) + Int32.ofInt 1)), (3, .int (v)), (2, .int (g)), (1, .int (x)), (0, .ref 0)]) (List.forall_mem_cons.mpr ⟨List.mem_of_getElem? (i := 0) rfl, List.forall_mem_cons.mpr ⟨List.mem_of_getElem? (i := 2) rfl, List.forall_mem_cons.mpr ⟨List.mem_of_getElem? (i := 3) rfl, List.forall_mem_cons.mpr ⟨List.mem_of_getElem? (i := 4) rfl, List.forall_mem_cons.mpr ⟨List.mem_of_getElem? (i := 5) rfl, fun _ h => absurd h List.not_mem_nil⟩⟩⟩⟩⟩) ?_
        exact k12 y1 M1 e1 q1 h3 y5 M5 e5 q5 h7 y9 M9 e9 q9 h11
      · have _ := h11
        refine AW.iload (dq rfl) rfl ?_
        show AW l (pI pg 150) P kc ks 85 _ _ SHF _
        refine AW.istore_n (dq rfl) (by decide +kernel) ?_
        show AW l (pI pg 150) P kc ks 86 [(2, .int (nI s)), (5, .int (y9)), (4, .int (nI s)), (3, .int (v)), (1, .int (x)), (0, .ref 0)] [] SHF _
        refine AW.iload (dq rfl) rfl ?_
        show AW l (pI pg 150) P kc ks 88 _ _ SHF _
        refine AW.istore_n (dq rfl) (by decide +kernel) ?_
        show AW l (pI pg 150) P kc ks 89 [(3, .int (y9)), (2, .int (nI s)), (5, .int (y9)), (4, .int (nI s)), (1, .int (x)), (0, .ref 0)] [] SHF _
        refine AW.iinc (dq rfl) rfl (by decide +kernel) ?_
        show AW l (pI pg 150) P kc ks 92 [(4, .int ((nI s) + Int32.ofInt 1)), (3, .int (y9)), (2, .int (nI s)), (5, .int (y9)), (1, .int (x)), (0, .ref 0)] [] SHF _
        refine AW.goto (dq rfl) (tgt := 33) (by decide) ?_
        refine AW.drop (lv' := [(4, .int ((nI s) + Int32.ofInt 1)), (3, .int (y9)), (2, .int (nI s)), (1, .int (x)), (0, .ref 0)]) (List.forall_mem_cons.mpr ⟨List.mem_of_getElem? (i := 0) rfl, List.forall_mem_cons.mpr ⟨List.mem_of_getElem? (i := 1) rfl, List.forall_mem_cons.mpr ⟨List.mem_of_getElem? (i := 2) rfl, List.forall_mem_cons.mpr ⟨List.mem_of_getElem? (i := 4) rfl, List.forall_mem_cons.mpr ⟨List.mem_of_getElem? (i := 5) rfl, fun _ h => absurd h List.not_mem_nil⟩⟩⟩⟩⟩) ?_
        exact k13 y1 M1 e1 q1 h3 y5 M5 e5 q5 h7 y9 M9 e9 q9 h11

theorem sht_0 {l : aL} {P : aP} {kc ks : Nat} {M : aM} (hJ : ∀ e ∈ RM, M.2.2 e.1 e.2.1 = e.2.2) (hl0 : l.1.stackTraces = false) (Q1 : aM → Prop) (c2 : AC l (pI pg 204) (fcV M Q1) 0 0 [.ref 58, .int (Int32.ofInt 0)] SHF M) (k3 : ∀ (M1 : aM), ∀ (e1 : M1.2.2 = M.2.2), ∀ (q1 : Q1 M1), AW l (pI pg 231) P kc ks 7 [(1, .int (Int32.ofInt 0)), (0, .ref 58)] [] SHF M1) : AW l (pI pg 231) P kc ks 0 [(0, .ref 58)] [] SHF M := by
  refine AW.aload_n (dq rfl) rfl rfl ?_
  show AW l (pI pg 231) P kc ks 1 _ _ SHF _
  refine AW.iconst (dq rfl) ?_
  show AW l (pI pg 231) P kc ks 2 _ _ SHF _
  refine fw_callVV (as := [.int (Int32.ofInt 0)]) (dq rfl) (pg_ok.2.2.1 231 _ _ _ _ rfl) rfl (by decide +kernel) rfl rfl (c2) (fun M1 e1 q1 => ?_)
  have hJ1 : ∀ e ∈ RM, M1.2.2 e.1 e.2.1 = e.2.2 := fun e he => by rw [e1]; exact hJ e he
  show AW l (pI pg 231) P kc ks 5 [(0, .ref 58)] [] SHF _
  refine AW.iconst (dq rfl) ?_
  show AW l (pI pg 231) P kc ks 6 _ _ SHF _
  refine AW.istore_n (dq rfl) (by decide +kernel) ?_
  show AW l (pI pg 231) P kc ks 7 [(1, .int (Int32.ofInt 0)), (0, .ref 58)] [] SHF _
  refine AW.drop (lv' := [(1, .int (Int32.ofInt 0)), (0, .ref 58)]) (List.forall_mem_cons.mpr ⟨List.mem_of_getElem? (i := 0) rfl, List.forall_mem_cons.mpr ⟨List.mem_of_getElem? (i := 1) rfl, fun _ h => absurd h List.not_mem_nil⟩⟩) ?_
  exact k3 M1 e1 q1

theorem sht_7 {l : aL} {P : aP} {kc ks : Nat} {a : Nat} {M : aM} (hJ : ∀ e ∈ RM, M.2.2 e.1 e.2.1 = e.2.2) (hl0 : l.1.stackTraces = false) (r2 : ∀ (h1 : (M.1 58 1 : Int32) < (nI a : Int32)), P (.inl none) SHF M) (Q4 : Int32 → aM → Prop) (c5 : ∀ (h1 : ¬ ((M.1 58 1 : Int32) < (nI a : Int32))), ∀ (h3 : (M.1 58 1 : Int32) ≤ (nI a : Int32)), AC l (pI pg 208) (fcI M Q4) 0 0 [.ref 58, .int ((((Int32.ofInt 1) <<< ((M.1 58 1) &&& 31)) - (Int32.ofInt 1)) &&& ((Int32.ofInt 0) ^^^ (Int32.ofInt (-1))))] SHF M) (k6 : ∀ (h1 : ¬ ((M.1 58 1 : Int32) < (nI a : Int32))), ∀ (h3 : (M.1 58 1 : Int32) ≤ (nI a : Int32)), ∀ (y4 : Int32), ∀ (M4 : aM), ∀ (e4 : M4.2.2 = M.2.2), ∀ (q4 : Q4 y4 M4), AW l (pI pg 231) P kc ks 48 [(3, .int (Int32.ofInt 0)), (2, .int (y4)), (1, .int (nI a)), (0, .ref 58)] [] SHF M4) (Q7 : Int32 → aM → Prop) (c8 : ∀ (h1 : ¬ ((M.1 58 1 : Int32) < (nI a : Int32))), ∀ (h3 : ¬ ((M.1 58 1 : Int32) ≤ (nI a : Int32))), AC l (pI pg 208) (fcI M Q7) 0 0 [.ref 58, .int ((((Int32.ofInt 1) <<< ((M.1 58 1) &&& 31)) - (Int32.ofInt 1)) &&& (((Int32.ofInt 1) <<< ((nI a) &&& 31)) ^^^ (Int32.ofInt (-1))))] SHF M) (k9 : ∀ (h1 : ¬ ((M.1 58 1 : Int32) < (nI a : Int32))), ∀ (h3 : ¬ ((M.1 58 1 : Int32) ≤ (nI a : Int32))), ∀ (y7 : Int32), ∀ (M7 : aM), ∀ (e7 : M7.2.2 = M.2.2), ∀ (q7 : Q7 y7 M7), AW l (pI pg 231) P kc ks 48 [(3, .int (Int32.ofInt 0)), (2, .int (y7)), (1, .int (nI a)), (0, .ref 58)] [] SHF M7) : AW l (pI pg 231) P kc ks 7 [(1, .int (nI a)), (0, .ref 58)] [] SHF M := by
  refine AW.iload_n (dq rfl) rfl ?_
  show AW l (pI pg 231) P kc ks 8 _ _ SHF _
  refine AW.aload_n (dq rfl) rfl rfl ?_
  show AW l (pI pg 231) P kc ks 9 _ _ SHF _
  refine fw_get (dq rfl) (pg_ok.2.1 231 _ _ _ _ rfl) rfl (v := .int (M.1 58 1)) rfl ?_
  show AW l (pI pg 231) P kc ks 12 _ _ SHF _
  refine AW.icmp_gt (dq rfl) (tgt := 103) (by decide) (fun h1 => ?_) (fun h1 => ?_)
  · have _ := h1
    refine AW.vret (dq rfl) rfl ?_
    exact r2 h1
  · have _ := h1
    refine AW.aload_n (dq rfl) rfl rfl ?_
    show AW l (pI pg 231) P kc ks 16 _ _ SHF _
    refine AW.iconst (dq rfl) ?_
    show AW l (pI pg 231) P kc ks 17 _ _ SHF _
    refine AW.aload_n (dq rfl) rfl rfl ?_
    show AW l (pI pg 231) P kc ks 18 _ _ SHF _
    refine fw_get (dq rfl) (pg_ok.2.1 231 _ _ _ _ rfl) rfl (v := .int (M.1 58 1)) rfl ?_
    show AW l (pI pg 231) P kc ks 21 _ _ SHF _
    refine AW.ishl (dq rfl) ?_
    show AW l (pI pg 231) P kc ks 22 _ _ SHF _
    refine AW.iconst (dq rfl) ?_
    show AW l (pI pg 231) P kc ks 23 _ _ SHF _
    refine AW.isub (dq rfl) ?_
    show AW l (pI pg 231) P kc ks 24 _ _ SHF _
    refine AW.iload_n (dq rfl) rfl ?_
    show AW l (pI pg 231) P kc ks 25 _ _ SHF _
    refine AW.aload_n (dq rfl) rfl rfl ?_
    show AW l (pI pg 231) P kc ks 26 _ _ SHF _
    refine fw_get (dq rfl) (pg_ok.2.1 231 _ _ _ _ rfl) rfl (v := .int (M.1 58 1)) rfl ?_
    show AW l (pI pg 231) P kc ks 29 _ _ SHF _
    refine AW.icmp_ge (dq rfl) (tgt := 38) (by decide) (fun h3 => ?_) (fun h3 => ?_)
    · have _ := h3
      refine AW.iconst (dq rfl) ?_
      show AW l (pI pg 231) P kc ks 39 _ _ SHF _
      refine AW.iconst (dq rfl) ?_
      show AW l (pI pg 231) P kc ks 40 _ _ SHF _
      refine AW.ixor (dq rfl) ?_
      show AW l (pI pg 231) P kc ks 41 _ _ SHF _
      refine AW.iand (dq rfl) ?_
      show AW l (pI pg 231) P kc ks 42 _ _ SHF _
      refine fw_callVI (as := [.int ((((Int32.ofInt 1) <<< ((M.1 58 1) &&& 31)) - (Int32.ofInt 1)) &&& ((Int32.ofInt 0) ^^^ (Int32.ofInt (-1))))]) (dq rfl) (pg_ok.2.2.1 231 _ _ _ _ rfl) rfl (by decide +kernel) rfl rfl (c5 h1 h3) (fun y4 M4 e4 q4 => ?_)
      have hJ4 : ∀ e ∈ RM, M4.2.2 e.1 e.2.1 = e.2.2 := fun e he => by rw [e4]; exact hJ e he
      show AW l (pI pg 231) P kc ks 45 [(1, .int (nI a)), (0, .ref 58)] [.int (y4)] SHF _
      refine AW.istore_n (dq rfl) (by decide +kernel) ?_
      show AW l (pI pg 231) P kc ks 46 [(2, .int (y4)), (1, .int (nI a)), (0, .ref 58)] [] SHF _
      refine AW.iconst (dq rfl) ?_
      show AW l (pI pg 231) P kc ks 47 _ _ SHF _
      refine AW.istore_n (dq rfl) (by decide +kernel) ?_
      show AW l (pI pg 231) P kc ks 48 [(3, .int (Int32.ofInt 0)), (2, .int (y4)), (1, .int (nI a)), (0, .ref 58)] [] SHF _
      refine AW.drop (lv' := [(3, .int (Int32.ofInt 0)), (2, .int (y4)), (1, .int (nI a)), (0, .ref 58)]) (List.forall_mem_cons.mpr ⟨List.mem_of_getElem? (i := 0) rfl, List.forall_mem_cons.mpr ⟨List.mem_of_getElem? (i := 1) rfl, List.forall_mem_cons.mpr ⟨List.mem_of_getElem? (i := 2) rfl, List.forall_mem_cons.mpr ⟨List.mem_of_getElem? (i := 3) rfl, fun _ h => absurd h List.not_mem_nil⟩⟩⟩⟩) ?_
      exact k6 h1 h3 y4 M4 e4 q4
    · have _ := h3
      refine AW.iconst (dq rfl) ?_
      show AW l (pI pg 231) P kc ks 33 _ _ SHF _
      refine AW.iload_n (dq rfl) rfl ?_
      show AW l (pI pg 231) P kc ks 34 _ _ SHF _
      refine AW.ishl (dq rfl) ?_
      show AW l (pI pg 231) P kc ks 35 _ _ SHF _
      refine AW.goto (dq rfl) (tgt := 39) (by decide) ?_
      refine AW.iconst (dq rfl) ?_
      show AW l (pI pg 231) P kc ks 40 _ _ SHF _
      refine AW.ixor (dq rfl) ?_
      show AW l (pI pg 231) P kc ks 41 _ _ SHF _
      refine AW.iand (dq rfl) ?_
      show AW l (pI pg 231) P kc ks 42 _ _ SHF _
      refine fw_callVI (as := [.int ((((Int32.ofInt 1) <<< ((M.1 58 1) &&& 31)) - (Int32.ofInt 1)) &&& (((Int32.ofInt 1) <<< ((nI a) &&& 31)) ^^^ (Int32.ofInt (-1))))]) (dq rfl) (pg_ok.2.2.1 231 _ _ _ _ rfl) rfl (by decide +kernel) rfl rfl (c8 h1 h3) (fun y7 M7 e7 q7 => ?_)
      have hJ7 : ∀ e ∈ RM, M7.2.2 e.1 e.2.1 = e.2.2 := fun e he => by rw [e7]; exact hJ e he
      show AW l (pI pg 231) P kc ks 45 [(1, .int (nI a)), (0, .ref 58)] [.int (y7)] SHF _
      refine AW.istore_n (dq rfl) (by decide +kernel) ?_
      show AW l (pI pg 231) P kc ks 46 [(2, .int (y7)), (1, .int (nI a)), (0, .ref 58)] [] SHF _
      refine AW.iconst (dq rfl) ?_
      show AW l (pI pg 231) P kc ks 47 _ _ SHF _
      refine AW.istore_n (dq rfl) (by decide +kernel) ?_
      show AW l (pI pg 231) P kc ks 48 [(3, .int (Int32.ofInt 0)), (2, .int (y7)), (1, .int (nI a)), (0, .ref 58)] [] SHF _
      refine AW.drop (lv' := [(3, .int (Int32.ofInt 0)), (2, .int (y7)), (1, .int (nI a)), (0, .ref 58)]) (List.forall_mem_cons.mpr ⟨List.mem_of_getElem? (i := 0) rfl, List.forall_mem_cons.mpr ⟨List.mem_of_getElem? (i := 1) rfl, List.forall_mem_cons.mpr ⟨List.mem_of_getElem? (i := 2) rfl, List.forall_mem_cons.mpr ⟨List.mem_of_getElem? (i := 3) rfl, fun _ h => absurd h List.not_mem_nil⟩⟩⟩⟩) ?_
      exact k9 h1 h3 y7 M7 e7 q7

theorem sht_48 {l : aL} {P : aP} {kc ks : Nat} {a w : Nat} {g : Int32} {M : aM} (hJ : ∀ e ∈ RM, M.2.2 e.1 e.2.1 = e.2.2) (hl0 : l.1.stackTraces = false) (k2 : ∀ (h1 : (M.1 58 2 : Int32) ≤ (nI w : Int32)), AW l (pI pg 231) P kc ks 7 [(1, .int ((nI a) + Int32.ofInt 1)), (0, .ref 58)] [] SHF M) (o4 : ∀ (h1 : ¬ ((M.1 58 2 : Int32) ≤ (nI w : Int32))), ∀ (h3 : (g : Int32) = 0), vp_in ((((Int8.ofInt 8).toInt32) * (nI a)) + (nI w)) 56) (k5 : ∀ (h1 : ¬ ((M.1 58 2 : Int32) ≤ (nI w : Int32))), ∀ (h3 : (g : Int32) = 0), AW l (pI pg 231) P kc ks 48 [(3, .int ((nI w) + Int32.ofInt 1)), (2, .int (g)), (1, .int (nI a)), (0, .ref 58)] [] SHF (aset M 84 ((((Int8.ofInt 8).toInt32) * (nI a)) + (nI w)).toNatClampNeg (.int (Int32.ofInt 0)))) (o6 : ∀ (h1 : ¬ ((M.1 58 2 : Int32) ≤ (nI w : Int32))), ∀ (h3 : ¬ ((g : Int32) = 0)), vp_in (nI w) 8) (o7 : ∀ (h1 : ¬ ((M.1 58 2 : Int32) ≤ (nI w : Int32))), ∀ (h3 : ¬ ((g : Int32) = 0)), vp_in ((((Int8.ofInt 8).toInt32) * (M.1 80 (nI w).toNatClampNeg)) + (nI w)) 48) (o8 : ∀ (h1 : ¬ ((M.1 58 2 : Int32) ≤ (nI w : Int32))), ∀ (h3 : ¬ ((g : Int32) = 0)), vp_in ((((Int8.ofInt 8).toInt32) * (nI a)) + (nI w)) 56) (k9 : ∀ (h1 : ¬ ((M.1 58 2 : Int32) ≤ (nI w : Int32))), ∀ (h3 : ¬ ((g : Int32) = 0)), AW l (pI pg 231) P kc ks 48 [(3, .int ((nI w) + Int32.ofInt 1)), (2, .int (g)), (1, .int (nI a)), (0, .ref 58)] [] SHF (aset M 84 ((((Int8.ofInt 8).toInt32) * (nI a)) + (nI w)).toNatClampNeg (.int (M.1 63 ((((Int8.ofInt 8).toInt32) * (M.1 80 (nI w).toNatClampNeg)) + (nI w)).toNatClampNeg)))) : AW l (pI pg 231) P kc ks 48 [(3, .int (nI w)), (2, .int (g)), (1, .int (nI a)), (0, .ref 58)] [] SHF M := by
  refine AW.iload_n (dq rfl) rfl ?_
  show AW l (pI pg 231) P kc ks 49 _ _ SHF _
  refine AW.aload_n (dq rfl) rfl rfl ?_
  show AW l (pI pg 231) P kc ks 50 _ _ SHF _
  refine fw_get (dq rfl) (pg_ok.2.1 231 _ _ _ _ rfl) rfl (v := .int (M.1 58 2)) rfl ?_
  show AW l (pI pg 231) P kc ks 53 _ _ SHF _
  refine AW.icmp_ge (dq rfl) (tgt := 97) (by decide) (fun h1 => ?_) (fun h1 => ?_)
  · have _ := h1
    refine AW.iinc (dq rfl) rfl (by decide +kernel) ?_
    show AW l (pI pg 231) P kc ks 100 [(1, .int ((nI a) + Int32.ofInt 1)), (3, .int (nI w)), (2, .int (g)), (0, .ref 58)] [] SHF _
    refine AW.goto (dq rfl) (tgt := 7) (by decide) ?_
    refine AW.drop (lv' := [(1, .int ((nI a) + Int32.ofInt 1)), (0, .ref 58)]) (List.forall_mem_cons.mpr ⟨List.mem_of_getElem? (i := 0) rfl, List.forall_mem_cons.mpr ⟨List.mem_of_getElem? (i := 3) rfl, fun _ h => absurd h List.not_mem_nil⟩⟩) ?_
    exact k2 h1
  · have _ := h1
    refine AW.aload_n (dq rfl) rfl rfl ?_
    show AW l (pI pg 231) P kc ks 57 _ _ SHF _
    refine fw_get (dq rfl) (pg_ok.2.1 231 _ _ _ _ rfl) rfl (v := .ref 84) (isTA_ok rfl (rgR_ok hJ rfl)) ?_
    show AW l (pI pg 231) P kc ks 60 _ _ SHF _
    refine AW.bipush (dq rfl) ?_
    show AW l (pI pg 231) P kc ks 62 _ _ SHF _
    refine AW.iload_n (dq rfl) rfl ?_
    show AW l (pI pg 231) P kc ks 63 _ _ SHF _
    refine AW.imul (dq rfl) ?_
    show AW l (pI pg 231) P kc ks 64 _ _ SHF _
    refine AW.iload_n (dq rfl) rfl ?_
    show AW l (pI pg 231) P kc ks 65 _ _ SHF _
    refine AW.iadd (dq rfl) ?_
    show AW l (pI pg 231) P kc ks 66 _ _ SHF _
    refine AW.iload_n (dq rfl) rfl ?_
    show AW l (pI pg 231) P kc ks 67 _ _ SHF _
    refine AW.if_eq (dq rfl) (tgt := 89) (by decide) (fun h3 => ?_) (fun h3 => ?_)
    · have _ := h3
      refine AW.iconst (dq rfl) ?_
      show AW l (pI pg 231) P kc ks 90 _ _ SHF _
      refine AW.iast (dq rfl) rfl (o4 h1 h3) ?_
      show AW l (pI pg 231) P kc ks 91 _ _ SHF _
      refine AW.iinc (dq rfl) rfl (by decide +kernel) ?_
      show AW l (pI pg 231) P kc ks 94 [(3, .int ((nI w) + Int32.ofInt 1)), (2, .int (g)), (1, .int (nI a)), (0, .ref 58)] [] SHF _
      refine AW.goto (dq rfl) (tgt := 48) (by decide) ?_
      refine AW.drop (lv' := [(3, .int ((nI w) + Int32.ofInt 1)), (2, .int (g)), (1, .int (nI a)), (0, .ref 58)]) (List.forall_mem_cons.mpr ⟨List.mem_of_getElem? (i := 0) rfl, List.forall_mem_cons.mpr ⟨List.mem_of_getElem? (i := 1) rfl, List.forall_mem_cons.mpr ⟨List.mem_of_getElem? (i := 2) rfl, List.forall_mem_cons.mpr ⟨List.mem_of_getElem? (i := 3) rfl, fun _ h => absurd h List.not_mem_nil⟩⟩⟩⟩) ?_
      exact k5 h1 h3
    · have _ := h3
      refine AW.aload_n (dq rfl) rfl rfl ?_
      show AW l (pI pg 231) P kc ks 71 _ _ SHF _
      refine fw_get (dq rfl) (pg_ok.2.1 231 _ _ _ _ rfl) rfl (v := .ref 63) (isTA_ok rfl (rgR_ok hJ rfl)) ?_
      show AW l (pI pg 231) P kc ks 74 _ _ SHF _
      refine AW.bipush (dq rfl) ?_
      show AW l (pI pg 231) P kc ks 76 _ _ SHF _
      refine AW.aload_n (dq rfl) rfl rfl ?_
      show AW l (pI pg 231) P kc ks 77 _ _ SHF _
      refine fw_get (dq rfl) (pg_ok.2.1 231 _ _ _ _ rfl) rfl (v := .ref 80) (isTA_ok rfl (rgR_ok hJ rfl)) ?_
      show AW l (pI pg 231) P kc ks 80 _ _ SHF _
      refine AW.iload_n (dq rfl) rfl ?_
      show AW l (pI pg 231) P kc ks 81 _ _ SHF _
      refine AW.iald (dq rfl) rfl (o6 h1 h3) ?_
      show AW l (pI pg 231) P kc ks 82 _ _ SHF _
      refine AW.imul (dq rfl) ?_
      show AW l (pI pg 231) P kc ks 83 _ _ SHF _
      refine AW.iload_n (dq rfl) rfl ?_
      show AW l (pI pg 231) P kc ks 84 _ _ SHF _
      refine AW.iadd (dq rfl) ?_
      show AW l (pI pg 231) P kc ks 85 _ _ SHF _
      refine AW.iald (dq rfl) rfl (o7 h1 h3) ?_
      show AW l (pI pg 231) P kc ks 86 _ _ SHF _
      refine AW.goto (dq rfl) (tgt := 90) (by decide) ?_
      refine AW.iast (dq rfl) rfl (o8 h1 h3) ?_
      show AW l (pI pg 231) P kc ks 91 _ _ SHF _
      refine AW.iinc (dq rfl) rfl (by decide +kernel) ?_
      show AW l (pI pg 231) P kc ks 94 [(3, .int ((nI w) + Int32.ofInt 1)), (2, .int (g)), (1, .int (nI a)), (0, .ref 58)] [] SHF _
      refine AW.goto (dq rfl) (tgt := 48) (by decide) ?_
      refine AW.drop (lv' := [(3, .int ((nI w) + Int32.ofInt 1)), (2, .int (g)), (1, .int (nI a)), (0, .ref 58)]) (List.forall_mem_cons.mpr ⟨List.mem_of_getElem? (i := 0) rfl, List.forall_mem_cons.mpr ⟨List.mem_of_getElem? (i := 1) rfl, List.forall_mem_cons.mpr ⟨List.mem_of_getElem? (i := 2) rfl, List.forall_mem_cons.mpr ⟨List.mem_of_getElem? (i := 3) rfl, fun _ h => absurd h List.not_mem_nil⟩⟩⟩⟩) ?_
      exact k9 h1 h3

theorem alk_0 {l : aL} {P : aP} {kc ks : Nat} {x y z : Int32} {M : aM} (hJ : ∀ e ∈ RM, M.2.2 e.1 e.2.1 = e.2.2) (hl0 : l.1.stackTraces = false) (k1 : AW l (pI pg 233) P kc ks 3 [(4, .int (Int32.ofInt 0)), (3, .int (z)), (2, .int (y)), (1, .int (x)), (0, .ref 58)] [] SHF M) : AW l (pI pg 233) P kc ks 0 [(0, .ref 58), (1, .int (x)), (2, .int (y)), (3, .int (z))] [] SHF M := by
  refine AW.iconst (dq rfl) ?_
  show AW l (pI pg 233) P kc ks 1 _ _ SHF _
  refine AW.istore (dq rfl) (by decide +kernel) ?_
  show AW l (pI pg 233) P kc ks 3 [(4, .int (Int32.ofInt 0)), (0, .ref 58), (1, .int (x)), (2, .int (y)), (3, .int (z))] [] SHF _
  refine AW.drop (lv' := [(4, .int (Int32.ofInt 0)), (3, .int (z)), (2, .int (y)), (1, .int (x)), (0, .ref 58)]) (List.forall_mem_cons.mpr ⟨List.mem_of_getElem? (i := 0) rfl, List.forall_mem_cons.mpr ⟨List.mem_of_getElem? (i := 4) rfl, List.forall_mem_cons.mpr ⟨List.mem_of_getElem? (i := 3) rfl, List.forall_mem_cons.mpr ⟨List.mem_of_getElem? (i := 2) rfl, List.forall_mem_cons.mpr ⟨List.mem_of_getElem? (i := 1) rfl, fun _ h => absurd h List.not_mem_nil⟩⟩⟩⟩⟩) ?_
  exact k1

theorem alk_3 {l : aL} {P : aP} {kc ks : Nat} {a b w : Nat} {z : Int32} {M : aM} (hJ : ∀ e ∈ RM, M.2.2 e.1 e.2.1 = e.2.2) (hl0 : l.1.stackTraces = false) (r2 : ∀ (h1 : (M.1 58 2 : Int32) ≤ (nI w : Int32)), P (.inl (some (.int (Int32.ofInt 1)))) SHF M) (k4 : ∀ (h1 : ¬ ((M.1 58 2 : Int32) ≤ (nI w : Int32))), ∀ (h3 : ¬ (((z) >>> ((nI w) &&& 31)) &&& (Int32.ofInt 1) : Int32) = (Int32.ofInt 1 : Int32)), AW l (pI pg 233) P kc ks 3 [(4, .int ((nI w) + Int32.ofInt 1)), (3, .int (z)), (2, .int (nI b)), (1, .int (nI a)), (0, .ref 58)] [] SHF M) (o5 : ∀ (h1 : ¬ ((M.1 58 2 : Int32) ≤ (nI w : Int32))), ∀ (h3 : (((z) >>> ((nI w) &&& 31)) &&& (Int32.ofInt 1) : Int32) = (Int32.ofInt 1 : Int32)), vp_in ((((Int8.ofInt 8).toInt32) * (nI a)) + (nI w)) 56) (o6 : ∀ (h1 : ¬ ((M.1 58 2 : Int32) ≤ (nI w : Int32))), ∀ (h3 : (((z) >>> ((nI w) &&& 31)) &&& (Int32.ofInt 1) : Int32) = (Int32.ofInt 1 : Int32)), vp_in ((((Int8.ofInt 8).toInt32) * (nI b)) + (nI w)) 56) (k8 : ∀ (h1 : ¬ ((M.1 58 2 : Int32) ≤ (nI w : Int32))), ∀ (h3 : (((z) >>> ((nI w) &&& 31)) &&& (Int32.ofInt 1) : Int32) = (Int32.ofInt 1 : Int32)), ∀ (h7 : (M.1 84 ((((Int8.ofInt 8).toInt32) * (nI a)) + (nI w)).toNatClampNeg : Int32) = (M.1 84 ((((Int8.ofInt 8).toInt32) * (nI b)) + (nI w)).toNatClampNeg : Int32)), AW l (pI pg 233) P kc ks 3 [(4, .int ((nI w) + Int32.ofInt 1)), (3, .int (z)), (2, .int (nI b)), (1, .int (nI a)), (0, .ref 58)] [] SHF M) (r9 : ∀ (h1 : ¬ ((M.1 58 2 : Int32) ≤ (nI w : Int32))), ∀ (h3 : (((z) >>> ((nI w) &&& 31)) &&& (Int32.ofInt 1) : Int32) = (Int32.ofInt 1 : Int32)), ∀ (h7 : ¬ ((M.1 84 ((((Int8.ofInt 8).toInt32) * (nI a)) + (nI w)).toNatClampNeg : Int32) = (M.1 84 ((((Int8.ofInt 8).toInt32) * (nI b)) + (nI w)).toNatClampNeg : Int32))), P (.inl (some (.int (Int32.ofInt 0)))) SHF M) : AW l (pI pg 233) P kc ks 3 [(4, .int (nI w)), (3, .int (z)), (2, .int (nI b)), (1, .int (nI a)), (0, .ref 58)] [] SHF M := by
  refine AW.iload (dq rfl) rfl ?_
  show AW l (pI pg 233) P kc ks 5 _ _ SHF _
  refine AW.aload_n (dq rfl) rfl rfl ?_
  show AW l (pI pg 233) P kc ks 6 _ _ SHF _
  refine fw_get (dq rfl) (pg_ok.2.1 233 _ _ _ _ rfl) rfl (v := .int (M.1 58 2)) rfl ?_
  show AW l (pI pg 233) P kc ks 9 _ _ SHF _
  refine AW.icmp_ge (dq rfl) (tgt := 57) (by decide) (fun h1 => ?_) (fun h1 => ?_)
  · have _ := h1
    refine AW.iconst (dq rfl) ?_
    show AW l (pI pg 233) P kc ks 58 _ _ SHF _
    refine AW.zret (dq rfl) rfl (by decide) ?_
    exact r2 h1
  · have _ := h1
    refine AW.iload_n (dq rfl) rfl ?_
    show AW l (pI pg 233) P kc ks 13 _ _ SHF _
    refine AW.iload (dq rfl) rfl ?_
    show AW l (pI pg 233) P kc ks 15 _ _ SHF _
    refine AW.ishr (dq rfl) ?_
    show AW l (pI pg 233) P kc ks 16 _ _ SHF _
    refine AW.iconst (dq rfl) ?_
    show AW l (pI pg 233) P kc ks 17 _ _ SHF _
    refine AW.iand (dq rfl) ?_
    show AW l (pI pg 233) P kc ks 18 _ _ SHF _
    refine AW.iconst (dq rfl) ?_
    show AW l (pI pg 233) P kc ks 19 _ _ SHF _
    refine AW.icmp_ne (dq rfl) (tgt := 51) (by decide) (fun h3 => ?_) (fun h3 => ?_)
    · have _ := h3
      refine AW.iinc (dq rfl) rfl (by decide +kernel) ?_
      show AW l (pI pg 233) P kc ks 54 [(4, .int ((nI w) + Int32.ofInt 1)), (3, .int (z)), (2, .int (nI b)), (1, .int (nI a)), (0, .ref 58)] [] SHF _
      refine AW.goto (dq rfl) (tgt := 3) (by decide) ?_
      refine AW.drop (lv' := [(4, .int ((nI w) + Int32.ofInt 1)), (3, .int (z)), (2, .int (nI b)), (1, .int (nI a)), (0, .ref 58)]) (List.forall_mem_cons.mpr ⟨List.mem_of_getElem? (i := 0) rfl, List.forall_mem_cons.mpr ⟨List.mem_of_getElem? (i := 1) rfl, List.forall_mem_cons.mpr ⟨List.mem_of_getElem? (i := 2) rfl, List.forall_mem_cons.mpr ⟨List.mem_of_getElem? (i := 3) rfl, List.forall_mem_cons.mpr ⟨List.mem_of_getElem? (i := 4) rfl, fun _ h => absurd h List.not_mem_nil⟩⟩⟩⟩⟩) ?_
      exact k4 h1 h3
    · have _ := h3
      refine AW.aload_n (dq rfl) rfl rfl ?_
      show AW l (pI pg 233) P kc ks 23 _ _ SHF _
      refine fw_get (dq rfl) (pg_ok.2.1 233 _ _ _ _ rfl) rfl (v := .ref 84) (isTA_ok rfl (rgR_ok hJ rfl)) ?_
      show AW l (pI pg 233) P kc ks 26 _ _ SHF _
      refine AW.bipush (dq rfl) ?_
      show AW l (pI pg 233) P kc ks 28 _ _ SHF _
      refine AW.iload_n (dq rfl) rfl ?_
      show AW l (pI pg 233) P kc ks 29 _ _ SHF _
      refine AW.imul (dq rfl) ?_
      show AW l (pI pg 233) P kc ks 30 _ _ SHF _
      refine AW.iload (dq rfl) rfl ?_
      show AW l (pI pg 233) P kc ks 32 _ _ SHF _
      refine AW.iadd (dq rfl) ?_
      show AW l (pI pg 233) P kc ks 33 _ _ SHF _
      refine AW.iald (dq rfl) rfl (o5 h1 h3) ?_
      show AW l (pI pg 233) P kc ks 34 _ _ SHF _
      refine AW.aload_n (dq rfl) rfl rfl ?_
      show AW l (pI pg 233) P kc ks 35 _ _ SHF _
      refine fw_get (dq rfl) (pg_ok.2.1 233 _ _ _ _ rfl) rfl (v := .ref 84) (isTA_ok rfl (rgR_ok hJ rfl)) ?_
      show AW l (pI pg 233) P kc ks 38 _ _ SHF _
      refine AW.bipush (dq rfl) ?_
      show AW l (pI pg 233) P kc ks 40 _ _ SHF _
      refine AW.iload_n (dq rfl) rfl ?_
      show AW l (pI pg 233) P kc ks 41 _ _ SHF _
      refine AW.imul (dq rfl) ?_
      show AW l (pI pg 233) P kc ks 42 _ _ SHF _
      refine AW.iload (dq rfl) rfl ?_
      show AW l (pI pg 233) P kc ks 44 _ _ SHF _
      refine AW.iadd (dq rfl) ?_
      show AW l (pI pg 233) P kc ks 45 _ _ SHF _
      refine AW.iald (dq rfl) rfl (o6 h1 h3) ?_
      show AW l (pI pg 233) P kc ks 46 _ _ SHF _
      refine AW.icmp_eq (dq rfl) (tgt := 51) (by decide) (fun h7 => ?_) (fun h7 => ?_)
      · have _ := h7
        refine AW.iinc (dq rfl) rfl (by decide +kernel) ?_
        show AW l (pI pg 233) P kc ks 54 [(4, .int ((nI w) + Int32.ofInt 1)), (3, .int (z)), (2, .int (nI b)), (1, .int (nI a)), (0, .ref 58)] [] SHF _
        refine AW.goto (dq rfl) (tgt := 3) (by decide) ?_
        refine AW.drop (lv' := [(4, .int ((nI w) + Int32.ofInt 1)), (3, .int (z)), (2, .int (nI b)), (1, .int (nI a)), (0, .ref 58)]) (List.forall_mem_cons.mpr ⟨List.mem_of_getElem? (i := 0) rfl, List.forall_mem_cons.mpr ⟨List.mem_of_getElem? (i := 1) rfl, List.forall_mem_cons.mpr ⟨List.mem_of_getElem? (i := 2) rfl, List.forall_mem_cons.mpr ⟨List.mem_of_getElem? (i := 3) rfl, List.forall_mem_cons.mpr ⟨List.mem_of_getElem? (i := 4) rfl, fun _ h => absurd h List.not_mem_nil⟩⟩⟩⟩⟩) ?_
        exact k8 h1 h3 h7
      · have _ := h7
        refine AW.iconst (dq rfl) ?_
        show AW l (pI pg 233) P kc ks 50 _ _ SHF _
        refine AW.zret (dq rfl) rfl (by decide) ?_
        exact r9 h1 h3 h7

theorem chn_0 {l : aL} {P : aP} {kc ks : Nat} {x : Int32} {M : aM} (hJ : ∀ e ∈ RM, M.2.2 e.1 e.2.1 = e.2.2) (hl0 : l.1.stackTraces = false) (k2 : ∀ (h1 : (M.1 58 1 : Int32) ≤ (x : Int32)), AW l (pI pg 234) P kc ks 21 [(3, .int (Int32.ofInt 0)), (2, .int ((Int16.ofInt 1000).toInt32)), (0, .ref 58)] [] SHF M) (o3 : ∀ (h1 : ¬ ((M.1 58 1 : Int32) ≤ (x : Int32))), vp_in (x) 6) (r4 : ∀ (h1 : ¬ ((M.1 58 1 : Int32) ≤ (x : Int32))), P (.inl (some (.int (M.1 60 (x).toNatClampNeg)))) SHF M) : AW l (pI pg 234) P kc ks 0 [(0, .ref 58), (1, .int (x))] [] SHF M := by
  refine AW.iload_n (dq rfl) rfl ?_
  show AW l (pI pg 234) P kc ks 1 _ _ SHF _
  refine AW.aload_n (dq rfl) rfl rfl ?_
  show AW l (pI pg 234) P kc ks 2 _ _ SHF _
  refine fw_get (dq rfl) (pg_ok.2.1 234 _ _ _ _ rfl) rfl (v := .int (M.1 58 1)) rfl ?_
  show AW l (pI pg 234) P kc ks 5 _ _ SHF _
  refine AW.icmp_ge (dq rfl) (tgt := 15) (by decide) (fun h1 => ?_) (fun h1 => ?_)
  · have _ := h1
    refine AW.sipush (dq rfl) ?_
    show AW l (pI pg 234) P kc ks 18 _ _ SHF _
    refine AW.istore_n (dq rfl) (by decide +kernel) ?_
    show AW l (pI pg 234) P kc ks 19 [(2, .int ((Int16.ofInt 1000).toInt32)), (0, .ref 58), (1, .int (x))] [] SHF _
    refine AW.iconst (dq rfl) ?_
    show AW l (pI pg 234) P kc ks 20 _ _ SHF _
    refine AW.istore_n (dq rfl) (by decide +kernel) ?_
    show AW l (pI pg 234) P kc ks 21 [(3, .int (Int32.ofInt 0)), (2, .int ((Int16.ofInt 1000).toInt32)), (0, .ref 58), (1, .int (x))] [] SHF _
    refine AW.drop (lv' := [(3, .int (Int32.ofInt 0)), (2, .int ((Int16.ofInt 1000).toInt32)), (0, .ref 58)]) (List.forall_mem_cons.mpr ⟨List.mem_of_getElem? (i := 0) rfl, List.forall_mem_cons.mpr ⟨List.mem_of_getElem? (i := 1) rfl, List.forall_mem_cons.mpr ⟨List.mem_of_getElem? (i := 2) rfl, fun _ h => absurd h List.not_mem_nil⟩⟩⟩) ?_
    exact k2 h1
  · have _ := h1
    refine AW.aload_n (dq rfl) rfl rfl ?_
    show AW l (pI pg 234) P kc ks 9 _ _ SHF _
    refine fw_get (dq rfl) (pg_ok.2.1 234 _ _ _ _ rfl) rfl (v := .ref 60) (isTA_ok rfl (rgR_ok hJ rfl)) ?_
    show AW l (pI pg 234) P kc ks 12 _ _ SHF _
    refine AW.iload_n (dq rfl) rfl ?_
    show AW l (pI pg 234) P kc ks 13 _ _ SHF _
    refine AW.iald (dq rfl) rfl (o3 h1) ?_
    show AW l (pI pg 234) P kc ks 14 _ _ SHF _
    refine AW.iret (dq rfl) rfl ?_
    exact r4 h1

theorem chn_21 {l : aL} {P : aP} {kc ks : Nat} {p : Nat} {v : Int32} {M : aM} (hJ : ∀ e ∈ RM, M.2.2 e.1 e.2.1 = e.2.2) (hl0 : l.1.stackTraces = false) (r2 : ∀ (h1 : (M.1 58 1 : Int32) ≤ (nI p : Int32)), P (.inl (some (.int (v)))) SHF M) (o3 : ∀ (h1 : ¬ ((M.1 58 1 : Int32) ≤ (nI p : Int32))), vp_in (nI p) 6) (k4 : ∀ (h1 : ¬ ((M.1 58 1 : Int32) ≤ (nI p : Int32))), AW l (pI pg 234) P kc ks 21 [(3, .int ((nI p) + Int32.ofInt 1)), (2, .int ((v) - (M.1 60 (nI p).toNatClampNeg))), (0, .ref 58)] [] SHF M) : AW l (pI pg 234) P kc ks 21 [(3, .int (nI p)), (2, .int (v)), (0, .ref 58)] [] SHF M := by
  refine AW.iload_n (dq rfl) rfl ?_
  show AW l (pI pg 234) P kc ks 22 _ _ SHF _
  refine AW.aload_n (dq rfl) rfl rfl ?_
  show AW l (pI pg 234) P kc ks 23 _ _ SHF _
  refine fw_get (dq rfl) (pg_ok.2.1 234 _ _ _ _ rfl) rfl (v := .int (M.1 58 1)) rfl ?_
  show AW l (pI pg 234) P kc ks 26 _ _ SHF _
  refine AW.icmp_ge (dq rfl) (tgt := 44) (by decide) (fun h1 => ?_) (fun h1 => ?_)
  · have _ := h1
    refine AW.iload_n (dq rfl) rfl ?_
    show AW l (pI pg 234) P kc ks 45 _ _ SHF _
    refine AW.iret (dq rfl) rfl ?_
    exact r2 h1
  · have _ := h1
    refine AW.iload_n (dq rfl) rfl ?_
    show AW l (pI pg 234) P kc ks 30 _ _ SHF _
    refine AW.aload_n (dq rfl) rfl rfl ?_
    show AW l (pI pg 234) P kc ks 31 _ _ SHF _
    refine fw_get (dq rfl) (pg_ok.2.1 234 _ _ _ _ rfl) rfl (v := .ref 60) (isTA_ok rfl (rgR_ok hJ rfl)) ?_
    show AW l (pI pg 234) P kc ks 34 _ _ SHF _
    refine AW.iload_n (dq rfl) rfl ?_
    show AW l (pI pg 234) P kc ks 35 _ _ SHF _
    refine AW.iald (dq rfl) rfl (o3 h1) ?_
    show AW l (pI pg 234) P kc ks 36 _ _ SHF _
    refine AW.isub (dq rfl) ?_
    show AW l (pI pg 234) P kc ks 37 _ _ SHF _
    refine AW.istore_n (dq rfl) (by decide +kernel) ?_
    show AW l (pI pg 234) P kc ks 38 [(2, .int ((v) - (M.1 60 (nI p).toNatClampNeg))), (3, .int (nI p)), (0, .ref 58)] [] SHF _
    refine AW.iinc (dq rfl) rfl (by decide +kernel) ?_
    show AW l (pI pg 234) P kc ks 41 [(3, .int ((nI p) + Int32.ofInt 1)), (2, .int ((v) - (M.1 60 (nI p).toNatClampNeg))), (0, .ref 58)] [] SHF _
    refine AW.goto (dq rfl) (tgt := 21) (by decide) ?_
    refine AW.drop (lv' := [(3, .int ((nI p) + Int32.ofInt 1)), (2, .int ((v) - (M.1 60 (nI p).toNatClampNeg))), (0, .ref 58)]) (List.forall_mem_cons.mpr ⟨List.mem_of_getElem? (i := 0) rfl, List.forall_mem_cons.mpr ⟨List.mem_of_getElem? (i := 1) rfl, List.forall_mem_cons.mpr ⟨List.mem_of_getElem? (i := 2) rfl, fun _ h => absurd h List.not_mem_nil⟩⟩⟩) ?_
    exact k4 h1

theorem gue_0 {l : aL} {P : aP} {kc ks : Nat} {x : Int32} {M : aM} (hJ : ∀ e ∈ RM, M.2.2 e.1 e.2.1 = e.2.2) (hl0 : l.1.stackTraces = false) (k1 : AW l (pI pg 232) P kc ks 4 [(3, .int (Int32.ofInt 0)), (2, .int (Int32.ofInt 0)), (1, .int (x)), (0, .ref 58)] [] SHF M) : AW l (pI pg 232) P kc ks 0 [(0, .ref 58), (1, .int (x))] [] SHF M := by
  refine AW.iconst (dq rfl) ?_
  show AW l (pI pg 232) P kc ks 1 _ _ SHF _
  refine AW.istore_n (dq rfl) (by decide +kernel) ?_
  show AW l (pI pg 232) P kc ks 2 [(2, .int (Int32.ofInt 0)), (0, .ref 58), (1, .int (x))] [] SHF _
  refine AW.iconst (dq rfl) ?_
  show AW l (pI pg 232) P kc ks 3 _ _ SHF _
  refine AW.istore_n (dq rfl) (by decide +kernel) ?_
  show AW l (pI pg 232) P kc ks 4 [(3, .int (Int32.ofInt 0)), (2, .int (Int32.ofInt 0)), (0, .ref 58), (1, .int (x))] [] SHF _
  refine AW.drop (lv' := [(3, .int (Int32.ofInt 0)), (2, .int (Int32.ofInt 0)), (1, .int (x)), (0, .ref 58)]) (List.forall_mem_cons.mpr ⟨List.mem_of_getElem? (i := 0) rfl, List.forall_mem_cons.mpr ⟨List.mem_of_getElem? (i := 1) rfl, List.forall_mem_cons.mpr ⟨List.mem_of_getElem? (i := 3) rfl, List.forall_mem_cons.mpr ⟨List.mem_of_getElem? (i := 2) rfl, fun _ h => absurd h List.not_mem_nil⟩⟩⟩⟩) ?_
  exact k1

theorem gue_4 {l : aL} {P : aP} {kc ks : Nat} {a : Nat} {v x : Int32} {M : aM} (hJ : ∀ e ∈ RM, M.2.2 e.1 e.2.1 = e.2.2) (hl0 : l.1.stackTraces = false) (r2 : ∀ (h1 : (M.1 58 1 : Int32) < (nI a : Int32)), P (.inl (some (.int (v)))) SHF M) (k3 : ∀ (h1 : ¬ ((M.1 58 1 : Int32) < (nI a : Int32))), AW l (pI pg 232) P kc ks 18 [(5, .int (Int32.ofInt 0)), (4, .int (Int32.ofInt 1)), (3, .int (nI a)), (2, .int (v)), (1, .int (x)), (0, .ref 58)] [] SHF M) : AW l (pI pg 232) P kc ks 4 [(3, .int (nI a)), (2, .int (v)), (1, .int (x)), (0, .ref 58)] [] SHF M := by
  refine AW.iload_n (dq rfl) rfl ?_
  show AW l (pI pg 232) P kc ks 5 _ _ SHF _
  refine AW.aload_n (dq rfl) rfl rfl ?_
  show AW l (pI pg 232) P kc ks 6 _ _ SHF _
  refine fw_get (dq rfl) (pg_ok.2.1 232 _ _ _ _ rfl) rfl (v := .int (M.1 58 1)) rfl ?_
  show AW l (pI pg 232) P kc ks 9 _ _ SHF _
  refine AW.icmp_gt (dq rfl) (tgt := 128) (by decide) (fun h1 => ?_) (fun h1 => ?_)
  · have _ := h1
    refine AW.iload_n (dq rfl) rfl ?_
    show AW l (pI pg 232) P kc ks 129 _ _ SHF _
    refine AW.iret (dq rfl) rfl ?_
    exact r2 h1
  · have _ := h1
    refine AW.iconst (dq rfl) ?_
    show AW l (pI pg 232) P kc ks 13 _ _ SHF _
    refine AW.istore (dq rfl) (by decide +kernel) ?_
    show AW l (pI pg 232) P kc ks 15 [(4, .int (Int32.ofInt 1)), (3, .int (nI a)), (2, .int (v)), (1, .int (x)), (0, .ref 58)] [] SHF _
    refine AW.iconst (dq rfl) ?_
    show AW l (pI pg 232) P kc ks 16 _ _ SHF _
    refine AW.istore (dq rfl) (by decide +kernel) ?_
    show AW l (pI pg 232) P kc ks 18 [(5, .int (Int32.ofInt 0)), (4, .int (Int32.ofInt 1)), (3, .int (nI a)), (2, .int (v)), (1, .int (x)), (0, .ref 58)] [] SHF _
    refine AW.drop (lv' := [(5, .int (Int32.ofInt 0)), (4, .int (Int32.ofInt 1)), (3, .int (nI a)), (2, .int (v)), (1, .int (x)), (0, .ref 58)]) (List.forall_mem_cons.mpr ⟨List.mem_of_getElem? (i := 0) rfl, List.forall_mem_cons.mpr ⟨List.mem_of_getElem? (i := 1) rfl, List.forall_mem_cons.mpr ⟨List.mem_of_getElem? (i := 2) rfl, List.forall_mem_cons.mpr ⟨List.mem_of_getElem? (i := 3) rfl, List.forall_mem_cons.mpr ⟨List.mem_of_getElem? (i := 4) rfl, List.forall_mem_cons.mpr ⟨List.mem_of_getElem? (i := 5) rfl, fun _ h => absurd h List.not_mem_nil⟩⟩⟩⟩⟩⟩) ?_
    exact k3 h1

theorem gue_18 {l : aL} {P : aP} {kc ks : Nat} {a b : Nat} {k v x : Int32} {M : aM} (hJ : ∀ e ∈ RM, M.2.2 e.1 e.2.1 = e.2.2) (hl0 : l.1.stackTraces = false) (k3 : ∀ (h1 : (nI a : Int32) ≤ (nI b : Int32)), ∀ (h2 : ¬ (k : Int32) = 0), AW l (pI pg 232) P kc ks 67 [(6, .int (nI a)), (5, .int (Int32.ofInt 0)), (3, .int (nI a)), (2, .int (v)), (1, .int (x)), (0, .ref 58)] [] SHF M) (k4 : ∀ (h1 : (nI a : Int32) ≤ (nI b : Int32)), ∀ (h2 : (k : Int32) = 0), AW l (pI pg 232) P kc ks 4 [(3, .int ((nI a) + Int32.ofInt 1)), (2, .int (v)), (1, .int (x)), (0, .ref 58)] [] SHF M) (k6 : ∀ (h1 : ¬ ((nI a : Int32) ≤ (nI b : Int32))), ∀ (h5 : (k : Int32) = 0), AW l (pI pg 232) P kc ks 18 [(5, .int ((nI b) + Int32.ofInt 1)), (4, .int (Int32.ofInt 0)), (3, .int (nI a)), (2, .int (v)), (1, .int (x)), (0, .ref 58)] [] SHF M) (Q7 : Int32 → aM → Prop) (c8 : ∀ (h1 : ¬ ((nI a : Int32) ≤ (nI b : Int32))), ∀ (h5 : ¬ ((k : Int32) = 0)), AC l (pI pg 233) (fcI M Q7) 0 0 [.ref 58, .int (nI a), .int (nI b), .int (x)] SHF M) (k10 : ∀ (h1 : ¬ ((nI a : Int32) ≤ (nI b : Int32))), ∀ (h5 : ¬ ((k : Int32) = 0)), ∀ (y7 : Int32), ∀ (M7 : aM), ∀ (e7 : M7.2.2 = M.2.2), ∀ (q7 : Q7 y7 M7), ∀ (h9 : ¬ (y7 : Int32) = 0), AW l (pI pg 232) P kc ks 18 [(5, .int ((nI b) + Int32.ofInt 1)), (4, .int (Int32.ofInt 0)), (3, .int (nI a)), (2, .int (v)), (1, .int (x)), (0, .ref 58)] [] SHF M7) (k11 : ∀ (h1 : ¬ ((nI a : Int32) ≤ (nI b : Int32))), ∀ (h5 : ¬ ((k : Int32) = 0)), ∀ (y7 : Int32), ∀ (M7 : aM), ∀ (e7 : M7.2.2 = M.2.2), ∀ (q7 : Q7 y7 M7), ∀ (h9 : (y7 : Int32) = 0), AW l (pI pg 232) P kc ks 18 [(5, .int ((nI b) + Int32.ofInt 1)), (4, .int (Int32.ofInt 1)), (3, .int (nI a)), (2, .int (v)), (1, .int (x)), (0, .ref 58)] [] SHF M7) : AW l (pI pg 232) P kc ks 18 [(5, .int (nI b)), (4, .int (k)), (3, .int (nI a)), (2, .int (v)), (1, .int (x)), (0, .ref 58)] [] SHF M := by
  refine AW.iload (dq rfl) rfl ?_
  show AW l (pI pg 232) P kc ks 20 _ _ SHF _
  refine AW.iload_n (dq rfl) rfl ?_
  show AW l (pI pg 232) P kc ks 21 _ _ SHF _
  refine AW.icmp_ge (dq rfl) (tgt := 53) (by decide) (fun h1 => ?_) (fun h1 => ?_)
  · have _ := h1
    refine AW.iload (dq rfl) rfl ?_
    show AW l (pI pg 232) P kc ks 55 _ _ SHF _
    refine AW.if_ne (dq rfl) (tgt := 61) (by decide) (fun h2 => ?_) (fun h2 => ?_)
    · have _ := h2
      refine AW.iconst (dq rfl) ?_
      show AW l (pI pg 232) P kc ks 62 _ _ SHF _
      refine AW.istore (dq rfl) (by decide +kernel) ?_
      show AW l (pI pg 232) P kc ks 64 [(5, .int (Int32.ofInt 0)), (4, .int (k)), (3, .int (nI a)), (2, .int (v)), (1, .int (x)), (0, .ref 58)] [] SHF _
      refine AW.iload_n (dq rfl) rfl ?_
      show AW l (pI pg 232) P kc ks 65 _ _ SHF _
      refine AW.istore (dq rfl) (by decide +kernel) ?_
      show AW l (pI pg 232) P kc ks 67 [(6, .int (nI a)), (5, .int (Int32.ofInt 0)), (4, .int (k)), (3, .int (nI a)), (2, .int (v)), (1, .int (x)), (0, .ref 58)] [] SHF _
      refine AW.drop (lv' := [(6, .int (nI a)), (5, .int (Int32.ofInt 0)), (3, .int (nI a)), (2, .int (v)), (1, .int (x)), (0, .ref 58)]) (List.forall_mem_cons.mpr ⟨List.mem_of_getElem? (i := 0) rfl, List.forall_mem_cons.mpr ⟨List.mem_of_getElem? (i := 1) rfl, List.forall_mem_cons.mpr ⟨List.mem_of_getElem? (i := 3) rfl, List.forall_mem_cons.mpr ⟨List.mem_of_getElem? (i := 4) rfl, List.forall_mem_cons.mpr ⟨List.mem_of_getElem? (i := 5) rfl, List.forall_mem_cons.mpr ⟨List.mem_of_getElem? (i := 6) rfl, fun _ h => absurd h List.not_mem_nil⟩⟩⟩⟩⟩⟩) ?_
      exact k3 h1 h2
    · have _ := h2
      refine AW.goto (dq rfl) (tgt := 122) (by decide) ?_
      refine AW.iinc (dq rfl) rfl (by decide +kernel) ?_
      show AW l (pI pg 232) P kc ks 125 [(3, .int ((nI a) + Int32.ofInt 1)), (5, .int (nI b)), (4, .int (k)), (2, .int (v)), (1, .int (x)), (0, .ref 58)] [] SHF _
      refine AW.goto (dq rfl) (tgt := 4) (by decide) ?_
      refine AW.drop (lv' := [(3, .int ((nI a) + Int32.ofInt 1)), (2, .int (v)), (1, .int (x)), (0, .ref 58)]) (List.forall_mem_cons.mpr ⟨List.mem_of_getElem? (i := 0) rfl, List.forall_mem_cons.mpr ⟨List.mem_of_getElem? (i := 3) rfl, List.forall_mem_cons.mpr ⟨List.mem_of_getElem? (i := 4) rfl, List.forall_mem_cons.mpr ⟨List.mem_of_getElem? (i := 5) rfl, fun _ h => absurd h List.not_mem_nil⟩⟩⟩⟩) ?_
      exact k4 h1 h2
  · have _ := h1
    refine AW.iload (dq rfl) rfl ?_
    show AW l (pI pg 232) P kc ks 26 _ _ SHF _
    refine AW.if_eq (dq rfl) (tgt := 44) (by decide) (fun h5 => ?_) (fun h5 => ?_)
    · have _ := h5
      refine AW.iconst (dq rfl) ?_
      show AW l (pI pg 232) P kc ks 45 _ _ SHF _
      refine AW.istore (dq rfl) (by decide +kernel) ?_
      show AW l (pI pg 232) P kc ks 47 [(4, .int (Int32.ofInt 0)), (5, .int (nI b)), (3, .int (nI a)), (2, .int (v)), (1, .int (x)), (0, .ref 58)] [] SHF _
      refine AW.iinc (dq rfl) rfl (by decide +kernel) ?_
      show AW l (pI pg 232) P kc ks 50 [(5, .int ((nI b) + Int32.ofInt 1)), (4, .int (Int32.ofInt 0)), (3, .int (nI a)), (2, .int (v)), (1, .int (x)), (0, .ref 58)] [] SHF _
      refine AW.goto (dq rfl) (tgt := 18) (by decide) ?_
      refine AW.drop (lv' := [(5, .int ((nI b) + Int32.ofInt 1)), (4, .int (Int32.ofInt 0)), (3, .int (nI a)), (2, .int (v)), (1, .int (x)), (0, .ref 58)]) (List.forall_mem_cons.mpr ⟨List.mem_of_getElem? (i := 0) rfl, List.forall_mem_cons.mpr ⟨List.mem_of_getElem? (i := 1) rfl, List.forall_mem_cons.mpr ⟨List.mem_of_getElem? (i := 2) rfl, List.forall_mem_cons.mpr ⟨List.mem_of_getElem? (i := 3) rfl, List.forall_mem_cons.mpr ⟨List.mem_of_getElem? (i := 4) rfl, List.forall_mem_cons.mpr ⟨List.mem_of_getElem? (i := 5) rfl, fun _ h => absurd h List.not_mem_nil⟩⟩⟩⟩⟩⟩) ?_
      exact k6 h1 h5
    · have _ := h5
      refine AW.aload_n (dq rfl) rfl rfl ?_
      show AW l (pI pg 232) P kc ks 30 _ _ SHF _
      refine AW.iload_n (dq rfl) rfl ?_
      show AW l (pI pg 232) P kc ks 31 _ _ SHF _
      refine AW.iload (dq rfl) rfl ?_
      show AW l (pI pg 232) P kc ks 33 _ _ SHF _
      refine AW.iload_n (dq rfl) rfl ?_
      show AW l (pI pg 232) P kc ks 34 _ _ SHF _
      refine fw_callVI (as := [.int (nI a), .int (nI b), .int (x)]) (dq rfl) (pg_ok.2.2.1 232 _ _ _ _ rfl) rfl (by decide +kernel) rfl rfl (c8 h1 h5) (fun y7 M7 e7 q7 => ?_)
      have hJ7 : ∀ e ∈ RM, M7.2.2 e.1 e.2.1 = e.2.2 := fun e he => by rw [e7]; exact hJ e he
      show AW l (pI pg 232) P kc ks 37 [(5, .int (nI b)), (4, .int (k)), (3, .int (nI a)), (2, .int (v)), (1, .int (x)), (0, .ref 58)] [.int (y7)] SHF _
      refine AW.if_ne (dq rfl) (tgt := 44) (by decide) (fun h9 => ?_) (fun h9 => ?_)
      · have _ := h9
        refine AW.iconst (dq rfl) ?_
        show AW l (pI pg 232) P kc ks 45 _ _ SHF _
        refine AW.istore (dq rfl) (by decide +kernel) ?_
        show AW l (pI pg 232) P kc ks 47 [(4, .int (Int32.ofInt 0)), (5, .int (nI b)), (3, .int (nI a)), (2, .int (v)), (1, .int (x)), (0, .ref 58)] [] SHF _
        refine AW.iinc (dq rfl) rfl (by decide +kernel) ?_
        show AW l (pI pg 232) P kc ks 50 [(5, .int ((nI b) + Int32.ofInt 1)), (4, .int (Int32.ofInt 0)), (3, .int (nI a)), (2, .int (v)), (1, .int (x)), (0, .ref 58)] [] SHF _
        refine AW.goto (dq rfl) (tgt := 18) (by decide) ?_
        refine AW.drop (lv' := [(5, .int ((nI b) + Int32.ofInt 1)), (4, .int (Int32.ofInt 0)), (3, .int (nI a)), (2, .int (v)), (1, .int (x)), (0, .ref 58)]) (List.forall_mem_cons.mpr ⟨List.mem_of_getElem? (i := 0) rfl, List.forall_mem_cons.mpr ⟨List.mem_of_getElem? (i := 1) rfl, List.forall_mem_cons.mpr ⟨List.mem_of_getElem? (i := 2) rfl, List.forall_mem_cons.mpr ⟨List.mem_of_getElem? (i := 3) rfl, List.forall_mem_cons.mpr ⟨List.mem_of_getElem? (i := 4) rfl, List.forall_mem_cons.mpr ⟨List.mem_of_getElem? (i := 5) rfl, fun _ h => absurd h List.not_mem_nil⟩⟩⟩⟩⟩⟩) ?_
        exact k10 h1 h5 y7 M7 e7 q7 h9
      · have _ := h9
        refine AW.iconst (dq rfl) ?_
        show AW l (pI pg 232) P kc ks 41 _ _ SHF _
        refine AW.goto (dq rfl) (tgt := 45) (by decide) ?_
        refine AW.istore (dq rfl) (by decide +kernel) ?_
        show AW l (pI pg 232) P kc ks 47 [(4, .int (Int32.ofInt 1)), (5, .int (nI b)), (3, .int (nI a)), (2, .int (v)), (1, .int (x)), (0, .ref 58)] [] SHF _
        refine AW.iinc (dq rfl) rfl (by decide +kernel) ?_
        show AW l (pI pg 232) P kc ks 50 [(5, .int ((nI b) + Int32.ofInt 1)), (4, .int (Int32.ofInt 1)), (3, .int (nI a)), (2, .int (v)), (1, .int (x)), (0, .ref 58)] [] SHF _
        refine AW.goto (dq rfl) (tgt := 18) (by decide) ?_
        refine AW.drop (lv' := [(5, .int ((nI b) + Int32.ofInt 1)), (4, .int (Int32.ofInt 1)), (3, .int (nI a)), (2, .int (v)), (1, .int (x)), (0, .ref 58)]) (List.forall_mem_cons.mpr ⟨List.mem_of_getElem? (i := 0) rfl, List.forall_mem_cons.mpr ⟨List.mem_of_getElem? (i := 1) rfl, List.forall_mem_cons.mpr ⟨List.mem_of_getElem? (i := 2) rfl, List.forall_mem_cons.mpr ⟨List.mem_of_getElem? (i := 3) rfl, List.forall_mem_cons.mpr ⟨List.mem_of_getElem? (i := 4) rfl, List.forall_mem_cons.mpr ⟨List.mem_of_getElem? (i := 5) rfl, fun _ h => absurd h List.not_mem_nil⟩⟩⟩⟩⟩⟩) ?_
        exact k11 h1 h5 y7 M7 e7 q7 h9

theorem gue_67 {l : aL} {P : aP} {kc ks : Nat} {a b : Nat} {m v x : Int32} {M : aM} (hJ : ∀ e ∈ RM, M.2.2 e.1 e.2.1 = e.2.2) (hl0 : l.1.stackTraces = false) (k2 : ∀ (h1 : (M.1 58 1 : Int32) < (nI b : Int32)), AW l (pI pg 232) P kc ks 4 [(3, .int ((nI a) + Int32.ofInt 1)), (2, .int ((v) + (m))), (1, .int (x)), (0, .ref 58)] [] SHF M) (Q3 : Int32 → aM → Prop) (c4 : ∀ (h1 : ¬ ((M.1 58 1 : Int32) < (nI b : Int32))), AC l (pI pg 233) (fcI M Q3) 0 0 [.ref 58, .int (nI a), .int (nI b), .int (x)] SHF M) (k6 : ∀ (h1 : ¬ ((M.1 58 1 : Int32) < (nI b : Int32))), ∀ (y3 : Int32), ∀ (M3 : aM), ∀ (e3 : M3.2.2 = M.2.2), ∀ (q3 : Q3 y3 M3), ∀ (h5 : (y3 : Int32) = 0), AW l (pI pg 232) P kc ks 67 [(6, .int ((nI b) + Int32.ofInt 1)), (5, .int (m)), (3, .int (nI a)), (2, .int (v)), (1, .int (x)), (0, .ref 58)] [] SHF M3) (Q7 : Int32 → aM → Int32 → aM → Prop) (c8 : ∀ (h1 : ¬ ((M.1 58 1 : Int32) < (nI b : Int32))), ∀ (y3 : Int32), ∀ (M3 : aM), ∀ (e3 : M3.2.2 = M.2.2), ∀ (q3 : Q3 y3 M3), ∀ (h5 : ¬ ((y3 : Int32) = 0)), AC l (pI pg 234) (fcI M3 (Q7 y3 M3)) 0 0 [.ref 58, .int (nI b)] SHF M3) (k10 : ∀ (h1 : ¬ ((M.1 58 1 : Int32) < (nI b : Int32))), ∀ (y3 : Int32), ∀ (M3 : aM), ∀ (e3 : M3.2.2 = M.2.2), ∀ (q3 : Q3 y3 M3), ∀ (h5 : ¬ ((y3 : Int32) = 0)), ∀ (y7 : Int32), ∀ (M7 : aM), ∀ (e7 : M7.2.2 = M3.2.2), ∀ (q7 : (Q7 y3 M3) y7 M7), ∀ (h9 : (y7 : Int32) ≤ (m : Int32)), AW l (pI pg 232) P kc ks 67 [(6, .int ((nI b) + Int32.ofInt 1)), (5, .int (m)), (3, .int (nI a)), (2, .int (v)), (1, .int (x)), (0, .ref 58)] [] SHF M7) (Q11 : Int32 → aM → Int32 → aM → Int32 → aM → Prop) (c12 : ∀ (h1 : ¬ ((M.1 58 1 : Int32) < (nI b : Int32))), ∀ (y3 : Int32), ∀ (M3 : aM), ∀ (e3 : M3.2.2 = M.2.2), ∀ (q3 : Q3 y3 M3), ∀ (h5 : ¬ ((y3 : Int32) = 0)), ∀ (y7 : Int32), ∀ (M7 : aM), ∀ (e7 : M7.2.2 = M3.2.2), ∀ (q7 : (Q7 y3 M3) y7 M7), ∀ (h9 : ¬ ((y7 : Int32) ≤ (m : Int32))), AC l (pI pg 234) (fcI M7 (Q11 y3 M3 y7 M7)) 0 0 [.ref 58, .int (nI b)] SHF M7) (k13 : ∀ (h1 : ¬ ((M.1 58 1 : Int32) < (nI b : Int32))), ∀ (y3 : Int32), ∀ (M3 : aM), ∀ (e3 : M3.2.2 = M.2.2), ∀ (q3 : Q3 y3 M3), ∀ (h5 : ¬ ((y3 : Int32) = 0)), ∀ (y7 : Int32), ∀ (M7 : aM), ∀ (e7 : M7.2.2 = M3.2.2), ∀ (q7 : (Q7 y3 M3) y7 M7), ∀ (h9 : ¬ ((y7 : Int32) ≤ (m : Int32))), ∀ (y11 : Int32), ∀ (M11 : aM), ∀ (e11 : M11.2.2 = M7.2.2), ∀ (q11 : (Q11 y3 M3 y7 M7) y11 M11), AW l (pI pg 232) P kc ks 67 [(6, .int ((nI b) + Int32.ofInt 1)), (5, .int (y11)), (3, .int (nI a)), (2, .int (v)), (1, .int (x)), (0, .ref 58)] [] SHF M11) : AW l (pI pg 232) P kc ks 67 [(6, .int (nI b)), (5, .int (m)), (3, .int (nI a)), (2, .int (v)), (1, .int (x)), (0, .ref 58)] [] SHF M := by
  refine AW.iload (dq rfl) rfl ?_
  show AW l (pI pg 232) P kc ks 69 _ _ SHF _
  refine AW.aload_n (dq rfl) rfl rfl ?_
  show AW l (pI pg 232) P kc ks 70 _ _ SHF _
  refine fw_get (dq rfl) (pg_ok.2.1 232 _ _ _ _ rfl) rfl (v := .int (M.1 58 1)) rfl ?_
  show AW l (pI pg 232) P kc ks 73 _ _ SHF _
  refine AW.icmp_gt (dq rfl) (tgt := 117) (by decide) (fun h1 => ?_) (fun h1 => ?_)
  · have _ := h1
    refine AW.iload_n (dq rfl) rfl ?_
    show AW l (pI pg 232) P kc ks 118 _ _ SHF _
    refine AW.iload (dq rfl) rfl ?_
    show AW l (pI pg 232) P kc ks 120 _ _ SHF _
    refine AW.iadd (dq rfl) ?_
    show AW l (pI pg 232) P kc ks 121 _ _ SHF _
    refine AW.istore_n (dq rfl) (by decide +kernel) ?_
    show AW l (pI pg 232) P kc ks 122 [(2, .int ((v) + (m))), (6, .int (nI b)), (5, .int (m)), (3, .int (nI a)), (1, .int (x)), (0, .ref 58)] [] SHF _
    refine AW.iinc (dq rfl) rfl (by decide +kernel) ?_
    show AW l (pI pg 232) P kc ks 125 [(3, .int ((nI a) + Int32.ofInt 1)), (2, .int ((v) + (m))), (6, .int (nI b)), (5, .int (m)), (1, .int (x)), (0, .ref 58)] [] SHF _
    refine AW.goto (dq rfl) (tgt := 4) (by decide) ?_
    refine AW.drop (lv' := [(3, .int ((nI a) + Int32.ofInt 1)), (2, .int ((v) + (m))), (1, .int (x)), (0, .ref 58)]) (List.forall_mem_cons.mpr ⟨List.mem_of_getElem? (i := 0) rfl, List.forall_mem_cons.mpr ⟨List.mem_of_getElem? (i := 1) rfl, List.forall_mem_cons.mpr ⟨List.mem_of_getElem? (i := 4) rfl, List.forall_mem_cons.mpr ⟨List.mem_of_getElem? (i := 5) rfl, fun _ h => absurd h List.not_mem_nil⟩⟩⟩⟩) ?_
    exact k2 h1
  · have _ := h1
    refine AW.aload_n (dq rfl) rfl rfl ?_
    show AW l (pI pg 232) P kc ks 77 _ _ SHF _
    refine AW.iload_n (dq rfl) rfl ?_
    show AW l (pI pg 232) P kc ks 78 _ _ SHF _
    refine AW.iload (dq rfl) rfl ?_
    show AW l (pI pg 232) P kc ks 80 _ _ SHF _
    refine AW.iload_n (dq rfl) rfl ?_
    show AW l (pI pg 232) P kc ks 81 _ _ SHF _
    refine fw_callVI (as := [.int (nI a), .int (nI b), .int (x)]) (dq rfl) (pg_ok.2.2.1 232 _ _ _ _ rfl) rfl (by decide +kernel) rfl rfl (c4 h1) (fun y3 M3 e3 q3 => ?_)
    have hJ3 : ∀ e ∈ RM, M3.2.2 e.1 e.2.1 = e.2.2 := fun e he => by rw [e3]; exact hJ e he
    show AW l (pI pg 232) P kc ks 84 [(6, .int (nI b)), (5, .int (m)), (3, .int (nI a)), (2, .int (v)), (1, .int (x)), (0, .ref 58)] [.int (y3)] SHF _
    refine AW.if_eq (dq rfl) (tgt := 107) (by decide) (fun h5 => ?_) (fun h5 => ?_)
    · have _ := h5
      refine AW.iload (dq rfl) rfl ?_
      show AW l (pI pg 232) P kc ks 109 _ _ SHF _
      refine AW.istore (dq rfl) (by decide +kernel) ?_
      show AW l (pI pg 232) P kc ks 111 [(5, .int (m)), (6, .int (nI b)), (3, .int (nI a)), (2, .int (v)), (1, .int (x)), (0, .ref 58)] [] SHF _
      refine AW.iinc (dq rfl) rfl (by decide +kernel) ?_
      show AW l (pI pg 232) P kc ks 114 [(6, .int ((nI b) + Int32.ofInt 1)), (5, .int (m)), (3, .int (nI a)), (2, .int (v)), (1, .int (x)), (0, .ref 58)] [] SHF _
      refine AW.goto (dq rfl) (tgt := 67) (by decide) ?_
      refine AW.drop (lv' := [(6, .int ((nI b) + Int32.ofInt 1)), (5, .int (m)), (3, .int (nI a)), (2, .int (v)), (1, .int (x)), (0, .ref 58)]) (List.forall_mem_cons.mpr ⟨List.mem_of_getElem? (i := 0) rfl, List.forall_mem_cons.mpr ⟨List.mem_of_getElem? (i := 1) rfl, List.forall_mem_cons.mpr ⟨List.mem_of_getElem? (i := 2) rfl, List.forall_mem_cons.mpr ⟨List.mem_of_getElem? (i := 3) rfl, List.forall_mem_cons.mpr ⟨List.mem_of_getElem? (i := 4) rfl, List.forall_mem_cons.mpr ⟨List.mem_of_getElem? (i := 5) rfl, fun _ h => absurd h List.not_mem_nil⟩⟩⟩⟩⟩⟩) ?_
      exact k6 h1 y3 M3 e3 q3 h5
    · have _ := h5
      refine AW.aload_n (dq rfl) rfl rfl ?_
      show AW l (pI pg 232) P kc ks 88 _ _ SHF _
      refine AW.iload (dq rfl) rfl ?_
      show AW l (pI pg 232) P kc ks 90 _ _ SHF _
      refine fw_callVI (as := [.int (nI b)]) (dq rfl) (pg_ok.2.2.1 232 _ _ _ _ rfl) rfl (by decide +kernel) rfl rfl (c8 h1 y3 M3 e3 q3 h5) (fun y7 M7 e7 q7 => ?_)
      have hJ7 : ∀ e ∈ RM, M7.2.2 e.1 e.2.1 = e.2.2 := fun e he => by rw [e7]; exact hJ3 e he
      show AW l (pI pg 232) P kc ks 93 [(6, .int (nI b)), (5, .int (m)), (3, .int (nI a)), (2, .int (v)), (1, .int (x)), (0, .ref 58)] [.int (y7)] SHF _
      refine AW.iload (dq rfl) rfl ?_
      show AW l (pI pg 232) P kc ks 95 _ _ SHF _
      refine AW.icmp_le (dq rfl) (tgt := 107) (by decide) (fun h9 => ?_) (fun h9 => ?_)
      · have _ := h9
        refine AW.iload (dq rfl) rfl ?_
        show AW l (pI pg 232) P kc ks 109 _ _ SHF _
        refine AW.istore (dq rfl) (by decide +kernel) ?_
        show AW l (pI pg 232) P kc ks 111 [(5, .int (m)), (6, .int (nI b)), (3, .int (nI a)), (2, .int (v)), (1, .int (x)), (0, .ref 58)] [] SHF _
        refine AW.iinc (dq rfl) rfl (by decide +kernel) ?_
        show AW l (pI pg 232) P kc ks 114 [(6, .int ((nI b) + Int32.ofInt 1)), (5, .int (m)), (3, .int (nI a)), (2, .int (v)), (1, .int (x)), (0, .ref 58)] [] SHF _
        refine AW.goto (dq rfl) (tgt := 67) (by decide) ?_
        refine AW.drop (lv' := [(6, .int ((nI b) + Int32.ofInt 1)), (5, .int (m)), (3, .int (nI a)), (2, .int (v)), (1, .int (x)), (0, .ref 58)]) (List.forall_mem_cons.mpr ⟨List.mem_of_getElem? (i := 0) rfl, List.forall_mem_cons.mpr ⟨List.mem_of_getElem? (i := 1) rfl, List.forall_mem_cons.mpr ⟨List.mem_of_getElem? (i := 2) rfl, List.forall_mem_cons.mpr ⟨List.mem_of_getElem? (i := 3) rfl, List.forall_mem_cons.mpr ⟨List.mem_of_getElem? (i := 4) rfl, List.forall_mem_cons.mpr ⟨List.mem_of_getElem? (i := 5) rfl, fun _ h => absurd h List.not_mem_nil⟩⟩⟩⟩⟩⟩) ?_
        exact k10 h1 y3 M3 e3 q3 h5 y7 M7 e7 q7 h9
      · have _ := h9
        refine AW.aload_n (dq rfl) rfl rfl ?_
        show AW l (pI pg 232) P kc ks 99 _ _ SHF _
        refine AW.iload (dq rfl) rfl ?_
        show AW l (pI pg 232) P kc ks 101 _ _ SHF _
        refine fw_callVI (as := [.int (nI b)]) (dq rfl) (pg_ok.2.2.1 232 _ _ _ _ rfl) rfl (by decide +kernel) rfl rfl (c12 h1 y3 M3 e3 q3 h5 y7 M7 e7 q7 h9) (fun y11 M11 e11 q11 => ?_)
        have hJ11 : ∀ e ∈ RM, M11.2.2 e.1 e.2.1 = e.2.2 := fun e he => by rw [e11]; exact hJ7 e he
        show AW l (pI pg 232) P kc ks 104 [(6, .int (nI b)), (5, .int (m)), (3, .int (nI a)), (2, .int (v)), (1, .int (x)), (0, .ref 58)] [.int (y11)] SHF _
        refine AW.goto (dq rfl) (tgt := 109) (by decide) ?_
        refine AW.istore (dq rfl) (by decide +kernel) ?_
        show AW l (pI pg 232) P kc ks 111 [(5, .int (y11)), (6, .int (nI b)), (3, .int (nI a)), (2, .int (v)), (1, .int (x)), (0, .ref 58)] [] SHF _
        refine AW.iinc (dq rfl) rfl (by decide +kernel) ?_
        show AW l (pI pg 232) P kc ks 114 [(6, .int ((nI b) + Int32.ofInt 1)), (5, .int (y11)), (3, .int (nI a)), (2, .int (v)), (1, .int (x)), (0, .ref 58)] [] SHF _
        refine AW.goto (dq rfl) (tgt := 67) (by decide) ?_
        refine AW.drop (lv' := [(6, .int ((nI b) + Int32.ofInt 1)), (5, .int (y11)), (3, .int (nI a)), (2, .int (v)), (1, .int (x)), (0, .ref 58)]) (List.forall_mem_cons.mpr ⟨List.mem_of_getElem? (i := 0) rfl, List.forall_mem_cons.mpr ⟨List.mem_of_getElem? (i := 1) rfl, List.forall_mem_cons.mpr ⟨List.mem_of_getElem? (i := 2) rfl, List.forall_mem_cons.mpr ⟨List.mem_of_getElem? (i := 3) rfl, List.forall_mem_cons.mpr ⟨List.mem_of_getElem? (i := 4) rfl, List.forall_mem_cons.mpr ⟨List.mem_of_getElem? (i := 5) rfl, fun _ h => absurd h List.not_mem_nil⟩⟩⟩⟩⟩⟩) ?_
        exact k13 h1 y3 M3 e3 q3 h5 y7 M7 e7 q7 h9 y11 M11 e11 q11

theorem mlk_0 {l : aL} {P : aP} {kc ks : Nat} {x : Int32} {M : aM} (hJ : ∀ e ∈ RM, M.2.2 e.1 e.2.1 = e.2.2) (hl0 : l.1.stackTraces = false) (Q2 : Int32 → aM → Prop) (c3 : ∀ (h1 : (x : Int32) < 0), AC l (pI pg 175) (fcI (aset M 58 0 (.int (Int32.ofInt 0))) Q2) 0 0 [.ref 58, .int (Int32.ofInt 0), .int (Int32.ofInt 1)] SHF (aset M 58 0 (.int (Int32.ofInt 0)))) (Q5 : Int32 → aM → aM → Prop) (c6 : ∀ (h1 : (x : Int32) < 0), ∀ (y2 : Int32), ∀ (M2 : aM), ∀ (e2 : M2.2.2 = (aset M 58 0 (.int (Int32.ofInt 0))).2.2), ∀ (q2 : Q2 y2 M2), ∀ (h4 : ¬ (y2 : Int32) = 0), AC l (pI pg 231) (fcV M2 (Q5 y2 M2)) 0 0 [.ref 58] SHF M2) (Q7 : Int32 → aM → aM → Int32 → aM → Prop) (c8 : ∀ (h1 : (x : Int32) < 0), ∀ (y2 : Int32), ∀ (M2 : aM), ∀ (e2 : M2.2.2 = (aset M 58 0 (.int (Int32.ofInt 0))).2.2), ∀ (q2 : Q2 y2 M2), ∀ (h4 : ¬ (y2 : Int32) = 0), ∀ (M5 : aM), ∀ (e5 : M5.2.2 = M2.2.2), ∀ (q5 : (Q5 y2 M2) M5), AC l (pI pg 232) (fcI M5 (Q7 y2 M2 M5)) 0 0 [.ref 58, .int (x)] SHF M5) (r9 : ∀ (h1 : (x : Int32) < 0), ∀ (y2 : Int32), ∀ (M2 : aM), ∀ (e2 : M2.2.2 = (aset M 58 0 (.int (Int32.ofInt 0))).2.2), ∀ (q2 : Q2 y2 M2), ∀ (h4 : ¬ (y2 : Int32) = 0), ∀ (M5 : aM), ∀ (e5 : M5.2.2 = M2.2.2), ∀ (q5 : (Q5 y2 M2) M5), ∀ (y7 : Int32), ∀ (M7 : aM), ∀ (e7 : M7.2.2 = M5.2.2), ∀ (q7 : (Q7 y2 M2 M5) y7 M7), P (.inl (some (.int (y7)))) SHF M7) (r10 : ∀ (h1 : (x : Int32) < 0), ∀ (y2 : Int32), ∀ (M2 : aM), ∀ (e2 : M2.2.2 = (aset M 58 0 (.int (Int32.ofInt 0))).2.2), ∀ (q2 : Q2 y2 M2), ∀ (h4 : (y2 : Int32) = 0), P (.inl (some (.int (Int32.ofInt 0)))) SHF M2) (Q12 : Int32 → aM → Prop) (c13 : ∀ (h1 : ¬ ((x : Int32) < 0)), ∀ (h11 : ((Int32.ofInt 1) <<< (((aset M 58 0 (.int (Int32.ofInt 0))).1 58 2) &&& 31) : Int32) ≤ (x : Int32)), AC l (pI pg 175) (fcI (aset M 58 0 (.int (Int32.ofInt 0))) Q12) 0 0 [.ref 58, .int (Int32.ofInt 0), .int (Int32.ofInt 1)] SHF (aset M 58 0 (.int (Int32.ofInt 0)))) (Q15 : Int32 → aM → aM → Prop) (c16 : ∀ (h1 : ¬ ((x : Int32) < 0)), ∀ (h11 : ((Int32.ofInt 1) <<< (((aset M 58 0 (.int (Int32.ofInt 0))).1 58 2) &&& 31) : Int32) ≤ (x : Int32)), ∀ (y12 : Int32), ∀ (M12 : aM), ∀ (e12 : M12.2.2 = (aset M 58 0 (.int (Int32.ofInt 0))).2.2), ∀ (q12 : Q12 y12 M12), ∀ (h14 : ¬ (y12 : Int32) = 0), AC l (pI pg 231) (fcV M12 (Q15 y12 M12)) 0 0 [.ref 58] SHF M12) (Q17 : Int32 → aM → aM → Int32 → aM → Prop) (c18 : ∀ (h1 : ¬ ((x : Int32) < 0)), ∀ (h11 : ((Int32.ofInt 1) <<< (((aset M 58 0 (.int (Int32.ofInt 0))).1 58 2) &&& 31) : Int32) ≤ (x : Int32)), ∀ (y12 : Int32), ∀ (M12 : aM), ∀ (e12 : M12.2.2 = (aset M 58 0 (.int (Int32.ofInt 0))).2.2), ∀ (q12 : Q12 y12 M12), ∀ (h14 : ¬ (y12 : Int32) = 0), ∀ (M15 : aM), ∀ (e15 : M15.2.2 = M12.2.2), ∀ (q15 : (Q15 y12 M12) M15), AC l (pI pg 232) (fcI M15 (Q17 y12 M12 M15)) 0 0 [.ref 58, .int (x)] SHF M15) (r19 : ∀ (h1 : ¬ ((x : Int32) < 0)), ∀ (h11 : ((Int32.ofInt 1) <<< (((aset M 58 0 (.int (Int32.ofInt 0))).1 58 2) &&& 31) : Int32) ≤ (x : Int32)), ∀ (y12 : Int32), ∀ (M12 : aM), ∀ (e12 : M12.2.2 = (aset M 58 0 (.int (Int32.ofInt 0))).2.2), ∀ (q12 : Q12 y12 M12), ∀ (h14 : ¬ (y12 : Int32) = 0), ∀ (M15 : aM), ∀ (e15 : M15.2.2 = M12.2.2), ∀ (q15 : (Q15 y12 M12) M15), ∀ (y17 : Int32), ∀ (M17 : aM), ∀ (e17 : M17.2.2 = M15.2.2), ∀ (q17 : (Q17 y12 M12 M15) y17 M17), P (.inl (some (.int (y17)))) SHF M17) (r20 : ∀ (h1 : ¬ ((x : Int32) < 0)), ∀ (h11 : ((Int32.ofInt 1) <<< (((aset M 58 0 (.int (Int32.ofInt 0))).1 58 2) &&& 31) : Int32) ≤ (x : Int32)), ∀ (y12 : Int32), ∀ (M12 : aM), ∀ (e12 : M12.2.2 = (aset M 58 0 (.int (Int32.ofInt 0))).2.2), ∀ (q12 : Q12 y12 M12), ∀ (h14 : (y12 : Int32) = 0), P (.inl (some (.int (Int32.ofInt 0)))) SHF M12) (Q21 : Int32 → aM → Prop) (c22 : ∀ (h1 : ¬ ((x : Int32) < 0)), ∀ (h11 : ¬ (((Int32.ofInt 1) <<< (((aset M 58 0 (.int (Int32.ofInt 0))).1 58 2) &&& 31) : Int32) ≤ (x : Int32))), AC l (pI pg 175) (fcI (aset M 58 0 (.int (Int32.ofInt 0))) Q21) 0 0 [.ref 58, .int (Int32.ofInt 1), .int (Int32.ofInt 1)] SHF (aset M 58 0 (.int (Int32.ofInt 0)))) (Q24 : Int32 → aM → aM → Prop) (c25 : ∀ (h1 : ¬ ((x : Int32) < 0)), ∀ (h11 : ¬ (((Int32.ofInt 1) <<< (((aset M 58 0 (.int (Int32.ofInt 0))).1 58 2) &&& 31) : Int32) ≤ (x : Int32))), ∀ (y21 : Int32), ∀ (M21 : aM), ∀ (e21 : M21.2.2 = (aset M 58 0 (.int (Int32.ofInt 0))).2.2), ∀ (q21 : Q21 y21 M21), ∀ (h23 : ¬ (y21 : Int32) = 0), AC l (pI pg 231) (fcV M21 (Q24 y21 M21)) 0 0 [.ref 58] SHF M21) (Q26 : Int32 → aM → aM → Int32 → aM → Prop) (c27 : ∀ (h1 : ¬ ((x : Int32) < 0)), ∀ (h11 : ¬ (((Int32.ofInt 1) <<< (((aset M 58 0 (.int (Int32.ofInt 0))).1 58 2) &&& 31) : Int32) ≤ (x : Int32))), ∀ (y21 : Int32), ∀ (M21 : aM), ∀ (e21 : M21.2.2 = (aset M 58 0 (.int (Int32.ofInt 0))).2.2), ∀ (q21 : Q21 y21 M21), ∀ (h23 : ¬ (y21 : Int32) = 0), ∀ (M24 : aM), ∀ (e24 : M24.2.2 = M21.2.2), ∀ (q24 : (Q24 y21 M21) M24), AC l (pI pg 232) (fcI M24 (Q26 y21 M21 M24)) 0 0 [.ref 58, .int (x)] SHF M24) (r28 : ∀ (h1 : ¬ ((x : Int32) < 0)), ∀ (h11 : ¬ (((Int32.ofInt 1) <<< (((aset M 58 0 (.int (Int32.ofInt 0))).1 58 2) &&& 31) : Int32) ≤ (x : Int32))), ∀ (y21 : Int32), ∀ (M21 : aM), ∀ (e21 : M21.2.2 = (aset M 58 0 (.int (Int32.ofInt 0))).2.2), ∀ (q21 : Q21 y21 M21), ∀ (h23 : ¬ (y21 : Int32) = 0), ∀ (M24 : aM), ∀ (e24 : M24.2.2 = M21.2.2), ∀ (q24 : (Q24 y21 M21) M24), ∀ (y26 : Int32), ∀ (M26 : aM), ∀ (e26 : M26.2.2 = M24.2.2), ∀ (q26 : (Q26 y21 M21 M24) y26 M26), P (.inl (some (.int (y26)))) SHF M26) (r29 : ∀ (h1 : ¬ ((x : Int32) < 0)), ∀ (h11 : ¬ (((Int32.ofInt 1) <<< (((aset M 58 0 (.int (Int32.ofInt 0))).1 58 2) &&& 31) : Int32) ≤ (x : Int32))), ∀ (y21 : Int32), ∀ (M21 : aM), ∀ (e21 : M21.2.2 = (aset M 58 0 (.int (Int32.ofInt 0))).2.2), ∀ (q21 : Q21 y21 M21), ∀ (h23 : (y21 : Int32) = 0), P (.inl (some (.int (Int32.ofInt 0)))) SHF M21) : AW l (pI pg 230) P kc ks 0 [(0, .ref 58), (1, .int (x))] [] SHF M := by
  refine AW.aload_n (dq rfl) rfl rfl ?_
  show AW l (pI pg 230) P kc ks 1 _ _ SHF _
  refine AW.iconst (dq rfl) ?_
  show AW l (pI pg 230) P kc ks 2 _ _ SHF _
  refine fw_putI (dq rfl) (pg_ok.2.1 230 _ _ _ _ rfl) rfl rfl rfl ?_
  show AW l (pI pg 230) P kc ks 5 _ _ SHF _
  refine AW.aload_n (dq rfl) rfl rfl ?_
  show AW l (pI pg 230) P kc ks 6 _ _ SHF _
  refine AW.iload_n (dq rfl) rfl ?_
  show AW l (pI pg 230) P kc ks 7 _ _ SHF _
  refine AW.if_lt (dq rfl) (tgt := 24) (by decide) (fun h1 => ?_) (fun h1 => ?_)
  · have _ := h1
    refine AW.iconst (dq rfl) ?_
    show AW l (pI pg 230) P kc ks 25 _ _ SHF _
    refine AW.iconst (dq rfl) ?_
    show AW l (pI pg 230) P kc ks 26 _ _ SHF _
    refine fw_callVI (as := [.int (Int32.ofInt 0), .int (Int32.ofInt 1)]) (dq rfl) (pg_ok.2.2.1 230 _ _ _ _ rfl) rfl (by decide +kernel) rfl rfl (c3 h1) (fun y2 M2 e2 q2 => ?_)
    have hJ2 : ∀ e ∈ RM, M2.2.2 e.1 e.2.1 = e.2.2 := fun e he => by rw [e2]; exact hJ e he
    show AW l (pI pg 230) P kc ks 29 [(0, .ref 58), (1, .int (x))] [.int (y2)] SHF _
    refine AW.if_ne (dq rfl) (tgt := 34) (by decide) (fun h4 => ?_) (fun h4 => ?_)
    · have _ := h4
      refine AW.aload_n (dq rfl) rfl rfl ?_
      show AW l (pI pg 230) P kc ks 35 _ _ SHF _
      refine fw_callVV (as := []) (dq rfl) (pg_ok.2.2.1 230 _ _ _ _ rfl) rfl (by decide +kernel) rfl rfl (c6 h1 y2 M2 e2 q2 h4) (fun M5 e5 q5 => ?_)
      have hJ5 : ∀ e ∈ RM, M5.2.2 e.1 e.2.1 = e.2.2 := fun e he => by rw [e5]; exact hJ2 e he
      show AW l (pI pg 230) P kc ks 38 [(0, .ref 58), (1, .int (x))] [] SHF _
      refine AW.aload_n (dq rfl) rfl rfl ?_
      show AW l (pI pg 230) P kc ks 39 _ _ SHF _
      refine AW.iload_n (dq rfl) rfl ?_
      show AW l (pI pg 230) P kc ks 40 _ _ SHF _
      refine fw_callVI (as := [.int (x)]) (dq rfl) (pg_ok.2.2.1 230 _ _ _ _ rfl) rfl (by decide +kernel) rfl rfl (c8 h1 y2 M2 e2 q2 h4 M5 e5 q5) (fun y7 M7 e7 q7 => ?_)
      have hJ7 : ∀ e ∈ RM, M7.2.2 e.1 e.2.1 = e.2.2 := fun e he => by rw [e7]; exact hJ5 e he
      show AW l (pI pg 230) P kc ks 43 [(0, .ref 58), (1, .int (x))] [.int (y7)] SHF _
      refine AW.iret (dq rfl) rfl ?_
      exact r9 h1 y2 M2 e2 q2 h4 M5 e5 q5 y7 M7 e7 q7
    · have _ := h4
      refine AW.iconst (dq rfl) ?_
      show AW l (pI pg 230) P kc ks 33 _ _ SHF _
      refine AW.iret (dq rfl) rfl ?_
      exact r10 h1 y2 M2 e2 q2 h4
  · have _ := h1
    refine AW.iload_n (dq rfl) rfl ?_
    show AW l (pI pg 230) P kc ks 11 _ _ SHF _
    refine AW.iconst (dq rfl) ?_
    show AW l (pI pg 230) P kc ks 12 _ _ SHF _
    refine AW.aload_n (dq rfl) rfl rfl ?_
    show AW l (pI pg 230) P kc ks 13 _ _ SHF _
    refine fw_get (dq rfl) (pg_ok.2.1 230 _ _ _ _ rfl) rfl (v := .int ((aset M 58 0 (.int (Int32.ofInt 0))).1 58 2)) rfl ?_
    show AW l (pI pg 230) P kc ks 16 _ _ SHF _
    refine AW.ishl (dq rfl) ?_
    show AW l (pI pg 230) P kc ks 17 _ _ SHF _
    refine AW.icmp_ge (dq rfl) (tgt := 24) (by decide) (fun h11 => ?_) (fun h11 => ?_)
    · have _ := h11
      refine AW.iconst (dq rfl) ?_
      show AW l (pI pg 230) P kc ks 25 _ _ SHF _
      refine AW.iconst (dq rfl) ?_
      show AW l (pI pg 230) P kc ks 26 _ _ SHF _
      refine fw_callVI (as := [.int (Int32.ofInt 0), .int (Int32.ofInt 1)]) (dq rfl) (pg_ok.2.2.1 230 _ _ _ _ rfl) rfl (by decide +kernel) rfl rfl (c13 h1 h11) (fun y12 M12 e12 q12 => ?_)
      have hJ12 : ∀ e ∈ RM, M12.2.2 e.1 e.2.1 = e.2.2 := fun e he => by rw [e12]; exact hJ e he
      show AW l (pI pg 230) P kc ks 29 [(0, .ref 58), (1, .int (x))] [.int (y12)] SHF _
      refine AW.if_ne (dq rfl) (tgt := 34) (by decide) (fun h14 => ?_) (fun h14 => ?_)
      · have _ := h14
        refine AW.aload_n (dq rfl) rfl rfl ?_
        show AW l (pI pg 230) P kc ks 35 _ _ SHF _
        refine fw_callVV (as := []) (dq rfl) (pg_ok.2.2.1 230 _ _ _ _ rfl) rfl (by decide +kernel) rfl rfl (c16 h1 h11 y12 M12 e12 q12 h14) (fun M15 e15 q15 => ?_)
        have hJ15 : ∀ e ∈ RM, M15.2.2 e.1 e.2.1 = e.2.2 := fun e he => by rw [e15]; exact hJ12 e he
        show AW l (pI pg 230) P kc ks 38 [(0, .ref 58), (1, .int (x))] [] SHF _
        refine AW.aload_n (dq rfl) rfl rfl ?_
        show AW l (pI pg 230) P kc ks 39 _ _ SHF _
        refine AW.iload_n (dq rfl) rfl ?_
        show AW l (pI pg 230) P kc ks 40 _ _ SHF _
        refine fw_callVI (as := [.int (x)]) (dq rfl) (pg_ok.2.2.1 230 _ _ _ _ rfl) rfl (by decide +kernel) rfl rfl (c18 h1 h11 y12 M12 e12 q12 h14 M15 e15 q15) (fun y17 M17 e17 q17 => ?_)
        have hJ17 : ∀ e ∈ RM, M17.2.2 e.1 e.2.1 = e.2.2 := fun e he => by rw [e17]; exact hJ15 e he
        show AW l (pI pg 230) P kc ks 43 [(0, .ref 58), (1, .int (x))] [.int (y17)] SHF _
        refine AW.iret (dq rfl) rfl ?_
        exact r19 h1 h11 y12 M12 e12 q12 h14 M15 e15 q15 y17 M17 e17 q17
      · have _ := h14
        refine AW.iconst (dq rfl) ?_
        show AW l (pI pg 230) P kc ks 33 _ _ SHF _
        refine AW.iret (dq rfl) rfl ?_
        exact r20 h1 h11 y12 M12 e12 q12 h14
    · have _ := h11
      refine AW.iconst (dq rfl) ?_
      show AW l (pI pg 230) P kc ks 21 _ _ SHF _
      refine AW.goto (dq rfl) (tgt := 25) (by decide) ?_
      refine AW.iconst (dq rfl) ?_
      show AW l (pI pg 230) P kc ks 26 _ _ SHF _
      refine fw_callVI (as := [.int (Int32.ofInt 1), .int (Int32.ofInt 1)]) (dq rfl) (pg_ok.2.2.1 230 _ _ _ _ rfl) rfl (by decide +kernel) rfl rfl (c22 h1 h11) (fun y21 M21 e21 q21 => ?_)
      have hJ21 : ∀ e ∈ RM, M21.2.2 e.1 e.2.1 = e.2.2 := fun e he => by rw [e21]; exact hJ e he
      show AW l (pI pg 230) P kc ks 29 [(0, .ref 58), (1, .int (x))] [.int (y21)] SHF _
      refine AW.if_ne (dq rfl) (tgt := 34) (by decide) (fun h23 => ?_) (fun h23 => ?_)
      · have _ := h23
        refine AW.aload_n (dq rfl) rfl rfl ?_
        show AW l (pI pg 230) P kc ks 35 _ _ SHF _
        refine fw_callVV (as := []) (dq rfl) (pg_ok.2.2.1 230 _ _ _ _ rfl) rfl (by decide +kernel) rfl rfl (c25 h1 h11 y21 M21 e21 q21 h23) (fun M24 e24 q24 => ?_)
        have hJ24 : ∀ e ∈ RM, M24.2.2 e.1 e.2.1 = e.2.2 := fun e he => by rw [e24]; exact hJ21 e he
        show AW l (pI pg 230) P kc ks 38 [(0, .ref 58), (1, .int (x))] [] SHF _
        refine AW.aload_n (dq rfl) rfl rfl ?_
        show AW l (pI pg 230) P kc ks 39 _ _ SHF _
        refine AW.iload_n (dq rfl) rfl ?_
        show AW l (pI pg 230) P kc ks 40 _ _ SHF _
        refine fw_callVI (as := [.int (x)]) (dq rfl) (pg_ok.2.2.1 230 _ _ _ _ rfl) rfl (by decide +kernel) rfl rfl (c27 h1 h11 y21 M21 e21 q21 h23 M24 e24 q24) (fun y26 M26 e26 q26 => ?_)
        have hJ26 : ∀ e ∈ RM, M26.2.2 e.1 e.2.1 = e.2.2 := fun e he => by rw [e26]; exact hJ24 e he
        show AW l (pI pg 230) P kc ks 43 [(0, .ref 58), (1, .int (x))] [.int (y26)] SHF _
        refine AW.iret (dq rfl) rfl ?_
        exact r28 h1 h11 y21 M21 e21 q21 h23 M24 e24 q24 y26 M26 e26 q26
      · have _ := h23
        refine AW.iconst (dq rfl) ?_
        show AW l (pI pg 230) P kc ks 33 _ _ SHF _
        refine AW.iret (dq rfl) rfl ?_
        exact r29 h1 h11 y21 M21 e21 q21 h23

theorem mbs_0 {l : aL} {P : aP} {kc ks : Nat} {x : Int32} {M : aM} (hJ : ∀ e ∈ RM, M.2.2 e.1 e.2.1 = e.2.2) (hl0 : l.1.stackTraces = false) (Q1 : Int32 → aM → Prop) (c2 : AC l (pI pg 195) (fcI (aset M 58 0 (.int (Int32.ofInt 0))) Q1) 0 0 [.int (x), .int (Int32.ofInt 0), .int ((aset M 58 0 (.int (Int32.ofInt 0))).1 58 2)] SHF (aset M 58 0 (.int (Int32.ofInt 0)))) (Q3 : Int32 → aM → Int32 → aM → Prop) (c4 : ∀ (y1 : Int32), ∀ (M1 : aM), ∀ (e1 : M1.2.2 = (aset M 58 0 (.int (Int32.ofInt 0))).2.2), ∀ (q1 : Q1 y1 M1), AC l (pI pg 175) (fcI M1 (Q3 y1 M1)) 0 0 [.ref 58, .int (y1), .int (Int32.ofInt 1)] SHF M1) (Q6 : Int32 → aM → Int32 → aM → aM → Prop) (c7 : ∀ (y1 : Int32), ∀ (M1 : aM), ∀ (e1 : M1.2.2 = (aset M 58 0 (.int (Int32.ofInt 0))).2.2), ∀ (q1 : Q1 y1 M1), ∀ (y3 : Int32), ∀ (M3 : aM), ∀ (e3 : M3.2.2 = M1.2.2), ∀ (q3 : (Q3 y1 M1) y3 M3), ∀ (h5 : ¬ (y3 : Int32) = 0), AC l (pI pg 231) (fcV M3 (Q6 y1 M1 y3 M3)) 0 0 [.ref 58] SHF M3) (k8 : ∀ (y1 : Int32), ∀ (M1 : aM), ∀ (e1 : M1.2.2 = (aset M 58 0 (.int (Int32.ofInt 0))).2.2), ∀ (q1 : Q1 y1 M1), ∀ (y3 : Int32), ∀ (M3 : aM), ∀ (e3 : M3.2.2 = M1.2.2), ∀ (q3 : (Q3 y1 M1) y3 M3), ∀ (h5 : ¬ (y3 : Int32) = 0), ∀ (M6 : aM), ∀ (e6 : M6.2.2 = M3.2.2), ∀ (q6 : (Q6 y1 M1 y3 M3) M6), AW l (pI pg 235) P kc ks 32 [(3, .int (Int32.ofInt 0)), (2, .int (Int32.ofInt (-1))), (1, .int (x)), (0, .ref 58)] [] SHF M6) (r9 : ∀ (y1 : Int32), ∀ (M1 : aM), ∀ (e1 : M1.2.2 = (aset M 58 0 (.int (Int32.ofInt 0))).2.2), ∀ (q1 : Q1 y1 M1), ∀ (y3 : Int32), ∀ (M3 : aM), ∀ (e3 : M3.2.2 = M1.2.2), ∀ (q3 : (Q3 y1 M1) y3 M3), ∀ (h5 : (y3 : Int32) = 0), P (.inl (some (.int (Int32.ofInt 0)))) SHF M3) : AW l (pI pg 235) P kc ks 0 [(0, .ref 58), (1, .int (x))] [] SHF M := by
  refine AW.aload_n (dq rfl) rfl rfl ?_
  show AW l (pI pg 235) P kc ks 1 _ _ SHF _
  refine AW.iconst (dq rfl) ?_
  show AW l (pI pg 235) P kc ks 2 _ _ SHF _
  refine fw_putI (dq rfl) (pg_ok.2.1 235 _ _ _ _ rfl) rfl rfl rfl ?_
  show AW l (pI pg 235) P kc ks 5 _ _ SHF _
  refine AW.aload_n (dq rfl) rfl rfl ?_
  show AW l (pI pg 235) P kc ks 6 _ _ SHF _
  refine AW.iload_n (dq rfl) rfl ?_
  show AW l (pI pg 235) P kc ks 7 _ _ SHF _
  refine AW.iconst (dq rfl) ?_
  show AW l (pI pg 235) P kc ks 8 _ _ SHF _
  refine AW.aload_n (dq rfl) rfl rfl ?_
  show AW l (pI pg 235) P kc ks 9 _ _ SHF _
  refine fw_get (dq rfl) (pg_ok.2.1 235 _ _ _ _ rfl) rfl (v := .int ((aset M 58 0 (.int (Int32.ofInt 0))).1 58 2)) rfl ?_
  show AW l (pI pg 235) P kc ks 12 _ _ SHF _
  refine fw_callSI (as := [.int (x), .int (Int32.ofInt 0), .int ((aset M 58 0 (.int (Int32.ofInt 0))).1 58 2)]) (dq rfl) (pg_ok.2.2.1 235 _ _ _ _ rfl) (by decide +kernel) rfl rfl (c2) (fun y1 M1 e1 q1 => ?_)
  have hJ1 : ∀ e ∈ RM, M1.2.2 e.1 e.2.1 = e.2.2 := fun e he => by rw [e1]; exact hJ e he
  show AW l (pI pg 235) P kc ks 15 [(0, .ref 58), (1, .int (x))] [.int (y1), .ref 58] SHF _
  refine AW.iconst (dq rfl) ?_
  show AW l (pI pg 235) P kc ks 16 _ _ SHF _
  refine fw_callVI (as := [.int (y1), .int (Int32.ofInt 1)]) (dq rfl) (pg_ok.2.2.1 235 _ _ _ _ rfl) rfl (by decide +kernel) rfl rfl (c4 y1 M1 e1 q1) (fun y3 M3 e3 q3 => ?_)
  have hJ3 : ∀ e ∈ RM, M3.2.2 e.1 e.2.1 = e.2.2 := fun e he => by rw [e3]; exact hJ1 e he
  show AW l (pI pg 235) P kc ks 19 [(0, .ref 58), (1, .int (x))] [.int (y3)] SHF _
  refine AW.if_ne (dq rfl) (tgt := 24) (by decide) (fun h5 => ?_) (fun h5 => ?_)
  · have _ := h5
    refine AW.aload_n (dq rfl) rfl rfl ?_
    show AW l (pI pg 235) P kc ks 25 _ _ SHF _
    refine fw_callVV (as := []) (dq rfl) (pg_ok.2.2.1 235 _ _ _ _ rfl) rfl (by decide +kernel) rfl rfl (c7 y1 M1 e1 q1 y3 M3 e3 q3 h5) (fun M6 e6 q6 => ?_)
    have hJ6 : ∀ e ∈ RM, M6.2.2 e.1 e.2.1 = e.2.2 := fun e he => by rw [e6]; exact hJ3 e he
    show AW l (pI pg 235) P kc ks 28 [(0, .ref 58), (1, .int (x))] [] SHF _
    refine AW.iconst (dq rfl) ?_
    show AW l (pI pg 235) P kc ks 29 _ _ SHF _
    refine AW.istore_n (dq rfl) (by decide +kernel) ?_
    show AW l (pI pg 235) P kc ks 30 [(2, .int (Int32.ofInt (-1))), (0, .ref 58), (1, .int (x))] [] SHF _
    refine AW.iconst (dq rfl) ?_
    show AW l (pI pg 235) P kc ks 31 _ _ SHF _
    refine AW.istore_n (dq rfl) (by decide +kernel) ?_
    show AW l (pI pg 235) P kc ks 32 [(3, .int (Int32.ofInt 0)), (2, .int (Int32.ofInt (-1))), (0, .ref 58), (1, .int (x))] [] SHF _
    refine AW.drop (lv' := [(3, .int (Int32.ofInt 0)), (2, .int (Int32.ofInt (-1))), (1, .int (x)), (0, .ref 58)]) (List.forall_mem_cons.mpr ⟨List.mem_of_getElem? (i := 0) rfl, List.forall_mem_cons.mpr ⟨List.mem_of_getElem? (i := 1) rfl, List.forall_mem_cons.mpr ⟨List.mem_of_getElem? (i := 3) rfl, List.forall_mem_cons.mpr ⟨List.mem_of_getElem? (i := 2) rfl, fun _ h => absurd h List.not_mem_nil⟩⟩⟩⟩) ?_
    exact k8 y1 M1 e1 q1 y3 M3 e3 q3 h5 M6 e6 q6
  · have _ := h5
    refine AW.iconst (dq rfl) ?_
    show AW l (pI pg 235) P kc ks 23 _ _ SHF _
    refine AW.iret (dq rfl) rfl ?_
    exact r9 y1 M1 e1 q1 y3 M3 e3 q3 h5

theorem mbs_32 {l : aL} {P : aP} {kc ks : Nat} {s : Nat} {g x : Int32} {M : aM} (hJ : ∀ e ∈ RM, M.2.2 e.1 e.2.1 = e.2.2) (hl0 : l.1.stackTraces = false) (r2 : ∀ (h1 : ((Int32.ofInt 1) <<< ((M.1 58 2) &&& 31) : Int32) ≤ (nI s : Int32)), P (.inl (some (.int (g)))) SHF M) (Q3 : Int32 → aM → Prop) (c4 : ∀ (h1 : ¬ (((Int32.ofInt 1) <<< ((M.1 58 2) &&& 31) : Int32) ≤ (nI s : Int32))), AC l (pI pg 217) (fcI M Q3) 0 0 [.int (nI s)] SHF M) (k6 : ∀ (h1 : ¬ (((Int32.ofInt 1) <<< ((M.1 58 2) &&& 31) : Int32) ≤ (nI s : Int32))), ∀ (y3 : Int32), ∀ (M3 : aM), ∀ (e3 : M3.2.2 = M.2.2), ∀ (q3 : Q3 y3 M3), ∀ (h5 : ¬ (y3 : Int32) = (x : Int32)), AW l (pI pg 235) P kc ks 32 [(3, .int ((nI s) + Int32.ofInt 1)), (2, .int (g)), (1, .int (x)), (0, .ref 58)] [] SHF M3) (k8 : ∀ (h1 : ¬ (((Int32.ofInt 1) <<< ((M.1 58 2) &&& 31) : Int32) ≤ (nI s : Int32))), ∀ (y3 : Int32), ∀ (M3 : aM), ∀ (e3 : M3.2.2 = M.2.2), ∀ (q3 : Q3 y3 M3), ∀ (h5 : (y3 : Int32) = (x : Int32)), ∀ (h7 : (g : Int32) = (Int32.ofInt (-1) : Int32)), AW l (pI pg 235) P kc ks 32 [(3, .int ((nI s) + Int32.ofInt 1)), (2, .int (nI s)), (1, .int (x)), (0, .ref 58)] [] SHF M3) (Q9 : Int32 → aM → Int32 → aM → Prop) (c10 : ∀ (h1 : ¬ (((Int32.ofInt 1) <<< ((M.1 58 2) &&& 31) : Int32) ≤ (nI s : Int32))), ∀ (y3 : Int32), ∀ (M3 : aM), ∀ (e3 : M3.2.2 = M.2.2), ∀ (q3 : Q3 y3 M3), ∀ (h5 : (y3 : Int32) = (x : Int32)), ∀ (h7 : ¬ ((g : Int32) = (Int32.ofInt (-1) : Int32))), AC l (pI pg 232) (fcI M3 (Q9 y3 M3)) 0 0 [.ref 58, .int (nI s)] SHF M3) (Q11 : Int32 → aM → Int32 → aM → Int32 → aM → Prop) (c12 : ∀ (h1 : ¬ (((Int32.ofInt 1) <<< ((M.1 58 2) &&& 31) : Int32) ≤ (nI s : Int32))), ∀ (y3 : Int32), ∀ (M3 : aM), ∀ (e3 : M3.2.2 = M.2.2), ∀ (q3 : Q3 y3 M3), ∀ (h5 : (y3 : Int32) = (x : Int32)), ∀ (h7 : ¬ ((g : Int32) = (Int32.ofInt (-1) : Int32))), ∀ (y9 : Int32), ∀ (M9 : aM), ∀ (e9 : M9.2.2 = M3.2.2), ∀ (q9 : (Q9 y3 M3) y9 M9), AC l (pI pg 232) (fcI M9 (Q11 y3 M3 y9 M9)) 0 0 [.ref 58, .int (g)] SHF M9) (k14 : ∀ (h1 : ¬ (((Int32.ofInt 1) <<< ((M.1 58 2) &&& 31) : Int32) ≤ (nI s : Int32))), ∀ (y3 : Int32), ∀ (M3 : aM), ∀ (e3 : M3.2.2 = M.2.2), ∀ (q3 : Q3 y3 M3), ∀ (h5 : (y3 : Int32) = (x : Int32)), ∀ (h7 : ¬ ((g : Int32) = (Int32.ofInt (-1) : Int32))), ∀ (y9 : Int32), ∀ (M9 : aM), ∀ (e9 : M9.2.2 = M3.2.2), ∀ (q9 : (Q9 y3 M3) y9 M9), ∀ (y11 : Int32), ∀ (M11 : aM), ∀ (e11 : M11.2.2 = M9.2.2), ∀ (q11 : (Q11 y3 M3 y9 M9) y11 M11), ∀ (h13 : (y9 : Int32) ≤ (y11 : Int32)), AW l (pI pg 235) P kc ks 32 [(3, .int ((nI s) + Int32.ofInt 1)), (2, .int (g)), (1, .int (x)), (0, .ref 58)] [] SHF M11) (k15 : ∀ (h1 : ¬ (((Int32.ofInt 1) <<< ((M.1 58 2) &&& 31) : Int32) ≤ (nI s : Int32))), ∀ (y3 : Int32), ∀ (M3 : aM), ∀ (e3 : M3.2.2 = M.2.2), ∀ (q3 : Q3 y3 M3), ∀ (h5 : (y3 : Int32) = (x : Int32)), ∀ (h7 : ¬ ((g : Int32) = (Int32.ofInt (-1) : Int32))), ∀ (y9 : Int32), ∀ (M9 : aM), ∀ (e9 : M9.2.2 = M3.2.2), ∀ (q9 : (Q9 y3 M3) y9 M9), ∀ (y11 : Int32), ∀ (M11 : aM), ∀ (e11 : M11.2.2 = M9.2.2), ∀ (q11 : (Q11 y3 M3 y9 M9) y11 M11), ∀ (h13 : ¬ ((y9 : Int32) ≤ (y11 : Int32))), AW l (pI pg 235) P kc ks 32 [(3, .int ((nI s) + Int32.ofInt 1)), (2, .int (nI s)), (1, .int (x)), (0, .ref 58)] [] SHF M11) : AW l (pI pg 235) P kc ks 32 [(3, .int (nI s)), (2, .int (g)), (1, .int (x)), (0, .ref 58)] [] SHF M := by
  refine AW.iload_n (dq rfl) rfl ?_
  show AW l (pI pg 235) P kc ks 33 _ _ SHF _
  refine AW.iconst (dq rfl) ?_
  show AW l (pI pg 235) P kc ks 34 _ _ SHF _
  refine AW.aload_n (dq rfl) rfl rfl ?_
  show AW l (pI pg 235) P kc ks 35 _ _ SHF _
  refine fw_get (dq rfl) (pg_ok.2.1 235 _ _ _ _ rfl) rfl (v := .int (M.1 58 2)) rfl ?_
  show AW l (pI pg 235) P kc ks 38 _ _ SHF _
  refine AW.ishl (dq rfl) ?_
  show AW l (pI pg 235) P kc ks 39 _ _ SHF _
  refine AW.icmp_ge (dq rfl) (tgt := 76) (by decide) (fun h1 => ?_) (fun h1 => ?_)
  · have _ := h1
    refine AW.iload_n (dq rfl) rfl ?_
    show AW l (pI pg 235) P kc ks 77 _ _ SHF _
    refine AW.iret (dq rfl) rfl ?_
    exact r2 h1
  · have _ := h1
    refine AW.iload_n (dq rfl) rfl ?_
    show AW l (pI pg 235) P kc ks 43 _ _ SHF _
    refine fw_callSI (as := [.int (nI s)]) (dq rfl) (pg_ok.2.2.1 235 _ _ _ _ rfl) (by decide +kernel) rfl rfl (c4 h1) (fun y3 M3 e3 q3 => ?_)
    have hJ3 : ∀ e ∈ RM, M3.2.2 e.1 e.2.1 = e.2.2 := fun e he => by rw [e3]; exact hJ e he
    show AW l (pI pg 235) P kc ks 46 [(3, .int (nI s)), (2, .int (g)), (1, .int (x)), (0, .ref 58)] [.int (y3)] SHF _
    refine AW.iload_n (dq rfl) rfl ?_
    show AW l (pI pg 235) P kc ks 47 _ _ SHF _
    refine AW.icmp_ne (dq rfl) (tgt := 70) (by decide) (fun h5 => ?_) (fun h5 => ?_)
    · have _ := h5
      refine AW.iinc (dq rfl) rfl (by decide +kernel) ?_
      show AW l (pI pg 235) P kc ks 73 [(3, .int ((nI s) + Int32.ofInt 1)), (2, .int (g)), (1, .int (x)), (0, .ref 58)] [] SHF _
      refine AW.goto (dq rfl) (tgt := 32) (by decide) ?_
      refine AW.drop (lv' := [(3, .int ((nI s) + Int32.ofInt 1)), (2, .int (g)), (1, .int (x)), (0, .ref 58)]) (List.forall_mem_cons.mpr ⟨List.mem_of_getElem? (i := 0) rfl, List.forall_mem_cons.mpr ⟨List.mem_of_getElem? (i := 1) rfl, List.forall_mem_cons.mpr ⟨List.mem_of_getElem? (i := 2) rfl, List.forall_mem_cons.mpr ⟨List.mem_of_getElem? (i := 3) rfl, fun _ h => absurd h List.not_mem_nil⟩⟩⟩⟩) ?_
      exact k6 h1 y3 M3 e3 q3 h5
    · have _ := h5
      refine AW.iload_n (dq rfl) rfl ?_
      show AW l (pI pg 235) P kc ks 51 _ _ SHF _
      refine AW.iconst (dq rfl) ?_
      show AW l (pI pg 235) P kc ks 52 _ _ SHF _
      refine AW.icmp_eq (dq rfl) (tgt := 68) (by decide) (fun h7 => ?_) (fun h7 => ?_)
      · have _ := h7
        refine AW.iload_n (dq rfl) rfl ?_
        show AW l (pI pg 235) P kc ks 69 _ _ SHF _
        refine AW.istore_n (dq rfl) (by decide +kernel) ?_
        show AW l (pI pg 235) P kc ks 70 [(2, .int (nI s)), (3, .int (nI s)), (1, .int (x)), (0, .ref 58)] [] SHF _
        refine AW.iinc (dq rfl) rfl (by decide +kernel) ?_
        show AW l (pI pg 235) P kc ks 73 [(3, .int ((nI s) + Int32.ofInt 1)), (2, .int (nI s)), (1, .int (x)), (0, .ref 58)] [] SHF _
        refine AW.goto (dq rfl) (tgt := 32) (by decide) ?_
        refine AW.drop (lv' := [(3, .int ((nI s) + Int32.ofInt 1)), (2, .int (nI s)), (1, .int (x)), (0, .ref 58)]) (List.forall_mem_cons.mpr ⟨List.mem_of_getElem? (i := 0) rfl, List.forall_mem_cons.mpr ⟨List.mem_of_getElem? (i := 1) rfl, List.forall_mem_cons.mpr ⟨List.mem_of_getElem? (i := 2) rfl, List.forall_mem_cons.mpr ⟨List.mem_of_getElem? (i := 3) rfl, fun _ h => absurd h List.not_mem_nil⟩⟩⟩⟩) ?_
        exact k8 h1 y3 M3 e3 q3 h5 h7
      · have _ := h7
        refine AW.aload_n (dq rfl) rfl rfl ?_
        show AW l (pI pg 235) P kc ks 56 _ _ SHF _
        refine AW.iload_n (dq rfl) rfl ?_
        show AW l (pI pg 235) P kc ks 57 _ _ SHF _
        refine fw_callVI (as := [.int (nI s)]) (dq rfl) (pg_ok.2.2.1 235 _ _ _ _ rfl) rfl (by decide +kernel) rfl rfl (c10 h1 y3 M3 e3 q3 h5 h7) (fun y9 M9 e9 q9 => ?_)
        have hJ9 : ∀ e ∈ RM, M9.2.2 e.1 e.2.1 = e.2.2 := fun e he => by rw [e9]; exact hJ3 e he
        show AW l (pI pg 235) P kc ks 60 [(3, .int (nI s)), (2, .int (g)), (1, .int (x)), (0, .ref 58)] [.int (y9)] SHF _
        refine AW.aload_n (dq rfl) rfl rfl ?_
        show AW l (pI pg 235) P kc ks 61 _ _ SHF _
        refine AW.iload_n (dq rfl) rfl ?_
        show AW l (pI pg 235) P kc ks 62 _ _ SHF _
        refine fw_callVI (as := [.int (g)]) (dq rfl) (pg_ok.2.2.1 235 _ _ _ _ rfl) rfl (by decide +kernel) rfl rfl (c12 h1 y3 M3 e3 q3 h5 h7 y9 M9 e9 q9) (fun y11 M11 e11 q11 => ?_)
        have hJ11 : ∀ e ∈ RM, M11.2.2 e.1 e.2.1 = e.2.2 := fun e he => by rw [e11]; exact hJ9 e he
        show AW l (pI pg 235) P kc ks 65 [(3, .int (nI s)), (2, .int (g)), (1, .int (x)), (0, .ref 58)] [.int (y11), .int (y9)] SHF _
        refine AW.icmp_le (dq rfl) (tgt := 70) (by decide) (fun h13 => ?_) (fun h13 => ?_)
        · have _ := h13
          refine AW.iinc (dq rfl) rfl (by decide +kernel) ?_
          show AW l (pI pg 235) P kc ks 73 [(3, .int ((nI s) + Int32.ofInt 1)), (2, .int (g)), (1, .int (x)), (0, .ref 58)] [] SHF _
          refine AW.goto (dq rfl) (tgt := 32) (by decide) ?_
          refine AW.drop (lv' := [(3, .int ((nI s) + Int32.ofInt 1)), (2, .int (g)), (1, .int (x)), (0, .ref 58)]) (List.forall_mem_cons.mpr ⟨List.mem_of_getElem? (i := 0) rfl, List.forall_mem_cons.mpr ⟨List.mem_of_getElem? (i := 1) rfl, List.forall_mem_cons.mpr ⟨List.mem_of_getElem? (i := 2) rfl, List.forall_mem_cons.mpr ⟨List.mem_of_getElem? (i := 3) rfl, fun _ h => absurd h List.not_mem_nil⟩⟩⟩⟩) ?_
          exact k14 h1 y3 M3 e3 q3 h5 h7 y9 M9 e9 q9 y11 M11 e11 q11 h13
        · have _ := h13
          refine AW.iload_n (dq rfl) rfl ?_
          show AW l (pI pg 235) P kc ks 69 _ _ SHF _
          refine AW.istore_n (dq rfl) (by decide +kernel) ?_
          show AW l (pI pg 235) P kc ks 70 [(2, .int (nI s)), (3, .int (nI s)), (1, .int (x)), (0, .ref 58)] [] SHF _
          refine AW.iinc (dq rfl) rfl (by decide +kernel) ?_
          show AW l (pI pg 235) P kc ks 73 [(3, .int ((nI s) + Int32.ofInt 1)), (2, .int (nI s)), (1, .int (x)), (0, .ref 58)] [] SHF _
          refine AW.goto (dq rfl) (tgt := 32) (by decide) ?_
          refine AW.drop (lv' := [(3, .int ((nI s) + Int32.ofInt 1)), (2, .int (nI s)), (1, .int (x)), (0, .ref 58)]) (List.forall_mem_cons.mpr ⟨List.mem_of_getElem? (i := 0) rfl, List.forall_mem_cons.mpr ⟨List.mem_of_getElem? (i := 1) rfl, List.forall_mem_cons.mpr ⟨List.mem_of_getElem? (i := 2) rfl, List.forall_mem_cons.mpr ⟨List.mem_of_getElem? (i := 3) rfl, fun _ h => absurd h List.not_mem_nil⟩⟩⟩⟩) ?_
          exact k15 h1 y3 M3 e3 q3 h5 h7 y9 M9 e9 q9 y11 M11 e11 q11 h13

