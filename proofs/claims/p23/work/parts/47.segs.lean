/-! stretches of weekMore, printed by wip/gen/segs_b.py -/
theorem s239_107 {l : aL} {P : aP} {kc ks : Nat} {lf : Nat} {one : Int32} {M : aM} (hJ : ∀ e ∈ RM, M.2.2 e.1 e.2.1 = e.2.2)  (Q1 : aM → Prop) (c2 : AC l (pI pg 210) (fcV M Q1) 0 0 [.ref 58] SHF M) (Q3 : aM → aM → Prop) (c4 : ∀ (M1 : aM), ∀ (e1 : M1.2.2 = M.2.2), ∀ (q1 : Q1 M1), AC l (pI pg 211) (fcV M1 (Q3 M1)) 0 0 [.ref 58, .int (nI lf)] SHF M1) (Q5 : aM → aM → Int32 → aM → Prop) (c6 : ∀ (M1 : aM), ∀ (e1 : M1.2.2 = M.2.2), ∀ (q1 : Q1 M1), ∀ (M3 : aM), ∀ (e3 : M3.2.2 = M1.2.2), ∀ (q3 : (Q3 M1) M3), AC l (pI pg 242) (fcI M3 (Q5 M1 M3)) 0 0 [.ref 58] SHF M3) (k7 : ∀ (M1 : aM), ∀ (e1 : M1.2.2 = M.2.2), ∀ (q1 : Q1 M1), ∀ (M3 : aM), ∀ (e3 : M3.2.2 = M1.2.2), ∀ (q3 : (Q3 M1) M3), ∀ (y5 : Int32), ∀ (M5 : aM), ∀ (e5 : M5.2.2 = M3.2.2), ∀ (q5 : (Q5 M1 M3) y5 M5), AW l (pI pg 240) P kc ks 124 [(4, .int (Int32.ofInt 0)), (3, .int (y5)), (0, .ref 58), (1, .int (one)), (2, .int (nI lf))] [] SHF M5) : AW l (pI pg 240) P kc ks 107 [(0, .ref 58), (1, .int (one)), (2, .int (nI lf))] [] SHF M := by
  refine AW.aload_n (dq rfl) rfl rfl ?_
  show AW l (pI pg 240) P kc ks 108 _ _ SHF _
  refine fw_callVV (as := []) (dq rfl) (pg_ok.2.2.1 240 _ _ _ _ rfl) rfl (by decide +kernel) rfl rfl (c2) (fun M1 e1 q1 => ?_)
  have hJ1 : ∀ e ∈ RM, M1.2.2 e.1 e.2.1 = e.2.2 := fun e he => by rw [e1]; exact hJ e he
  show AW l (pI pg 240) P kc ks 111 [(0, .ref 58), (1, .int (one)), (2, .int (nI lf))] [] SHF _
  refine AW.aload_n (dq rfl) rfl rfl ?_
  show AW l (pI pg 240) P kc ks 112 _ _ SHF _
  refine AW.iload_n (dq rfl) rfl ?_
  show AW l (pI pg 240) P kc ks 113 _ _ SHF _
  refine fw_callVV (as := [.int (nI lf)]) (dq rfl) (pg_ok.2.2.1 240 _ _ _ _ rfl) rfl (by decide +kernel) rfl rfl (c4 M1 e1 q1) (fun M3 e3 q3 => ?_)
  have hJ3 : ∀ e ∈ RM, M3.2.2 e.1 e.2.1 = e.2.2 := fun e he => by rw [e3]; exact hJ1 e he
  show AW l (pI pg 240) P kc ks 116 [(0, .ref 58), (1, .int (one)), (2, .int (nI lf))] [] SHF _
  refine AW.aload_n (dq rfl) rfl rfl ?_
  show AW l (pI pg 240) P kc ks 117 _ _ SHF _
  refine fw_callVI (as := []) (dq rfl) (pg_ok.2.2.1 240 _ _ _ _ rfl) rfl (by decide +kernel) rfl rfl (c6 M1 e1 q1 M3 e3 q3) (fun y5 M5 e5 q5 => ?_)
  have hJ5 : ∀ e ∈ RM, M5.2.2 e.1 e.2.1 = e.2.2 := fun e he => by rw [e5]; exact hJ3 e he
  show AW l (pI pg 240) P kc ks 120 [(0, .ref 58), (1, .int (one)), (2, .int (nI lf))] [.int (y5)] SHF _
  refine AW.istore_n (dq rfl) (by decide +kernel) ?_
  show AW l (pI pg 240) P kc ks 121 [(3, .int (y5)), (0, .ref 58), (1, .int (one)), (2, .int (nI lf))] [] SHF _
  refine AW.iconst (dq rfl) ?_
  show AW l (pI pg 240) P kc ks 122 _ _ SHF _
  refine AW.istore (dq rfl) (by decide +kernel) ?_
  show AW l (pI pg 240) P kc ks 124 [(4, .int (Int32.ofInt 0)), (3, .int (y5)), (0, .ref 58), (1, .int (one)), (2, .int (nI lf))] [] SHF _
  refine AW.drop (lv' := [(4, .int (Int32.ofInt 0)), (3, .int (y5)), (0, .ref 58), (1, .int (one)), (2, .int (nI lf))]) (List.forall_mem_cons.mpr ⟨List.mem_of_getElem? (i := 0) rfl, List.forall_mem_cons.mpr ⟨List.mem_of_getElem? (i := 1) rfl, List.forall_mem_cons.mpr ⟨List.mem_of_getElem? (i := 2) rfl, List.forall_mem_cons.mpr ⟨List.mem_of_getElem? (i := 3) rfl, List.forall_mem_cons.mpr ⟨List.mem_of_getElem? (i := 4) rfl, fun _ h => absurd h List.not_mem_nil⟩⟩⟩⟩⟩) ?_
  exact k7 M1 e1 q1 M3 e3 q3 y5 M5 e5 q5

theorem s239_124 {l : aL} {P : aP} {kc ks : Nat} {w lf : Nat} {one a : Int32} {M : aM} (hJ : ∀ e ∈ RM, M.2.2 e.1 e.2.1 = e.2.2)  (k2 : ∀ (h1 : (M.1 58 2 : Int32) ≤ (nI w : Int32)), AW l (pI pg 240) P kc ks 259 [(4, .int (Int32.ofInt 0)), (0, .ref 58), (1, .int (one))] [] SHF M) (k3 : ∀ (h1 : ¬ ((M.1 58 2 : Int32) ≤ (nI w : Int32))), AW l (pI pg 240) P kc ks 139 [(6, .int (Int32.ofInt 0)), (5, .int (Int32.ofInt 0)), (4, .int (nI w)), (3, .int (a)), (0, .ref 58), (1, .int (one)), (2, .int (nI lf))] [] SHF M) : AW l (pI pg 240) P kc ks 124 [(4, .int (nI w)), (3, .int (a)), (0, .ref 58), (1, .int (one)), (2, .int (nI lf))] [] SHF M := by
  refine AW.iload (dq rfl) rfl ?_
  show AW l (pI pg 240) P kc ks 126 _ _ SHF _
  refine AW.aload_n (dq rfl) rfl rfl ?_
  show AW l (pI pg 240) P kc ks 127 _ _ SHF _
  refine fw_get (dq rfl) (pg_ok.2.1 240 _ _ _ _ rfl) rfl (v := .int (M.1 58 2)) rfl ?_
  show AW l (pI pg 240) P kc ks 130 _ _ SHF _
  refine AW.icmp_ge (dq rfl) (tgt := 256) (by decide) (fun h1 => ?_) (fun h1 => ?_)
  · have _ := h1
    refine AW.iconst (dq rfl) ?_
    show AW l (pI pg 240) P kc ks 257 _ _ SHF _
    refine AW.istore (dq rfl) (by decide +kernel) ?_
    show AW l (pI pg 240) P kc ks 259 [(4, .int (Int32.ofInt 0)), (3, .int (a)), (0, .ref 58), (1, .int (one)), (2, .int (nI lf))] [] SHF _
    refine AW.drop (lv' := [(4, .int (Int32.ofInt 0)), (0, .ref 58), (1, .int (one))]) (List.forall_mem_cons.mpr ⟨List.mem_of_getElem? (i := 0) rfl, List.forall_mem_cons.mpr ⟨List.mem_of_getElem? (i := 2) rfl, List.forall_mem_cons.mpr ⟨List.mem_of_getElem? (i := 3) rfl, fun _ h => absurd h List.not_mem_nil⟩⟩⟩) ?_
    exact k2 h1
  · have _ := h1
    refine AW.iconst (dq rfl) ?_
    show AW l (pI pg 240) P kc ks 134 _ _ SHF _
    refine AW.istore (dq rfl) (by decide +kernel) ?_
    show AW l (pI pg 240) P kc ks 136 [(5, .int (Int32.ofInt 0)), (4, .int (nI w)), (3, .int (a)), (0, .ref 58), (1, .int (one)), (2, .int (nI lf))] [] SHF _
    refine AW.iconst (dq rfl) ?_
    show AW l (pI pg 240) P kc ks 137 _ _ SHF _
    refine AW.istore (dq rfl) (by decide +kernel) ?_
    show AW l (pI pg 240) P kc ks 139 [(6, .int (Int32.ofInt 0)), (5, .int (Int32.ofInt 0)), (4, .int (nI w)), (3, .int (a)), (0, .ref 58), (1, .int (one)), (2, .int (nI lf))] [] SHF _
    refine AW.drop (lv' := [(6, .int (Int32.ofInt 0)), (5, .int (Int32.ofInt 0)), (4, .int (nI w)), (3, .int (a)), (0, .ref 58), (1, .int (one)), (2, .int (nI lf))]) (List.forall_mem_cons.mpr ⟨List.mem_of_getElem? (i := 0) rfl, List.forall_mem_cons.mpr ⟨List.mem_of_getElem? (i := 1) rfl, List.forall_mem_cons.mpr ⟨List.mem_of_getElem? (i := 2) rfl, List.forall_mem_cons.mpr ⟨List.mem_of_getElem? (i := 3) rfl, List.forall_mem_cons.mpr ⟨List.mem_of_getElem? (i := 4) rfl, List.forall_mem_cons.mpr ⟨List.mem_of_getElem? (i := 5) rfl, List.forall_mem_cons.mpr ⟨List.mem_of_getElem? (i := 6) rfl, fun _ h => absurd h List.not_mem_nil⟩⟩⟩⟩⟩⟩⟩) ?_
    exact k3 h1

theorem s239_139 {l : aL} {P : aP} {kc ks : Nat} {p w lf : Nat} {one a fd : Int32} {M : aM} (hJ : ∀ e ∈ RM, M.2.2 e.1 e.2.1 = e.2.2)  (o2 : ∀ (h1 : ¬ (fd : Int32) = 0), vp_in (nI w) 8) (o4 : ∀ (h1 : ¬ (fd : Int32) = 0), ∀ (h3 : ¬ (M.1 76 (nI w).toNatClampNeg : Int32) = ((Int8.ofInt 6).toInt32 : Int32)), vp_in ((((Int8.ofInt 8).toInt32) * (M.1 58 51)) + (nI w)) 1600) (k5 : ∀ (h1 : ¬ (fd : Int32) = 0), ∀ (h3 : ¬ (M.1 76 (nI w).toNatClampNeg : Int32) = ((Int8.ofInt 6).toInt32 : Int32)), AW l (pI pg 240) P kc ks 124 [(4, .int ((nI w) + Int32.ofInt 1)), (3, .int (a)), (0, .ref 58), (1, .int (one)), (2, .int (nI lf))] [] SHF (aset M 88 ((((Int8.ofInt 8).toInt32) * (M.1 58 51)) + (nI w)).toNatClampNeg (.int (M.1 76 (nI w).toNatClampNeg)))) (o6 : ∀ (h1 : ¬ (fd : Int32) = 0), ∀ (h3 : (M.1 76 (nI w).toNatClampNeg : Int32) = ((Int8.ofInt 6).toInt32 : Int32)), vp_in ((((Int8.ofInt 8).toInt32) * (M.1 58 51)) + (nI w)) 1600) (k7 : ∀ (h1 : ¬ (fd : Int32) = 0), ∀ (h3 : (M.1 76 (nI w).toNatClampNeg : Int32) = ((Int8.ofInt 6).toInt32 : Int32)), AW l (pI pg 240) P kc ks 124 [(4, .int ((nI w) + Int32.ofInt 1)), (3, .int (a)), (0, .ref 58), (1, .int (one)), (2, .int (nI lf))] [] SHF (aset M 88 ((((Int8.ofInt 8).toInt32) * (M.1 58 51)) + (nI w)).toNatClampNeg (.int (Int32.ofInt (-1))))) (o9 : ∀ (h1 : (fd : Int32) = 0), ∀ (h8 : (M.1 58 1 : Int32) ≤ (nI p : Int32)), vp_in (nI w) 8) (k10 : ∀ (h1 : (fd : Int32) = 0), ∀ (h8 : (M.1 58 1 : Int32) ≤ (nI p : Int32)), AW l (pI pg 240) P kc ks 167 [(5, .int (nI p)), (4, .int (nI w)), (3, .int (a)), (0, .ref 58), (1, .int (one)), (2, .int (nI lf))] [] SHF (aset M 76 (nI w).toNatClampNeg (.int ((Int8.ofInt 6).toInt32)))) (o11 : ∀ (h1 : (fd : Int32) = 0), ∀ (h8 : ¬ ((M.1 58 1 : Int32) ≤ (nI p : Int32))), vp_in (nI w) 8) (k12 : ∀ (h1 : (fd : Int32) = 0), ∀ (h8 : ¬ ((M.1 58 1 : Int32) ≤ (nI p : Int32))), AW l (pI pg 240) P kc ks 167 [(5, .int (nI p)), (4, .int (nI w)), (3, .int (a)), (0, .ref 58), (1, .int (one)), (2, .int (nI lf))] [] SHF (aset M 76 (nI w).toNatClampNeg (.int (nI p)))) : AW l (pI pg 240) P kc ks 139 [(6, .int (fd)), (5, .int (nI p)), (4, .int (nI w)), (3, .int (a)), (0, .ref 58), (1, .int (one)), (2, .int (nI lf))] [] SHF M := by
  refine AW.iload (dq rfl) rfl ?_
  show AW l (pI pg 240) P kc ks 141 _ _ SHF _
  refine AW.if_ne (dq rfl) (tgt := 212) (by decide) (fun h1 => ?_) (fun h1 => ?_)
  · have _ := h1
    refine AW.aload_n (dq rfl) rfl rfl ?_
    show AW l (pI pg 240) P kc ks 213 _ _ SHF _
    refine fw_get (dq rfl) (pg_ok.2.1 240 _ _ _ _ rfl) rfl (v := .ref 88) (isTA_ok rfl (rgR_ok hJ rfl)) ?_
    show AW l (pI pg 240) P kc ks 216 _ _ SHF _
    refine AW.bipush (dq rfl) ?_
    show AW l (pI pg 240) P kc ks 218 _ _ SHF _
    refine AW.aload_n (dq rfl) rfl rfl ?_
    show AW l (pI pg 240) P kc ks 219 _ _ SHF _
    refine fw_get (dq rfl) (pg_ok.2.1 240 _ _ _ _ rfl) rfl (v := .int (M.1 58 51)) rfl ?_
    show AW l (pI pg 240) P kc ks 222 _ _ SHF _
    refine AW.imul (dq rfl) ?_
    show AW l (pI pg 240) P kc ks 223 _ _ SHF _
    refine AW.iload (dq rfl) rfl ?_
    show AW l (pI pg 240) P kc ks 225 _ _ SHF _
    refine AW.iadd (dq rfl) ?_
    show AW l (pI pg 240) P kc ks 226 _ _ SHF _
    refine AW.aload_n (dq rfl) rfl rfl ?_
    show AW l (pI pg 240) P kc ks 227 _ _ SHF _
    refine fw_get (dq rfl) (pg_ok.2.1 240 _ _ _ _ rfl) rfl (v := .ref 76) (isTA_ok rfl (rgR_ok hJ rfl)) ?_
    show AW l (pI pg 240) P kc ks 230 _ _ SHF _
    refine AW.iload (dq rfl) rfl ?_
    show AW l (pI pg 240) P kc ks 232 _ _ SHF _
    refine AW.iald (dq rfl) rfl (o2 h1) ?_
    show AW l (pI pg 240) P kc ks 233 _ _ SHF _
    refine AW.bipush (dq rfl) ?_
    show AW l (pI pg 240) P kc ks 235 _ _ SHF _
    refine AW.icmp_ne (dq rfl) (tgt := 242) (by decide) (fun h3 => ?_) (fun h3 => ?_)
    · have _ := h3
      refine AW.aload_n (dq rfl) rfl rfl ?_
      show AW l (pI pg 240) P kc ks 243 _ _ SHF _
      refine fw_get (dq rfl) (pg_ok.2.1 240 _ _ _ _ rfl) rfl (v := .ref 76) (isTA_ok rfl (rgR_ok hJ rfl)) ?_
      show AW l (pI pg 240) P kc ks 246 _ _ SHF _
      refine AW.iload (dq rfl) rfl ?_
      show AW l (pI pg 240) P kc ks 248 _ _ SHF _
      refine AW.iald (dq rfl) rfl (o2 h1) ?_
      show AW l (pI pg 240) P kc ks 249 _ _ SHF _
      refine AW.iast (dq rfl) rfl (o4 h1 h3) ?_
      show AW l (pI pg 240) P kc ks 250 _ _ SHF _
      refine AW.iinc (dq rfl) rfl (by decide +kernel) ?_
      show AW l (pI pg 240) P kc ks 253 [(4, .int ((nI w) + Int32.ofInt 1)), (6, .int (fd)), (5, .int (nI p)), (3, .int (a)), (0, .ref 58), (1, .int (one)), (2, .int (nI lf))] [] SHF _
      refine AW.goto (dq rfl) (tgt := 124) (by decide) ?_
      refine AW.drop (lv' := [(4, .int ((nI w) + Int32.ofInt 1)), (3, .int (a)), (0, .ref 58), (1, .int (one)), (2, .int (nI lf))]) (List.forall_mem_cons.mpr ⟨List.mem_of_getElem? (i := 0) rfl, List.forall_mem_cons.mpr ⟨List.mem_of_getElem? (i := 3) rfl, List.forall_mem_cons.mpr ⟨List.mem_of_getElem? (i := 4) rfl, List.forall_mem_cons.mpr ⟨List.mem_of_getElem? (i := 5) rfl, List.forall_mem_cons.mpr ⟨List.mem_of_getElem? (i := 6) rfl, fun _ h => absurd h List.not_mem_nil⟩⟩⟩⟩⟩) ?_
      exact k5 h1 h3
    · have _ := h3
      refine AW.iconst (dq rfl) ?_
      show AW l (pI pg 240) P kc ks 239 _ _ SHF _
      refine AW.goto (dq rfl) (tgt := 249) (by decide) ?_
      refine AW.iast (dq rfl) rfl (o6 h1 h3) ?_
      show AW l (pI pg 240) P kc ks 250 _ _ SHF _
      refine AW.iinc (dq rfl) rfl (by decide +kernel) ?_
      show AW l (pI pg 240) P kc ks 253 [(4, .int ((nI w) + Int32.ofInt 1)), (6, .int (fd)), (5, .int (nI p)), (3, .int (a)), (0, .ref 58), (1, .int (one)), (2, .int (nI lf))] [] SHF _
      refine AW.goto (dq rfl) (tgt := 124) (by decide) ?_
      refine AW.drop (lv' := [(4, .int ((nI w) + Int32.ofInt 1)), (3, .int (a)), (0, .ref 58), (1, .int (one)), (2, .int (nI lf))]) (List.forall_mem_cons.mpr ⟨List.mem_of_getElem? (i := 0) rfl, List.forall_mem_cons.mpr ⟨List.mem_of_getElem? (i := 3) rfl, List.forall_mem_cons.mpr ⟨List.mem_of_getElem? (i := 4) rfl, List.forall_mem_cons.mpr ⟨List.mem_of_getElem? (i := 5) rfl, List.forall_mem_cons.mpr ⟨List.mem_of_getElem? (i := 6) rfl, fun _ h => absurd h List.not_mem_nil⟩⟩⟩⟩⟩) ?_
      exact k7 h1 h3
  · have _ := h1
    refine AW.aload_n (dq rfl) rfl rfl ?_
    show AW l (pI pg 240) P kc ks 145 _ _ SHF _
    refine fw_get (dq rfl) (pg_ok.2.1 240 _ _ _ _ rfl) rfl (v := .ref 76) (isTA_ok rfl (rgR_ok hJ rfl)) ?_
    show AW l (pI pg 240) P kc ks 148 _ _ SHF _
    refine AW.iload (dq rfl) rfl ?_
    show AW l (pI pg 240) P kc ks 150 _ _ SHF _
    refine AW.iload (dq rfl) rfl ?_
    show AW l (pI pg 240) P kc ks 152 _ _ SHF _
    refine AW.aload_n (dq rfl) rfl rfl ?_
    show AW l (pI pg 240) P kc ks 153 _ _ SHF _
    refine fw_get (dq rfl) (pg_ok.2.1 240 _ _ _ _ rfl) rfl (v := .int (M.1 58 1)) rfl ?_
    show AW l (pI pg 240) P kc ks 156 _ _ SHF _
    refine AW.icmp_ge (dq rfl) (tgt := 164) (by decide) (fun h8 => ?_) (fun h8 => ?_)
    · have _ := h8
      refine AW.bipush (dq rfl) ?_
      show AW l (pI pg 240) P kc ks 166 _ _ SHF _
      refine AW.iast (dq rfl) rfl (o9 h1 h8) ?_
      show AW l (pI pg 240) P kc ks 167 _ _ SHF _
      refine AW.drop (lv' := [(5, .int (nI p)), (4, .int (nI w)), (3, .int (a)), (0, .ref 58), (1, .int (one)), (2, .int (nI lf))]) (List.forall_mem_cons.mpr ⟨List.mem_of_getElem? (i := 1) rfl, List.forall_mem_cons.mpr ⟨List.mem_of_getElem? (i := 2) rfl, List.forall_mem_cons.mpr ⟨List.mem_of_getElem? (i := 3) rfl, List.forall_mem_cons.mpr ⟨List.mem_of_getElem? (i := 4) rfl, List.forall_mem_cons.mpr ⟨List.mem_of_getElem? (i := 5) rfl, List.forall_mem_cons.mpr ⟨List.mem_of_getElem? (i := 6) rfl, fun _ h => absurd h List.not_mem_nil⟩⟩⟩⟩⟩⟩) ?_
      exact k10 h1 h8
    · have _ := h8
      refine AW.iload (dq rfl) rfl ?_
      show AW l (pI pg 240) P kc ks 161 _ _ SHF _
      refine AW.goto (dq rfl) (tgt := 166) (by decide) ?_
      refine AW.iast (dq rfl) rfl (o11 h1 h8) ?_
      show AW l (pI pg 240) P kc ks 167 _ _ SHF _
      refine AW.drop (lv' := [(5, .int (nI p)), (4, .int (nI w)), (3, .int (a)), (0, .ref 58), (1, .int (one)), (2, .int (nI lf))]) (List.forall_mem_cons.mpr ⟨List.mem_of_getElem? (i := 1) rfl, List.forall_mem_cons.mpr ⟨List.mem_of_getElem? (i := 2) rfl, List.forall_mem_cons.mpr ⟨List.mem_of_getElem? (i := 3) rfl, List.forall_mem_cons.mpr ⟨List.mem_of_getElem? (i := 4) rfl, List.forall_mem_cons.mpr ⟨List.mem_of_getElem? (i := 5) rfl, List.forall_mem_cons.mpr ⟨List.mem_of_getElem? (i := 6) rfl, fun _ h => absurd h List.not_mem_nil⟩⟩⟩⟩⟩⟩) ?_
      exact k12 h1 h8

theorem s239_167 {l : aL} {P : aP} {kc ks : Nat} {p w lf : Nat} {one a : Int32} {M : aM} (hJ : ∀ e ∈ RM, M.2.2 e.1 e.2.1 = e.2.2)  (Q1 : aM → Prop) (c2 : AC l (pI pg 211) (fcV M Q1) 0 0 [.ref 58, .int (nI lf)] SHF M) (Q4 : aM → Int32 → aM → Prop) (c5 : ∀ (M1 : aM), ∀ (e1 : M1.2.2 = M.2.2), ∀ (q1 : Q1 M1), ∀ (h3 : (M1.1 58 1 : Int32) ≤ (nI p : Int32)), AC l (pI pg 243) (fcI M1 (Q4 M1)) 0 0 [.ref 58, .int (a)] SHF M1) (k7 : ∀ (M1 : aM), ∀ (e1 : M1.2.2 = M.2.2), ∀ (q1 : Q1 M1), ∀ (h3 : (M1.1 58 1 : Int32) ≤ (nI p : Int32)), ∀ (y4 : Int32), ∀ (M4 : aM), ∀ (e4 : M4.2.2 = M1.2.2), ∀ (q4 : (Q4 M1) y4 M4), ∀ (h6 : (y4 : Int32) = 0), AW l (pI pg 240) P kc ks 139 [(6, .int (Int32.ofInt 0)), (5, .int ((nI p) + Int32.ofInt 1)), (4, .int (nI w)), (3, .int (a)), (0, .ref 58), (1, .int (one)), (2, .int (nI lf))] [] SHF M4) (k8 : ∀ (M1 : aM), ∀ (e1 : M1.2.2 = M.2.2), ∀ (q1 : Q1 M1), ∀ (h3 : (M1.1 58 1 : Int32) ≤ (nI p : Int32)), ∀ (y4 : Int32), ∀ (M4 : aM), ∀ (e4 : M4.2.2 = M1.2.2), ∀ (q4 : (Q4 M1) y4 M4), ∀ (h6 : ¬ ((y4 : Int32) = 0)), AW l (pI pg 240) P kc ks 139 [(6, .int (Int32.ofInt 1)), (5, .int ((nI p) + Int32.ofInt 1)), (4, .int (nI w)), (3, .int (a)), (0, .ref 58), (1, .int (one)), (2, .int (nI lf))] [] SHF M4) (k10 : ∀ (M1 : aM), ∀ (e1 : M1.2.2 = M.2.2), ∀ (q1 : Q1 M1), ∀ (h3 : ¬ ((M1.1 58 1 : Int32) ≤ (nI p : Int32))), ∀ (h9 : ¬ (((nI lf) >>> ((nI p) &&& 31)) &&& (Int32.ofInt 1) : Int32) = (Int32.ofInt 1 : Int32)), AW l (pI pg 240) P kc ks 139 [(6, .int (Int32.ofInt 0)), (5, .int ((nI p) + Int32.ofInt 1)), (4, .int (nI w)), (3, .int (a)), (0, .ref 58), (1, .int (one)), (2, .int (nI lf))] [] SHF M1) (Q11 : aM → Int32 → aM → Prop) (c12 : ∀ (M1 : aM), ∀ (e1 : M1.2.2 = M.2.2), ∀ (q1 : Q1 M1), ∀ (h3 : ¬ ((M1.1 58 1 : Int32) ≤ (nI p : Int32))), ∀ (h9 : (((nI lf) >>> ((nI p) &&& 31)) &&& (Int32.ofInt 1) : Int32) = (Int32.ofInt 1 : Int32)), AC l (pI pg 243) (fcI M1 (Q11 M1)) 0 0 [.ref 58, .int (a)] SHF M1) (k14 : ∀ (M1 : aM), ∀ (e1 : M1.2.2 = M.2.2), ∀ (q1 : Q1 M1), ∀ (h3 : ¬ ((M1.1 58 1 : Int32) ≤ (nI p : Int32))), ∀ (h9 : (((nI lf) >>> ((nI p) &&& 31)) &&& (Int32.ofInt 1) : Int32) = (Int32.ofInt 1 : Int32)), ∀ (y11 : Int32), ∀ (M11 : aM), ∀ (e11 : M11.2.2 = M1.2.2), ∀ (q11 : (Q11 M1) y11 M11), ∀ (h13 : (y11 : Int32) = 0), AW l (pI pg 240) P kc ks 139 [(6, .int (Int32.ofInt 0)), (5, .int ((nI p) + Int32.ofInt 1)), (4, .int (nI w)), (3, .int (a)), (0, .ref 58), (1, .int (one)), (2, .int (nI lf))] [] SHF M11) (k15 : ∀ (M1 : aM), ∀ (e1 : M1.2.2 = M.2.2), ∀ (q1 : Q1 M1), ∀ (h3 : ¬ ((M1.1 58 1 : Int32) ≤ (nI p : Int32))), ∀ (h9 : (((nI lf) >>> ((nI p) &&& 31)) &&& (Int32.ofInt 1) : Int32) = (Int32.ofInt 1 : Int32)), ∀ (y11 : Int32), ∀ (M11 : aM), ∀ (e11 : M11.2.2 = M1.2.2), ∀ (q11 : (Q11 M1) y11 M11), ∀ (h13 : ¬ ((y11 : Int32) = 0)), AW l (pI pg 240) P kc ks 139 [(6, .int (Int32.ofInt 1)), (5, .int ((nI p) + Int32.ofInt 1)), (4, .int (nI w)), (3, .int (a)), (0, .ref 58), (1, .int (one)), (2, .int (nI lf))] [] SHF M11) : AW l (pI pg 240) P kc ks 167 [(5, .int (nI p)), (4, .int (nI w)), (3, .int (a)), (0, .ref 58), (1, .int (one)), (2, .int (nI lf))] [] SHF M := by
  refine AW.aload_n (dq rfl) rfl rfl ?_
  show AW l (pI pg 240) P kc ks 168 _ _ SHF _
  refine AW.iload_n (dq rfl) rfl ?_
  show AW l (pI pg 240) P kc ks 169 _ _ SHF _
  refine fw_callVV (as := [.int (nI lf)]) (dq rfl) (pg_ok.2.2.1 240 _ _ _ _ rfl) rfl (by decide +kernel) rfl rfl (c2) (fun M1 e1 q1 => ?_)
  have hJ1 : ∀ e ∈ RM, M1.2.2 e.1 e.2.1 = e.2.2 := fun e he => by rw [e1]; exact hJ e he
  show AW l (pI pg 240) P kc ks 172 [(5, .int (nI p)), (4, .int (nI w)), (3, .int (a)), (0, .ref 58), (1, .int (one)), (2, .int (nI lf))] [] SHF _
  refine AW.iload (dq rfl) rfl ?_
  show AW l (pI pg 240) P kc ks 174 _ _ SHF _
  refine AW.aload_n (dq rfl) rfl rfl ?_
  show AW l (pI pg 240) P kc ks 175 _ _ SHF _
  refine fw_get (dq rfl) (pg_ok.2.1 240 _ _ _ _ rfl) rfl (v := .int (M1.1 58 1)) rfl ?_
  show AW l (pI pg 240) P kc ks 178 _ _ SHF _
  refine AW.icmp_ge (dq rfl) (tgt := 191) (by decide) (fun h3 => ?_) (fun h3 => ?_)
  · have _ := h3
    refine AW.aload_n (dq rfl) rfl rfl ?_
    show AW l (pI pg 240) P kc ks 192 _ _ SHF _
    refine AW.iload_n (dq rfl) rfl ?_
    show AW l (pI pg 240) P kc ks 193 _ _ SHF _
    refine fw_callVI (as := [.int (a)]) (dq rfl) (pg_ok.2.2.1 240 _ _ _ _ rfl) rfl (by decide +kernel) rfl rfl (c5 M1 e1 q1 h3) (fun y4 M4 e4 q4 => ?_)
    have hJ4 : ∀ e ∈ RM, M4.2.2 e.1 e.2.1 = e.2.2 := fun e he => by rw [e4]; exact hJ1 e he
    show AW l (pI pg 240) P kc ks 196 [(5, .int (nI p)), (4, .int (nI w)), (3, .int (a)), (0, .ref 58), (1, .int (one)), (2, .int (nI lf))] [.int (y4)] SHF _
    refine AW.if_eq (dq rfl) (tgt := 203) (by decide) (fun h6 => ?_) (fun h6 => ?_)
    · have _ := h6
      refine AW.iconst (dq rfl) ?_
      show AW l (pI pg 240) P kc ks 204 _ _ SHF _
      refine AW.istore (dq rfl) (by decide +kernel) ?_
      show AW l (pI pg 240) P kc ks 206 [(6, .int (Int32.ofInt 0)), (5, .int (nI p)), (4, .int (nI w)), (3, .int (a)), (0, .ref 58), (1, .int (one)), (2, .int (nI lf))] [] SHF _
      refine AW.iinc (dq rfl) rfl (by decide +kernel) ?_
      show AW l (pI pg 240) P kc ks 209 [(5, .int ((nI p) + Int32.ofInt 1)), (6, .int (Int32.ofInt 0)), (4, .int (nI w)), (3, .int (a)), (0, .ref 58), (1, .int (one)), (2, .int (nI lf))] [] SHF _
      refine AW.goto (dq rfl) (tgt := 139) (by decide) ?_
      refine AW.drop (lv' := [(6, .int (Int32.ofInt 0)), (5, .int ((nI p) + Int32.ofInt 1)), (4, .int (nI w)), (3, .int (a)), (0, .ref 58), (1, .int (one)), (2, .int (nI lf))]) (List.forall_mem_cons.mpr ⟨List.mem_of_getElem? (i := 1) rfl, List.forall_mem_cons.mpr ⟨List.mem_of_getElem? (i := 0) rfl, List.forall_mem_cons.mpr ⟨List.mem_of_getElem? (i := 2) rfl, List.forall_mem_cons.mpr ⟨List.mem_of_getElem? (i := 3) rfl, List.forall_mem_cons.mpr ⟨List.mem_of_getElem? (i := 4) rfl, List.forall_mem_cons.mpr ⟨List.mem_of_getElem? (i := 5) rfl, List.forall_mem_cons.mpr ⟨List.mem_of_getElem? (i := 6) rfl, fun _ h => absurd h List.not_mem_nil⟩⟩⟩⟩⟩⟩⟩) ?_
      exact k7 M1 e1 q1 h3 y4 M4 e4 q4 h6
    · have _ := h6
      refine AW.iconst (dq rfl) ?_
      show AW l (pI pg 240) P kc ks 200 _ _ SHF _
      refine AW.goto (dq rfl) (tgt := 204) (by decide) ?_
      refine AW.istore (dq rfl) (by decide +kernel) ?_
      show AW l (pI pg 240) P kc ks 206 [(6, .int (Int32.ofInt 1)), (5, .int (nI p)), (4, .int (nI w)), (3, .int (a)), (0, .ref 58), (1, .int (one)), (2, .int (nI lf))] [] SHF _
      refine AW.iinc (dq rfl) rfl (by decide +kernel) ?_
      show AW l (pI pg 240) P kc ks 209 [(5, .int ((nI p) + Int32.ofInt 1)), (6, .int (Int32.ofInt 1)), (4, .int (nI w)), (3, .int (a)), (0, .ref 58), (1, .int (one)), (2, .int (nI lf))] [] SHF _
      refine AW.goto (dq rfl) (tgt := 139) (by decide) ?_
      refine AW.drop (lv' := [(6, .int (Int32.ofInt 1)), (5, .int ((nI p) + Int32.ofInt 1)), (4, .int (nI w)), (3, .int (a)), (0, .ref 58), (1, .int (one)), (2, .int (nI lf))]) (List.forall_mem_cons.mpr ⟨List.mem_of_getElem? (i := 1) rfl, List.forall_mem_cons.mpr ⟨List.mem_of_getElem? (i := 0) rfl, List.forall_mem_cons.mpr ⟨List.mem_of_getElem? (i := 2) rfl, List.forall_mem_cons.mpr ⟨List.mem_of_getElem? (i := 3) rfl, List.forall_mem_cons.mpr ⟨List.mem_of_getElem? (i := 4) rfl, List.forall_mem_cons.mpr ⟨List.mem_of_getElem? (i := 5) rfl, List.forall_mem_cons.mpr ⟨List.mem_of_getElem? (i := 6) rfl, fun _ h => absurd h List.not_mem_nil⟩⟩⟩⟩⟩⟩⟩) ?_
      exact k8 M1 e1 q1 h3 y4 M4 e4 q4 h6
  · have _ := h3
    refine AW.iload_n (dq rfl) rfl ?_
    show AW l (pI pg 240) P kc ks 182 _ _ SHF _
    refine AW.iload (dq rfl) rfl ?_
    show AW l (pI pg 240) P kc ks 184 _ _ SHF _
    refine AW.ishr (dq rfl) ?_
    show AW l (pI pg 240) P kc ks 185 _ _ SHF _
    refine AW.iconst (dq rfl) ?_
    show AW l (pI pg 240) P kc ks 186 _ _ SHF _
    refine AW.iand (dq rfl) ?_
    show AW l (pI pg 240) P kc ks 187 _ _ SHF _
    refine AW.iconst (dq rfl) ?_
    show AW l (pI pg 240) P kc ks 188 _ _ SHF _
    refine AW.icmp_ne (dq rfl) (tgt := 203) (by decide) (fun h9 => ?_) (fun h9 => ?_)
    · have _ := h9
      refine AW.iconst (dq rfl) ?_
      show AW l (pI pg 240) P kc ks 204 _ _ SHF _
      refine AW.istore (dq rfl) (by decide +kernel) ?_
      show AW l (pI pg 240) P kc ks 206 [(6, .int (Int32.ofInt 0)), (5, .int (nI p)), (4, .int (nI w)), (3, .int (a)), (0, .ref 58), (1, .int (one)), (2, .int (nI lf))] [] SHF _
      refine AW.iinc (dq rfl) rfl (by decide +kernel) ?_
      show AW l (pI pg 240) P kc ks 209 [(5, .int ((nI p) + Int32.ofInt 1)), (6, .int (Int32.ofInt 0)), (4, .int (nI w)), (3, .int (a)), (0, .ref 58), (1, .int (one)), (2, .int (nI lf))] [] SHF _
      refine AW.goto (dq rfl) (tgt := 139) (by decide) ?_
      refine AW.drop (lv' := [(6, .int (Int32.ofInt 0)), (5, .int ((nI p) + Int32.ofInt 1)), (4, .int (nI w)), (3, .int (a)), (0, .ref 58), (1, .int (one)), (2, .int (nI lf))]) (List.forall_mem_cons.mpr ⟨List.mem_of_getElem? (i := 1) rfl, List.forall_mem_cons.mpr ⟨List.mem_of_getElem? (i := 0) rfl, List.forall_mem_cons.mpr ⟨List.mem_of_getElem? (i := 2) rfl, List.forall_mem_cons.mpr ⟨List.mem_of_getElem? (i := 3) rfl, List.forall_mem_cons.mpr ⟨List.mem_of_getElem? (i := 4) rfl, List.forall_mem_cons.mpr ⟨List.mem_of_getElem? (i := 5) rfl, List.forall_mem_cons.mpr ⟨List.mem_of_getElem? (i := 6) rfl, fun _ h => absurd h List.not_mem_nil⟩⟩⟩⟩⟩⟩⟩) ?_
      exact k10 M1 e1 q1 h3 h9
    · have _ := h9
      refine AW.aload_n (dq rfl) rfl rfl ?_
      show AW l (pI pg 240) P kc ks 192 _ _ SHF _
      refine AW.iload_n (dq rfl) rfl ?_
      show AW l (pI pg 240) P kc ks 193 _ _ SHF _
      refine fw_callVI (as := [.int (a)]) (dq rfl) (pg_ok.2.2.1 240 _ _ _ _ rfl) rfl (by decide +kernel) rfl rfl (c12 M1 e1 q1 h3 h9) (fun y11 M11 e11 q11 => ?_)
      have hJ11 : ∀ e ∈ RM, M11.2.2 e.1 e.2.1 = e.2.2 := fun e he => by rw [e11]; exact hJ1 e he
      show AW l (pI pg 240) P kc ks 196 [(5, .int (nI p)), (4, .int (nI w)), (3, .int (a)), (0, .ref 58), (1, .int (one)), (2, .int (nI lf))] [.int (y11)] SHF _
      refine AW.if_eq (dq rfl) (tgt := 203) (by decide) (fun h13 => ?_) (fun h13 => ?_)
      · have _ := h13
        refine AW.iconst (dq rfl) ?_
        show AW l (pI pg 240) P kc ks 204 _ _ SHF _
        refine AW.istore (dq rfl) (by decide +kernel) ?_
        show AW l (pI pg 240) P kc ks 206 [(6, .int (Int32.ofInt 0)), (5, .int (nI p)), (4, .int (nI w)), (3, .int (a)), (0, .ref 58), (1, .int (one)), (2, .int (nI lf))] [] SHF _
        refine AW.iinc (dq rfl) rfl (by decide +kernel) ?_
        show AW l (pI pg 240) P kc ks 209 [(5, .int ((nI p) + Int32.ofInt 1)), (6, .int (Int32.ofInt 0)), (4, .int (nI w)), (3, .int (a)), (0, .ref 58), (1, .int (one)), (2, .int (nI lf))] [] SHF _
        refine AW.goto (dq rfl) (tgt := 139) (by decide) ?_
        refine AW.drop (lv' := [(6, .int (Int32.ofInt 0)), (5, .int ((nI p) + Int32.ofInt 1)), (4, .int (nI w)), (3, .int (a)), (0, .ref 58), (1, .int (one)), (2, .int (nI lf))]) (List.forall_mem_cons.mpr ⟨List.mem_of_getElem? (i := 1) rfl, List.forall_mem_cons.mpr ⟨List.mem_of_getElem? (i := 0) rfl, List.forall_mem_cons.mpr ⟨List.mem_of_getElem? (i := 2) rfl, List.forall_mem_cons.mpr ⟨List.mem_of_getElem? (i := 3) rfl, List.forall_mem_cons.mpr ⟨List.mem_of_getElem? (i := 4) rfl, List.forall_mem_cons.mpr ⟨List.mem_of_getElem? (i := 5) rfl, List.forall_mem_cons.mpr ⟨List.mem_of_getElem? (i := 6) rfl, fun _ h => absurd h List.not_mem_nil⟩⟩⟩⟩⟩⟩⟩) ?_
        exact k14 M1 e1 q1 h3 h9 y11 M11 e11 q11 h13
      · have _ := h13
        refine AW.iconst (dq rfl) ?_
        show AW l (pI pg 240) P kc ks 200 _ _ SHF _
        refine AW.goto (dq rfl) (tgt := 204) (by decide) ?_
        refine AW.istore (dq rfl) (by decide +kernel) ?_
        show AW l (pI pg 240) P kc ks 206 [(6, .int (Int32.ofInt 1)), (5, .int (nI p)), (4, .int (nI w)), (3, .int (a)), (0, .ref 58), (1, .int (one)), (2, .int (nI lf))] [] SHF _
        refine AW.iinc (dq rfl) rfl (by decide +kernel) ?_
        show AW l (pI pg 240) P kc ks 209 [(5, .int ((nI p) + Int32.ofInt 1)), (6, .int (Int32.ofInt 1)), (4, .int (nI w)), (3, .int (a)), (0, .ref 58), (1, .int (one)), (2, .int (nI lf))] [] SHF _
        refine AW.goto (dq rfl) (tgt := 139) (by decide) ?_
        refine AW.drop (lv' := [(6, .int (Int32.ofInt 1)), (5, .int ((nI p) + Int32.ofInt 1)), (4, .int (nI w)), (3, .int (a)), (0, .ref 58), (1, .int (one)), (2, .int (nI lf))]) (List.forall_mem_cons.mpr ⟨List.mem_of_getElem? (i := 1) rfl, List.forall_mem_cons.mpr ⟨List.mem_of_getElem? (i := 0) rfl, List.forall_mem_cons.mpr ⟨List.mem_of_getElem? (i := 2) rfl, List.forall_mem_cons.mpr ⟨List.mem_of_getElem? (i := 3) rfl, List.forall_mem_cons.mpr ⟨List.mem_of_getElem? (i := 4) rfl, List.forall_mem_cons.mpr ⟨List.mem_of_getElem? (i := 5) rfl, List.forall_mem_cons.mpr ⟨List.mem_of_getElem? (i := 6) rfl, fun _ h => absurd h List.not_mem_nil⟩⟩⟩⟩⟩⟩⟩) ?_
        exact k15 M1 e1 q1 h3 h9 y11 M11 e11 q11 h13

theorem s239_259 {l : aL} {P : aP} {kc ks : Nat} {w : Nat} {one : Int32} {M : aM} (hJ : ∀ e ∈ RM, M.2.2 e.1 e.2.1 = e.2.2)  (k2 : ∀ (h1 : (M.1 58 2 : Int32) ≤ (nI w : Int32)), AW l (pI pg 240) P kc ks 323 [(0, .ref 58), (1, .int (one))] [] SHF M) (o3 : ∀ (h1 : ¬ ((M.1 58 2 : Int32) ≤ (nI w : Int32))), vp_in ((((Int8.ofInt 8).toInt32) * (M.1 58 51)) + (nI w)) 1600) (k5 : ∀ (h1 : ¬ ((M.1 58 2 : Int32) ≤ (nI w : Int32))), ∀ (h4 : (M.1 88 ((((Int8.ofInt 8).toInt32) * (M.1 58 51)) + (nI w)).toNatClampNeg : Int32) = (Int32.ofInt (-1) : Int32)), AW l (pI pg 240) P kc ks 259 [(4, .int ((nI w) + Int32.ofInt 1)), (0, .ref 58), (1, .int (one))] [] SHF M) (o6 : ∀ (h1 : ¬ ((M.1 58 2 : Int32) ≤ (nI w : Int32))), ∀ (h4 : ¬ ((M.1 88 ((((Int8.ofInt 8).toInt32) * (M.1 58 51)) + (nI w)).toNatClampNeg : Int32) = (Int32.ofInt (-1) : Int32))), vp_in ((((Int8.ofInt 8).toInt32) * (M.1 88 ((((Int8.ofInt 8).toInt32) * (M.1 58 51)) + (nI w)).toNatClampNeg)) + (nI w)) 48) (k7 : ∀ (h1 : ¬ ((M.1 58 2 : Int32) ≤ (nI w : Int32))), ∀ (h4 : ¬ ((M.1 88 ((((Int8.ofInt 8).toInt32) * (M.1 58 51)) + (nI w)).toNatClampNeg : Int32) = (Int32.ofInt (-1) : Int32))), AW l (pI pg 240) P kc ks 259 [(4, .int ((nI w) + Int32.ofInt 1)), (0, .ref 58), (1, .int (one))] [] SHF (aset M 86 ((((Int8.ofInt 8).toInt32) * (M.1 88 ((((Int8.ofInt 8).toInt32) * (M.1 58 51)) + (nI w)).toNatClampNeg)) + (nI w)).toNatClampNeg (.int (M.1 58 51)))) : AW l (pI pg 240) P kc ks 259 [(4, .int (nI w)), (0, .ref 58), (1, .int (one))] [] SHF M := by
  refine AW.iload (dq rfl) rfl ?_
  show AW l (pI pg 240) P kc ks 261 _ _ SHF _
  refine AW.aload_n (dq rfl) rfl rfl ?_
  show AW l (pI pg 240) P kc ks 262 _ _ SHF _
  refine fw_get (dq rfl) (pg_ok.2.1 240 _ _ _ _ rfl) rfl (v := .int (M.1 58 2)) rfl ?_
  show AW l (pI pg 240) P kc ks 265 _ _ SHF _
  refine AW.icmp_ge (dq rfl) (tgt := 323) (by decide) (fun h1 => ?_) (fun h1 => ?_)
  · have _ := h1
    refine AW.drop (lv' := [(0, .ref 58), (1, .int (one))]) (List.forall_mem_cons.mpr ⟨List.mem_of_getElem? (i := 1) rfl, List.forall_mem_cons.mpr ⟨List.mem_of_getElem? (i := 2) rfl, fun _ h => absurd h List.not_mem_nil⟩⟩) ?_
    exact k2 h1
  · have _ := h1
    refine AW.aload_n (dq rfl) rfl rfl ?_
    show AW l (pI pg 240) P kc ks 269 _ _ SHF _
    refine fw_get (dq rfl) (pg_ok.2.1 240 _ _ _ _ rfl) rfl (v := .ref 88) (isTA_ok rfl (rgR_ok hJ rfl)) ?_
    show AW l (pI pg 240) P kc ks 272 _ _ SHF _
    refine AW.bipush (dq rfl) ?_
    show AW l (pI pg 240) P kc ks 274 _ _ SHF _
    refine AW.aload_n (dq rfl) rfl rfl ?_
    show AW l (pI pg 240) P kc ks 275 _ _ SHF _
    refine fw_get (dq rfl) (pg_ok.2.1 240 _ _ _ _ rfl) rfl (v := .int (M.1 58 51)) rfl ?_
    show AW l (pI pg 240) P kc ks 278 _ _ SHF _
    refine AW.imul (dq rfl) ?_
    show AW l (pI pg 240) P kc ks 279 _ _ SHF _
    refine AW.iload (dq rfl) rfl ?_
    show AW l (pI pg 240) P kc ks 281 _ _ SHF _
    refine AW.iadd (dq rfl) ?_
    show AW l (pI pg 240) P kc ks 282 _ _ SHF _
    refine AW.iald (dq rfl) rfl (o3 h1) ?_
    show AW l (pI pg 240) P kc ks 283 _ _ SHF _
    refine AW.iconst (dq rfl) ?_
    show AW l (pI pg 240) P kc ks 284 _ _ SHF _
    refine AW.icmp_eq (dq rfl) (tgt := 317) (by decide) (fun h4 => ?_) (fun h4 => ?_)
    · have _ := h4
      refine AW.iinc (dq rfl) rfl (by decide +kernel) ?_
      show AW l (pI pg 240) P kc ks 320 [(4, .int ((nI w) + Int32.ofInt 1)), (0, .ref 58), (1, .int (one))] [] SHF _
      refine AW.goto (dq rfl) (tgt := 259) (by decide) ?_
      refine AW.drop (lv' := [(4, .int ((nI w) + Int32.ofInt 1)), (0, .ref 58), (1, .int (one))]) (List.forall_mem_cons.mpr ⟨List.mem_of_getElem? (i := 0) rfl, List.forall_mem_cons.mpr ⟨List.mem_of_getElem? (i := 1) rfl, List.forall_mem_cons.mpr ⟨List.mem_of_getElem? (i := 2) rfl, fun _ h => absurd h List.not_mem_nil⟩⟩⟩) ?_
      exact k5 h1 h4
    · have _ := h4
      refine AW.aload_n (dq rfl) rfl rfl ?_
      show AW l (pI pg 240) P kc ks 288 _ _ SHF _
      refine fw_get (dq rfl) (pg_ok.2.1 240 _ _ _ _ rfl) rfl (v := .ref 86) (isTA_ok rfl (rgR_ok hJ rfl)) ?_
      show AW l (pI pg 240) P kc ks 291 _ _ SHF _
      refine AW.bipush (dq rfl) ?_
      show AW l (pI pg 240) P kc ks 293 _ _ SHF _
      refine AW.aload_n (dq rfl) rfl rfl ?_
      show AW l (pI pg 240) P kc ks 294 _ _ SHF _
      refine fw_get (dq rfl) (pg_ok.2.1 240 _ _ _ _ rfl) rfl (v := .ref 88) (isTA_ok rfl (rgR_ok hJ rfl)) ?_
      show AW l (pI pg 240) P kc ks 297 _ _ SHF _
      refine AW.bipush (dq rfl) ?_
      show AW l (pI pg 240) P kc ks 299 _ _ SHF _
      refine AW.aload_n (dq rfl) rfl rfl ?_
      show AW l (pI pg 240) P kc ks 300 _ _ SHF _
      refine fw_get (dq rfl) (pg_ok.2.1 240 _ _ _ _ rfl) rfl (v := .int (M.1 58 51)) rfl ?_
      show AW l (pI pg 240) P kc ks 303 _ _ SHF _
      refine AW.imul (dq rfl) ?_
      show AW l (pI pg 240) P kc ks 304 _ _ SHF _
      refine AW.iload (dq rfl) rfl ?_
      show AW l (pI pg 240) P kc ks 306 _ _ SHF _
      refine AW.iadd (dq rfl) ?_
      show AW l (pI pg 240) P kc ks 307 _ _ SHF _
      refine AW.iald (dq rfl) rfl (o3 h1) ?_
      show AW l (pI pg 240) P kc ks 308 _ _ SHF _
      refine AW.imul (dq rfl) ?_
      show AW l (pI pg 240) P kc ks 309 _ _ SHF _
      refine AW.iload (dq rfl) rfl ?_
      show AW l (pI pg 240) P kc ks 311 _ _ SHF _
      refine AW.iadd (dq rfl) ?_
      show AW l (pI pg 240) P kc ks 312 _ _ SHF _
      refine AW.aload_n (dq rfl) rfl rfl ?_
      show AW l (pI pg 240) P kc ks 313 _ _ SHF _
      refine fw_get (dq rfl) (pg_ok.2.1 240 _ _ _ _ rfl) rfl (v := .int (M.1 58 51)) rfl ?_
      show AW l (pI pg 240) P kc ks 316 _ _ SHF _
      refine AW.iast (dq rfl) rfl (o6 h1 h4) ?_
      show AW l (pI pg 240) P kc ks 317 _ _ SHF _
      refine AW.iinc (dq rfl) rfl (by decide +kernel) ?_
      show AW l (pI pg 240) P kc ks 320 [(4, .int ((nI w) + Int32.ofInt 1)), (0, .ref 58), (1, .int (one))] [] SHF _
      refine AW.goto (dq rfl) (tgt := 259) (by decide) ?_
      refine AW.drop (lv' := [(4, .int ((nI w) + Int32.ofInt 1)), (0, .ref 58), (1, .int (one))]) (List.forall_mem_cons.mpr ⟨List.mem_of_getElem? (i := 0) rfl, List.forall_mem_cons.mpr ⟨List.mem_of_getElem? (i := 1) rfl, List.forall_mem_cons.mpr ⟨List.mem_of_getElem? (i := 2) rfl, fun _ h => absurd h List.not_mem_nil⟩⟩⟩) ?_
      exact k7 h1 h4

