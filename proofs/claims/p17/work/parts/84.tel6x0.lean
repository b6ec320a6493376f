/-! stretches of learning, printed by wip/gen/segs_le.py -/
def RL4 : List (Nat × Nat × Nat) := [(30, 0, 32), (30, 1, 33), (41, 0, 43), (41, 1, 44)]
theorem rl4_RR : ∀ e ∈ RL4, e ∈ RR.2 := by decide +kernel
theorem rl4_RRS : ∀ e ∈ RL4, e ∈ RRS.2 := by decide +kernel
theorem wh4_0 {l : aL} {P : aP} {kc ks : Nat} {x y z : Int32} {M : aM} (hJ : ∀ e ∈ RL4, M.2.2 e.1 e.2.1 = e.2.2) (hl0 : l.1.stackTraces = false) (o1 : vp_in (x) 256) (k2 : AW l (pI pg 19) P kc ks 17 [(8, .int ((x) &&& (y))), (6, .long (M.2.1 42 (x).toNatClampNeg)), (5, .int ((x) &&& (y))), (4, .int (z)), (3, .int (y)), (2, .int (x)), (1, .ref 30), (0, .ref 41)] [] SHF M) : AW l (pI pg 19) P kc ks 0 [(0, .ref 41), (1, .ref 30), (2, .int (x)), (3, .int (y)), (4, .int (z))] [] SHF M := by
  refine AW.iload_n (dq rfl) rfl ?_
  show AW l (pI pg 19) P kc ks 1 _ _ SHF _
  refine AW.iload_n (dq rfl) rfl ?_
  show AW l (pI pg 19) P kc ks 2 _ _ SHF _
  refine AW.iand (dq rfl) ?_
  show AW l (pI pg 19) P kc ks 3 _ _ SHF _
  refine AW.istore (dq rfl) (by decide +kernel) ?_
  show AW l (pI pg 19) P kc ks 5 [(5, .int ((x) &&& (y))), (0, .ref 41), (1, .ref 30), (2, .int (x)), (3, .int (y)), (4, .int (z))] [] SHF _
  refine AW.aload_n (dq rfl) rfl rfl ?_
  show AW l (pI pg 19) P kc ks 6 _ _ SHF _
  refine fw_get (dq rfl) (pg_ok.2.1 19 _ _ _ _ rfl) rfl (v := .ref 42) (isTA_ok rfl (rgR_ok hJ rfl)) ?_
  show AW l (pI pg 19) P kc ks 9 _ _ SHF _
  refine AW.iload_n (dq rfl) rfl ?_
  show AW l (pI pg 19) P kc ks 10 _ _ SHF _
  refine AW.lald (by decide) (dq rfl) rfl (o1) ?_
  show AW l (pI pg 19) P kc ks 11 _ _ SHF _
  refine AW.lstore (dq rfl) (by decide +kernel) ?_
  show AW l (pI pg 19) P kc ks 13 [(6, .long (M.2.1 42 (x).toNatClampNeg)), (5, .int ((x) &&& (y))), (0, .ref 41), (1, .ref 30), (2, .int (x)), (3, .int (y)), (4, .int (z))] [] SHF _
  refine AW.iload (dq rfl) rfl ?_
  show AW l (pI pg 19) P kc ks 15 _ _ SHF _
  refine AW.istore (dq rfl) (by decide +kernel) ?_
  show AW l (pI pg 19) P kc ks 17 [(8, .int ((x) &&& (y))), (6, .long (M.2.1 42 (x).toNatClampNeg)), (5, .int ((x) &&& (y))), (0, .ref 41), (1, .ref 30), (2, .int (x)), (3, .int (y)), (4, .int (z))] [] SHF _
  refine AW.drop (lv' := [(8, .int ((x) &&& (y))), (6, .long (M.2.1 42 (x).toNatClampNeg)), (5, .int ((x) &&& (y))), (4, .int (z)), (3, .int (y)), (2, .int (x)), (1, .ref 30), (0, .ref 41)]) (List.forall_mem_cons.mpr ⟨List.mem_of_getElem? (i := 0) rfl, List.forall_mem_cons.mpr ⟨List.mem_of_getElem? (i := 1) rfl, List.forall_mem_cons.mpr ⟨List.mem_of_getElem? (i := 2) rfl, List.forall_mem_cons.mpr ⟨List.mem_of_getElem? (i := 7) rfl, List.forall_mem_cons.mpr ⟨List.mem_of_getElem? (i := 6) rfl, List.forall_mem_cons.mpr ⟨List.mem_of_getElem? (i := 5) rfl, List.forall_mem_cons.mpr ⟨List.mem_of_getElem? (i := 4) rfl, List.forall_mem_cons.mpr ⟨List.mem_of_getElem? (i := 3) rfl, fun _ h => absurd h List.not_mem_nil⟩⟩⟩⟩⟩⟩⟩⟩) ?_
  exact k2

theorem wh4_17 {l : aL} {P : aP} {kc ks : Nat} {x y z w v : Int32} {f : Int64} {M : aM} (hJ : ∀ e ∈ RL4, M.2.2 e.1 e.2.1 = e.2.2) (hl0 : l.1.stackTraces = false) (r2 : ∀ (h1 : (v : Int32) ≤ 0), P (.inl (some (.long (f)))) SHF M) (o3 : ∀ (h1 : ¬ ((v : Int32) ≤ 0)), vp_in (v) 256) (k5 : ∀ (h1 : ¬ ((v : Int32) ≤ 0)), ∀ (h4 : (z : Int32) < (M.1 31 (v).toNatClampNeg : Int32)), AW l (pI pg 19) P kc ks 17 [(8, .int (((v) - (Int32.ofInt 1)) &&& (w))), (6, .long (f)), (5, .int (w)), (4, .int (z)), (3, .int (y)), (2, .int (x)), (1, .ref 30), (0, .ref 41)] [] SHF M) (o6 : ∀ (h1 : ¬ ((v : Int32) ≤ 0)), ∀ (h4 : ¬ ((z : Int32) < (M.1 31 (v).toNatClampNeg : Int32))), vp_in ((x) ^^^ (v)) 256) (k7 : ∀ (h1 : ¬ ((v : Int32) ≤ 0)), ∀ (h4 : ¬ ((z : Int32) < (M.1 31 (v).toNatClampNeg : Int32))), AW l (pI pg 19) P kc ks 17 [(8, .int (((v) - (Int32.ofInt 1)) &&& (w))), (6, .long ((f) ||| (M.2.1 42 ((x) ^^^ (v)).toNatClampNeg))), (5, .int (w)), (4, .int (z)), (3, .int (y)), (2, .int (x)), (1, .ref 30), (0, .ref 41)] [] SHF M) : AW l (pI pg 19) P kc ks 17 [(8, .int (v)), (6, .long (f)), (5, .int (w)), (4, .int (z)), (3, .int (y)), (2, .int (x)), (1, .ref 30), (0, .ref 41)] [] SHF M := by
  refine AW.iload (dq rfl) rfl ?_
  show AW l (pI pg 19) P kc ks 19 _ _ SHF _
  refine AW.if_le (dq rfl) (tgt := 60) (by decide) (fun h1 => ?_) (fun h1 => ?_)
  · have _ := h1
    refine AW.lload (dq rfl) rfl ?_
    show AW l (pI pg 19) P kc ks 62 _ _ SHF _
    refine AW.lret (dq rfl) rfl ?_
    exact r2 h1
  · have _ := h1
    refine AW.aload_n (dq rfl) rfl rfl ?_
    show AW l (pI pg 19) P kc ks 23 _ _ SHF _
    refine fw_get (dq rfl) (pg_ok.2.1 19 _ _ _ _ rfl) rfl (v := .ref 31) (isTA_ok rfl (rgR_ok hJ rfl)) ?_
    show AW l (pI pg 19) P kc ks 26 _ _ SHF _
    refine AW.iload (dq rfl) rfl ?_
    show AW l (pI pg 19) P kc ks 28 _ _ SHF _
    refine AW.iald (dq rfl) rfl (o3 h1) ?_
    show AW l (pI pg 19) P kc ks 29 _ _ SHF _
    refine AW.iload (dq rfl) rfl ?_
    show AW l (pI pg 19) P kc ks 31 _ _ SHF _
    refine AW.icmp_gt (dq rfl) (tgt := 48) (by decide) (fun h4 => ?_) (fun h4 => ?_)
    · have _ := h4
      refine AW.iload (dq rfl) rfl ?_
      show AW l (pI pg 19) P kc ks 50 _ _ SHF _
      refine AW.iconst (dq rfl) ?_
      show AW l (pI pg 19) P kc ks 51 _ _ SHF _
      refine AW.isub (dq rfl) ?_
      show AW l (pI pg 19) P kc ks 52 _ _ SHF _
      refine AW.iload (dq rfl) rfl ?_
      show AW l (pI pg 19) P kc ks 54 _ _ SHF _
      refine AW.iand (dq rfl) ?_
      show AW l (pI pg 19) P kc ks 55 _ _ SHF _
      refine AW.istore (dq rfl) (by decide +kernel) ?_
      show AW l (pI pg 19) P kc ks 57 [(8, .int (((v) - (Int32.ofInt 1)) &&& (w))), (6, .long (f)), (5, .int (w)), (4, .int (z)), (3, .int (y)), (2, .int (x)), (1, .ref 30), (0, .ref 41)] [] SHF _
      refine AW.goto (dq rfl) (tgt := 17) (by decide) ?_
      refine AW.drop (lv' := [(8, .int (((v) - (Int32.ofInt 1)) &&& (w))), (6, .long (f)), (5, .int (w)), (4, .int (z)), (3, .int (y)), (2, .int (x)), (1, .ref 30), (0, .ref 41)]) (List.forall_mem_cons.mpr ⟨List.mem_of_getElem? (i := 0) rfl, List.forall_mem_cons.mpr ⟨List.mem_of_getElem? (i := 1) rfl, List.forall_mem_cons.mpr ⟨List.mem_of_getElem? (i := 2) rfl, List.forall_mem_cons.mpr ⟨List.mem_of_getElem? (i := 3) rfl, List.forall_mem_cons.mpr ⟨List.mem_of_getElem? (i := 4) rfl, List.forall_mem_cons.mpr ⟨List.mem_of_getElem? (i := 5) rfl, List.forall_mem_cons.mpr ⟨List.mem_of_getElem? (i := 6) rfl, List.forall_mem_cons.mpr ⟨List.mem_of_getElem? (i := 7) rfl, fun _ h => absurd h List.not_mem_nil⟩⟩⟩⟩⟩⟩⟩⟩) ?_
      exact k5 h1 h4
    · have _ := h4
      refine AW.lload (dq rfl) rfl ?_
      show AW l (pI pg 19) P kc ks 36 _ _ SHF _
      refine AW.aload_n (dq rfl) rfl rfl ?_
      show AW l (pI pg 19) P kc ks 37 _ _ SHF _
      refine fw_get (dq rfl) (pg_ok.2.1 19 _ _ _ _ rfl) rfl (v := .ref 42) (isTA_ok rfl (rgR_ok hJ rfl)) ?_
      show AW l (pI pg 19) P kc ks 40 _ _ SHF _
      refine AW.iload_n (dq rfl) rfl ?_
      show AW l (pI pg 19) P kc ks 41 _ _ SHF _
      refine AW.iload (dq rfl) rfl ?_
      show AW l (pI pg 19) P kc ks 43 _ _ SHF _
      refine AW.ixor (dq rfl) ?_
      show AW l (pI pg 19) P kc ks 44 _ _ SHF _
      refine AW.lald (by decide) (dq rfl) rfl (o6 h1 h4) ?_
      show AW l (pI pg 19) P kc ks 45 _ _ SHF _
      refine AW.lor (dq rfl) ?_
      show AW l (pI pg 19) P kc ks 46 _ _ SHF _
      refine AW.lstore (dq rfl) (by decide +kernel) ?_
      show AW l (pI pg 19) P kc ks 48 [(6, .long ((f) ||| (M.2.1 42 ((x) ^^^ (v)).toNatClampNeg))), (8, .int (v)), (5, .int (w)), (4, .int (z)), (3, .int (y)), (2, .int (x)), (1, .ref 30), (0, .ref 41)] [] SHF _
      refine AW.iload (dq rfl) rfl ?_
      show AW l (pI pg 19) P kc ks 50 _ _ SHF _
      refine AW.iconst (dq rfl) ?_
      show AW l (pI pg 19) P kc ks 51 _ _ SHF _
      refine AW.isub (dq rfl) ?_
      show AW l (pI pg 19) P kc ks 52 _ _ SHF _
      refine AW.iload (dq rfl) rfl ?_
      show AW l (pI pg 19) P kc ks 54 _ _ SHF _
      refine AW.iand (dq rfl) ?_
      show AW l (pI pg 19) P kc ks 55 _ _ SHF _
      refine AW.istore (dq rfl) (by decide +kernel) ?_
      show AW l (pI pg 19) P kc ks 57 [(8, .int (((v) - (Int32.ofInt 1)) &&& (w))), (6, .long ((f) ||| (M.2.1 42 ((x) ^^^ (v)).toNatClampNeg))), (5, .int (w)), (4, .int (z)), (3, .int (y)), (2, .int (x)), (1, .ref 30), (0, .ref 41)] [] SHF _
      refine AW.goto (dq rfl) (tgt := 17) (by decide) ?_
      refine AW.drop (lv' := [(8, .int (((v) - (Int32.ofInt 1)) &&& (w))), (6, .long ((f) ||| (M.2.1 42 ((x) ^^^ (v)).toNatClampNeg))), (5, .int (w)), (4, .int (z)), (3, .int (y)), (2, .int (x)), (1, .ref 30), (0, .ref 41)]) (List.forall_mem_cons.mpr ⟨List.mem_of_getElem? (i := 0) rfl, List.forall_mem_cons.mpr ⟨List.mem_of_getElem? (i := 1) rfl, List.forall_mem_cons.mpr ⟨List.mem_of_getElem? (i := 2) rfl, List.forall_mem_cons.mpr ⟨List.mem_of_getElem? (i := 3) rfl, List.forall_mem_cons.mpr ⟨List.mem_of_getElem? (i := 4) rfl, List.forall_mem_cons.mpr ⟨List.mem_of_getElem? (i := 5) rfl, List.forall_mem_cons.mpr ⟨List.mem_of_getElem? (i := 6) rfl, List.forall_mem_cons.mpr ⟨List.mem_of_getElem? (i := 7) rfl, fun _ h => absurd h List.not_mem_nil⟩⟩⟩⟩⟩⟩⟩⟩) ?_
      exact k7 h1 h4

theorem fi4a_0 {l : aL} {P : aP} {kc ks : Nat} {M : aM} (hJ : ∀ e ∈ RR.2, M.2.2 e.1 e.2.1 = e.2.2) (hl0 : l.1.stackTraces = false) (Q1 : aM → Prop) (c2 : AC l (pI pg 17) (fcV M Q1) 0 0 [.ref 42, .long (Int64.ofNat (0 : Fin 2))] SHF M) (o3 : ∀ (M1 : aM), ∀ (e1 : M1.2.2 = M.2.2), ∀ (q1 : Q1 M1), vp_in (Int32.ofInt 0) 256) (k4 : ∀ (M1 : aM), ∀ (e1 : M1.2.2 = M.2.2), ∀ (q1 : Q1 M1), AW l (pI pg 16) P kc ks 18 [(4, .int (Int32.ofInt 0)), (3, .ref 44), (2, .ref 30), (1, .ref 4), (0, .ref 41)] [] SHF (aset M1 42 (Int32.ofInt 0).toNatClampNeg (.long (Int64.ofNat (1 : Fin 2))))) : AW l (pI pg 16) P kc ks 0 [(0, .ref 41), (1, .ref 4), (2, .ref 30), (3, .ref 44)] [] SHF M := by
  refine AW.aload_n (dq rfl) rfl rfl ?_
  show AW l (pI pg 16) P kc ks 1 _ _ SHF _
  refine fw_get (dq rfl) (pg_ok.2.1 16 _ _ _ _ rfl) rfl (v := .ref 42) (isTA_ok rfl (rgR_ok hJ rfl)) ?_
  show AW l (pI pg 16) P kc ks 4 _ _ SHF _
  refine AW.lconst (dq rfl) ?_
  show AW l (pI pg 16) P kc ks 5 _ _ SHF _
  refine fw_callSV (as := [.ref 42, .long (Int64.ofNat (0 : Fin 2))]) (dq rfl) (pg_ok.2.2.1 16 _ _ _ _ rfl) (by decide +kernel) rfl rfl (c2) (fun M1 e1 q1 => ?_)
  have hJ1 : ∀ e ∈ RR.2, M1.2.2 e.1 e.2.1 = e.2.2 := fun e he => by rw [e1]; exact hJ e he
  show AW l (pI pg 16) P kc ks 8 [(0, .ref 41), (1, .ref 4), (2, .ref 30), (3, .ref 44)] [] SHF _
  refine AW.aload_n (dq rfl) rfl rfl ?_
  show AW l (pI pg 16) P kc ks 9 _ _ SHF _
  refine fw_get (dq rfl) (pg_ok.2.1 16 _ _ _ _ rfl) rfl (v := .ref 42) (isTA_ok rfl (rgR_ok hJ1 rfl)) ?_
  show AW l (pI pg 16) P kc ks 12 _ _ SHF _
  refine AW.iconst (dq rfl) ?_
  show AW l (pI pg 16) P kc ks 13 _ _ SHF _
  refine AW.lconst (dq rfl) ?_
  show AW l (pI pg 16) P kc ks 14 _ _ SHF _
  refine AW.last (by decide) (dq rfl) rfl (o3 M1 e1 q1) ?_
  show AW l (pI pg 16) P kc ks 15 _ _ SHF _
  refine AW.iconst (dq rfl) ?_
  show AW l (pI pg 16) P kc ks 16 _ _ SHF _
  refine AW.istore (dq rfl) (by decide +kernel) ?_
  show AW l (pI pg 16) P kc ks 18 [(4, .int (Int32.ofInt 0)), (0, .ref 41), (1, .ref 4), (2, .ref 30), (3, .ref 44)] [] SHF _
  refine AW.drop (lv' := [(4, .int (Int32.ofInt 0)), (3, .ref 44), (2, .ref 30), (1, .ref 4), (0, .ref 41)]) (List.forall_mem_cons.mpr ⟨List.mem_of_getElem? (i := 0) rfl, List.forall_mem_cons.mpr ⟨List.mem_of_getElem? (i := 4) rfl, List.forall_mem_cons.mpr ⟨List.mem_of_getElem? (i := 3) rfl, List.forall_mem_cons.mpr ⟨List.mem_of_getElem? (i := 2) rfl, List.forall_mem_cons.mpr ⟨List.mem_of_getElem? (i := 1) rfl, fun _ h => absurd h List.not_mem_nil⟩⟩⟩⟩⟩) ?_
  exact k4 M1 e1 q1

theorem fi4a_18 {l : aL} {P : aP} {kc ks : Nat} {p : Nat} {M : aM} (hJ : ∀ e ∈ RR.2, M.2.2 e.1 e.2.1 = e.2.2) (hl0 : l.1.stackTraces = false) (r2 : ∀ (h1 : (M.1 4 0 : Int32) ≤ (nI p : Int32)), P (.inl none) SHF M) (Q3 : Int32 → aM → Prop) (c4 : ∀ (h1 : ¬ ((M.1 4 0 : Int32) ≤ (nI p : Int32))), AC l (pI pg 18) (fcI M Q3) 0 0 [.ref 4] SHF M) (k5 : ∀ (h1 : ¬ ((M.1 4 0 : Int32) ≤ (nI p : Int32))), ∀ (y3 : Int32), ∀ (M3 : aM), ∀ (e3 : M3.2.2 = M.2.2), ∀ (q3 : Q3 y3 M3), AW l (pI pg 16) P kc ks 33 [(5, .int (y3)), (4, .int (nI p)), (3, .ref 44), (2, .ref 30), (1, .ref 4), (0, .ref 41)] [] SHF M3) : AW l (pI pg 16) P kc ks 18 [(4, .int (nI p)), (3, .ref 44), (2, .ref 30), (1, .ref 4), (0, .ref 41)] [] SHF M := by
  refine AW.iload (dq rfl) rfl ?_
  show AW l (pI pg 16) P kc ks 20 _ _ SHF _
  refine AW.aload_n (dq rfl) rfl rfl ?_
  show AW l (pI pg 16) P kc ks 21 _ _ SHF _
  refine fw_get (dq rfl) (pg_ok.2.1 16 _ _ _ _ rfl) rfl (v := .int (M.1 4 0)) rfl ?_
  show AW l (pI pg 16) P kc ks 24 _ _ SHF _
  refine AW.icmp_ge (dq rfl) (tgt := 87) (by decide) (fun h1 => ?_) (fun h1 => ?_)
  · have _ := h1
    refine AW.vret (dq rfl) rfl ?_
    exact r2 h1
  · have _ := h1
    refine AW.aload_n (dq rfl) rfl rfl ?_
    show AW l (pI pg 16) P kc ks 28 _ _ SHF _
    refine fw_callVI (as := []) (dq rfl) (pg_ok.2.2.1 16 _ _ _ _ rfl) rfl (by decide +kernel) rfl rfl (c4 h1) (fun y3 M3 e3 q3 => ?_)
    have hJ3 : ∀ e ∈ RR.2, M3.2.2 e.1 e.2.1 = e.2.2 := fun e he => by rw [e3]; exact hJ e he
    show AW l (pI pg 16) P kc ks 31 [(4, .int (nI p)), (3, .ref 44), (2, .ref 30), (1, .ref 4), (0, .ref 41)] [.int (y3)] SHF _
    refine AW.istore (dq rfl) (by decide +kernel) ?_
    show AW l (pI pg 16) P kc ks 33 [(5, .int (y3)), (4, .int (nI p)), (3, .ref 44), (2, .ref 30), (1, .ref 4), (0, .ref 41)] [] SHF _
    refine AW.drop (lv' := [(5, .int (y3)), (4, .int (nI p)), (3, .ref 44), (2, .ref 30), (1, .ref 4), (0, .ref 41)]) (List.forall_mem_cons.mpr ⟨List.mem_of_getElem? (i := 0) rfl, List.forall_mem_cons.mpr ⟨List.mem_of_getElem? (i := 1) rfl, List.forall_mem_cons.mpr ⟨List.mem_of_getElem? (i := 2) rfl, List.forall_mem_cons.mpr ⟨List.mem_of_getElem? (i := 3) rfl, List.forall_mem_cons.mpr ⟨List.mem_of_getElem? (i := 4) rfl, List.forall_mem_cons.mpr ⟨List.mem_of_getElem? (i := 5) rfl, fun _ h => absurd h List.not_mem_nil⟩⟩⟩⟩⟩⟩) ?_
    exact k5 h1 y3 M3 e3 q3

theorem fi4a_33 {l : aL} {P : aP} {kc ks : Nat} {p : Nat} {s : Int32} {M : aM} (hJ : ∀ e ∈ RR.2, M.2.2 e.1 e.2.1 = e.2.2) (hl0 : l.1.stackTraces = false) (k2 : ∀ (h1 : (s : Int32) < 0), AW l (pI pg 16) P kc ks 18 [(4, .int ((nI p) + Int32.ofInt 1)), (3, .ref 44), (2, .ref 30), (1, .ref 4), (0, .ref 41)] [] SHF M) (o3 : ∀ (h1 : ¬ ((s : Int32) < 0)), vp_in (nI p) 6) (Q4 : Int64 → aM → Prop) (c5 : ∀ (h1 : ¬ ((s : Int32) < 0)), AC l (pI pg 19) (fcJ M Q4) 0 0 [.ref 41, .ref 30, .int (s), .int (M.1 44 (nI p).toNatClampNeg), .int (M.1 5 (nI p).toNatClampNeg)] SHF M) (o6 : ∀ (h1 : ¬ ((s : Int32) < 0)), ∀ (y4 : Int64), ∀ (M4 : aM), ∀ (e4 : M4.2.2 = M.2.2), ∀ (q4 : Q4 y4 M4), vp_in (s) 256) (k7 : ∀ (h1 : ¬ ((s : Int32) < 0)), ∀ (y4 : Int64), ∀ (M4 : aM), ∀ (e4 : M4.2.2 = M.2.2), ∀ (q4 : Q4 y4 M4), AW l (pI pg 16) P kc ks 33 [(5, .int ((s) + Int32.ofInt (-1))), (4, .int (nI p)), (3, .ref 44), (2, .ref 30), (1, .ref 4), (0, .ref 41)] [] SHF (aset M4 42 (s).toNatClampNeg (.long ((M4.2.1 42 (s).toNatClampNeg) ||| ((y4) <<< (((Int32.ofInt 1) <<< ((nI p) &&& 31)).toInt64 &&& 63)))))) : AW l (pI pg 16) P kc ks 33 [(5, .int (s)), (4, .int (nI p)), (3, .ref 44), (2, .ref 30), (1, .ref 4), (0, .ref 41)] [] SHF M := by
  refine AW.iload (dq rfl) rfl ?_
  show AW l (pI pg 16) P kc ks 35 _ _ SHF _
  refine AW.if_lt (dq rfl) (tgt := 81) (by decide) (fun h1 => ?_) (fun h1 => ?_)
  · have _ := h1
    refine AW.iinc (dq rfl) rfl (by decide +kernel) ?_
    show AW l (pI pg 16) P kc ks 84 [(4, .int ((nI p) + Int32.ofInt 1)), (5, .int (s)), (3, .ref 44), (2, .ref 30), (1, .ref 4), (0, .ref 41)] [] SHF _
    refine AW.goto (dq rfl) (tgt := 18) (by decide) ?_
    refine AW.drop (lv' := [(4, .int ((nI p) + Int32.ofInt 1)), (3, .ref 44), (2, .ref 30), (1, .ref 4), (0, .ref 41)]) (List.forall_mem_cons.mpr ⟨List.mem_of_getElem? (i := 0) rfl, List.forall_mem_cons.mpr ⟨List.mem_of_getElem? (i := 2) rfl, List.forall_mem_cons.mpr ⟨List.mem_of_getElem? (i := 3) rfl, List.forall_mem_cons.mpr ⟨List.mem_of_getElem? (i := 4) rfl, List.forall_mem_cons.mpr ⟨List.mem_of_getElem? (i := 5) rfl, fun _ h => absurd h List.not_mem_nil⟩⟩⟩⟩⟩) ?_
    exact k2 h1
  · have _ := h1
    refine AW.aload_n (dq rfl) rfl rfl ?_
    show AW l (pI pg 16) P kc ks 39 _ _ SHF _
    refine AW.aload_n (dq rfl) rfl rfl ?_
    show AW l (pI pg 16) P kc ks 40 _ _ SHF _
    refine AW.iload (dq rfl) rfl ?_
    show AW l (pI pg 16) P kc ks 42 _ _ SHF _
    refine AW.aload_n (dq rfl) rfl rfl ?_
    show AW l (pI pg 16) P kc ks 43 _ _ SHF _
    refine AW.iload (dq rfl) rfl ?_
    show AW l (pI pg 16) P kc ks 45 _ _ SHF _
    refine AW.iald (dq rfl) rfl (o3 h1) ?_
    show AW l (pI pg 16) P kc ks 46 _ _ SHF _
    refine AW.aload_n (dq rfl) rfl rfl ?_
    show AW l (pI pg 16) P kc ks 47 _ _ SHF _
    refine fw_get (dq rfl) (pg_ok.2.1 16 _ _ _ _ rfl) rfl (v := .ref 5) (isTA_ok rfl (rgR_ok hJ rfl)) ?_
    show AW l (pI pg 16) P kc ks 50 _ _ SHF _
    refine AW.iload (dq rfl) rfl ?_
    show AW l (pI pg 16) P kc ks 52 _ _ SHF _
    refine AW.iald (dq rfl) rfl (o3 h1) ?_
    show AW l (pI pg 16) P kc ks 53 _ _ SHF _
    refine fw_callVJ (as := [.ref 30, .int (s), .int (M.1 44 (nI p).toNatClampNeg), .int (M.1 5 (nI p).toNatClampNeg)]) (dq rfl) (pg_ok.2.2.1 16 _ _ _ _ rfl) rfl (by decide +kernel) rfl rfl (c5 h1) (fun y4 M4 e4 q4 => ?_)
    have hJ4 : ∀ e ∈ RR.2, M4.2.2 e.1 e.2.1 = e.2.2 := fun e he => by rw [e4]; exact hJ e he
    show AW l (pI pg 16) P kc ks 56 [(5, .int (s)), (4, .int (nI p)), (3, .ref 44), (2, .ref 30), (1, .ref 4), (0, .ref 41)] [.long (y4)] SHF _
    refine AW.lstore (dq rfl) (by decide +kernel) ?_
    show AW l (pI pg 16) P kc ks 58 [(6, .long (y4)), (5, .int (s)), (4, .int (nI p)), (3, .ref 44), (2, .ref 30), (1, .ref 4), (0, .ref 41)] [] SHF _
    refine AW.aload_n (dq rfl) rfl rfl ?_
    show AW l (pI pg 16) P kc ks 59 _ _ SHF _
    refine fw_get (dq rfl) (pg_ok.2.1 16 _ _ _ _ rfl) rfl (v := .ref 42) (isTA_ok rfl (rgR_ok hJ4 rfl)) ?_
    show AW l (pI pg 16) P kc ks 62 _ _ SHF _
    refine AW.iload (dq rfl) rfl ?_
    show AW l (pI pg 16) P kc ks 64 _ _ SHF _
    refine AW.dup2_11 (dq rfl) rfl rfl ?_
    show AW l (pI pg 16) P kc ks 65 _ _ SHF _
    refine AW.lald (by decide) (dq rfl) rfl (o6 h1 y4 M4 e4 q4) ?_
    show AW l (pI pg 16) P kc ks 66 _ _ SHF _
    refine AW.lload (dq rfl) rfl ?_
    show AW l (pI pg 16) P kc ks 68 _ _ SHF _
    refine AW.iconst (dq rfl) ?_
    show AW l (pI pg 16) P kc ks 69 _ _ SHF _
    refine AW.iload (dq rfl) rfl ?_
    show AW l (pI pg 16) P kc ks 71 _ _ SHF _
    refine AW.ishl (dq rfl) ?_
    show AW l (pI pg 16) P kc ks 72 _ _ SHF _
    refine AW.lshl (dq rfl) ?_
    show AW l (pI pg 16) P kc ks 73 _ _ SHF _
    refine AW.lor (dq rfl) ?_
    show AW l (pI pg 16) P kc ks 74 _ _ SHF _
    refine AW.last (by decide) (dq rfl) rfl (o6 h1 y4 M4 e4 q4) ?_
    show AW l (pI pg 16) P kc ks 75 _ _ SHF _
    refine AW.iinc (dq rfl) rfl (by decide +kernel) ?_
    show AW l (pI pg 16) P kc ks 78 [(5, .int ((s) + Int32.ofInt (-1))), (6, .long (y4)), (4, .int (nI p)), (3, .ref 44), (2, .ref 30), (1, .ref 4), (0, .ref 41)] [] SHF _
    refine AW.goto (dq rfl) (tgt := 33) (by decide) ?_
    refine AW.drop (lv' := [(5, .int ((s) + Int32.ofInt (-1))), (4, .int (nI p)), (3, .ref 44), (2, .ref 30), (1, .ref 4), (0, .ref 41)]) (List.forall_mem_cons.mpr ⟨List.mem_of_getElem? (i := 0) rfl, List.forall_mem_cons.mpr ⟨List.mem_of_getElem? (i := 2) rfl, List.forall_mem_cons.mpr ⟨List.mem_of_getElem? (i := 3) rfl, List.forall_mem_cons.mpr ⟨List.mem_of_getElem? (i := 4) rfl, List.forall_mem_cons.mpr ⟨List.mem_of_getElem? (i := 5) rfl, List.forall_mem_cons.mpr ⟨List.mem_of_getElem? (i := 6) rfl, fun _ h => absurd h List.not_mem_nil⟩⟩⟩⟩⟩⟩) ?_
    exact k7 h1 y4 M4 e4 q4

theorem in4_0 {l : aL} {P : aP} {kc ks : Nat} {x : Int32} {f : Int64} {M : aM} (hJ : ∀ e ∈ RL4, M.2.2 e.1 e.2.1 = e.2.2) (hl0 : l.1.stackTraces = false) (o1 : vp_in (x) 256) (r3 : ∀ (h2 : ¬ (lg_cmp ((M.2.1 42 (x).toNatClampNeg) &&& (f)) (f) : Int32) = 0), P (.inl (some (.int (Int32.ofInt 0)))) SHF M) (r4 : ∀ (h2 : (lg_cmp ((M.2.1 42 (x).toNatClampNeg) &&& (f)) (f) : Int32) = 0), P (.inl (some (.int (Int32.ofInt 1)))) SHF M) : AW l (pI pg 119) P kc ks 0 [(0, .ref 41), (1, .int (x)), (2, .long (f))] [] SHF M := by
  refine AW.aload_n (dq rfl) rfl rfl ?_
  show AW l (pI pg 119) P kc ks 1 _ _ SHF _
  refine fw_get (dq rfl) (pg_ok.2.1 119 _ _ _ _ rfl) rfl (v := .ref 42) (isTA_ok rfl (rgR_ok hJ rfl)) ?_
  show AW l (pI pg 119) P kc ks 4 _ _ SHF _
  refine AW.iload_n (dq rfl) rfl ?_
  show AW l (pI pg 119) P kc ks 5 _ _ SHF _
  refine AW.lald (by decide) (dq rfl) rfl (o1) ?_
  show AW l (pI pg 119) P kc ks 6 _ _ SHF _
  refine AW.lload_n (dq rfl) rfl ?_
  show AW l (pI pg 119) P kc ks 7 _ _ SHF _
  refine AW.land (dq rfl) ?_
  show AW l (pI pg 119) P kc ks 8 _ _ SHF _
  refine AW.lload_n (dq rfl) rfl ?_
  show AW l (pI pg 119) P kc ks 9 _ _ SHF _
  refine AW.lcmp (dq rfl) ?_
  show AW l (pI pg 119) P kc ks 10 _ _ SHF _
  refine AW.if_ne (dq rfl) (tgt := 17) (by decide) (fun h2 => ?_) (fun h2 => ?_)
  · have _ := h2
    refine AW.iconst (dq rfl) ?_
    show AW l (pI pg 119) P kc ks 18 _ _ SHF _
    refine AW.zret (dq rfl) rfl (by decide) ?_
    exact r3 h2
  · have _ := h2
    refine AW.iconst (dq rfl) ?_
    show AW l (pI pg 119) P kc ks 14 _ _ SHF _
    refine AW.goto (dq rfl) (tgt := 18) (by decide) ?_
    refine AW.zret (dq rfl) rfl (by decide) ?_
    exact r4 h2

theorem hwia_0 {l : aL} {P : aP} {kc ks : Nat} {x : Int32} {f : Int64} {M : aM} (hJ : ∀ e ∈ RR.2, M.2.2 e.1 e.2.1 = e.2.2) (hl0 : l.1.stackTraces = false) (k1 : AW l (pI pg 134) P kc ks 18 [(6, .int (Int32.ofInt 0)), (4, .long (f)), (3, .int (x)), (2, .ref 30), (1, .ref 4), (0, .ref 40)] [] SHF (acpy M 7 44 (Int32.ofInt 0).toNatClampNeg (Int32.ofInt 0).toNatClampNeg ((Int8.ofInt 6).toInt32).toNatClampNeg)) : AW l (pI pg 134) P kc ks 0 [(0, .ref 40), (1, .ref 4), (2, .ref 30), (3, .int (x)), (4, .long (f))] [] SHF M := by
  refine AW.aload_n (dq rfl) rfl rfl ?_
  show AW l (pI pg 134) P kc ks 1 _ _ SHF _
  refine fw_get (dq rfl) (pg_ok.2.1 134 _ _ _ _ rfl) rfl (v := .ref 7) (isTA_ok rfl (rgR_ok hJ rfl)) ?_
  show AW l (pI pg 134) P kc ks 4 _ _ SHF _
  refine AW.iconst (dq rfl) ?_
  show AW l (pI pg 134) P kc ks 5 _ _ SHF _
  refine AW.aload_n (dq rfl) rfl rfl ?_
  show AW l (pI pg 134) P kc ks 6 _ _ SHF _
  refine fw_get (dq rfl) (pg_ok.2.1 134 _ _ _ _ rfl) rfl (v := .ref 44) (isTA_ok rfl (rgR_ok hJ rfl)) ?_
  show AW l (pI pg 134) P kc ks 9 _ _ SHF _
  refine AW.iconst (dq rfl) ?_
  show AW l (pI pg 134) P kc ks 10 _ _ SHF _
  refine AW.bipush (dq rfl) ?_
  show AW l (pI pg 134) P kc ks 12 _ _ SHF _
  refine AW.copyi (i := 7) (j := 44) (n0 := 6) (n1 := 6) (sp := Int32.ofInt 0) (dp := Int32.ofInt 0) (k := (Int8.ofInt 6).toInt32) (dq rfl) ((pg_ok.2.2.1 134 _ _ _ _ rfl).2.2.2.2.2.1 rfl) rfl rfl (by decide) (by decide) (by decide) (by decide) (by decide) (by decide +kernel) (by decide +kernel) ?_
  show AW l (pI pg 134) P kc ks 15 [(0, .ref 40), (1, .ref 4), (2, .ref 30), (3, .int (x)), (4, .long (f))] [] SHF _
  refine AW.iconst (dq rfl) ?_
  show AW l (pI pg 134) P kc ks 16 _ _ SHF _
  refine AW.istore (dq rfl) (by decide +kernel) ?_
  show AW l (pI pg 134) P kc ks 18 [(6, .int (Int32.ofInt 0)), (0, .ref 40), (1, .ref 4), (2, .ref 30), (3, .int (x)), (4, .long (f))] [] SHF _
  refine AW.drop (lv' := [(6, .int (Int32.ofInt 0)), (4, .long (f)), (3, .int (x)), (2, .ref 30), (1, .ref 4), (0, .ref 40)]) (List.forall_mem_cons.mpr ⟨List.mem_of_getElem? (i := 0) rfl, List.forall_mem_cons.mpr ⟨List.mem_of_getElem? (i := 5) rfl, List.forall_mem_cons.mpr ⟨List.mem_of_getElem? (i := 4) rfl, List.forall_mem_cons.mpr ⟨List.mem_of_getElem? (i := 3) rfl, List.forall_mem_cons.mpr ⟨List.mem_of_getElem? (i := 2) rfl, List.forall_mem_cons.mpr ⟨List.mem_of_getElem? (i := 1) rfl, fun _ h => absurd h List.not_mem_nil⟩⟩⟩⟩⟩⟩) ?_
  exact k1

theorem hwia_18 {l : aL} {P : aP} {kc ks : Nat} {k : Nat} {x : Int32} {f : Int64} {M : aM} (hJ : ∀ e ∈ RR.2, M.2.2 e.1 e.2.1 = e.2.2) (hl0 : l.1.stackTraces = false) (Q2 : aM → Prop) (c3 : ∀ (h1 : (M.1 4 2 : Int32) ≤ (nI k : Int32)), AC l (pI pg 16) (fcV M Q2) 0 0 [.ref 41, .ref 4, .ref 30, .ref 44] SHF M) (Q4 : aM → Int32 → aM → Prop) (c5 : ∀ (h1 : (M.1 4 2 : Int32) ≤ (nI k : Int32)), ∀ (M2 : aM), ∀ (e2 : M2.2.2 = M.2.2), ∀ (q2 : Q2 M2), AC l (pI pg 18) (fcI M2 (Q4 M2)) 0 0 [.ref 4] SHF M2) (Q6 : aM → Int32 → aM → Int32 → aM → Prop) (c7 : ∀ (h1 : (M.1 4 2 : Int32) ≤ (nI k : Int32)), ∀ (M2 : aM), ∀ (e2 : M2.2.2 = M.2.2), ∀ (q2 : Q2 M2), ∀ (y4 : Int32), ∀ (M4 : aM), ∀ (e4 : M4.2.2 = M2.2.2), ∀ (q4 : (Q4 M2) y4 M4), AC l (pI pg 119) (fcI M4 (Q6 M2 y4 M4)) 0 0 [.ref 41, .int (y4), .long (f)] SHF M4) (z8 : ∀ (h1 : (M.1 4 2 : Int32) ≤ (nI k : Int32)), ∀ (M2 : aM), ∀ (e2 : M2.2.2 = M.2.2), ∀ (q2 : Q2 M2), ∀ (y4 : Int32), ∀ (M4 : aM), ∀ (e4 : M4.2.2 = M2.2.2), ∀ (q4 : (Q4 M2) y4 M4), ∀ (y6 : Int32), ∀ (M6 : aM), ∀ (e6 : M6.2.2 = M4.2.2), ∀ (q6 : (Q6 M2 y4 M4) y6 M6), narrow (.boolean) (.int (y6)) = .int (y6)) (r9 : ∀ (h1 : (M.1 4 2 : Int32) ≤ (nI k : Int32)), ∀ (M2 : aM), ∀ (e2 : M2.2.2 = M.2.2), ∀ (q2 : Q2 M2), ∀ (y4 : Int32), ∀ (M4 : aM), ∀ (e4 : M4.2.2 = M2.2.2), ∀ (q4 : (Q4 M2) y4 M4), ∀ (y6 : Int32), ∀ (M6 : aM), ∀ (e6 : M6.2.2 = M4.2.2), ∀ (q6 : (Q6 M2 y4 M4) y6 M6), P (.inl (some (.int (y6)))) SHF M6) (o10 : ∀ (h1 : ¬ ((M.1 4 2 : Int32) ≤ (nI k : Int32))), vp_in (nI k) 8) (k12 : ∀ (h1 : ¬ ((M.1 4 2 : Int32) ≤ (nI k : Int32))), ∀ (h11 : (((x) >>> ((nI k) &&& 31)) &&& (Int32.ofInt 1) : Int32) = 0), AW l (pI pg 134) P kc ks 18 [(6, .int ((nI k) + Int32.ofInt 1)), (4, .long (f)), (3, .int (x)), (2, .ref 30), (1, .ref 4), (0, .ref 40)] [] SHF M) (k15 : ∀ (h1 : ¬ ((M.1 4 2 : Int32) ≤ (nI k : Int32))), ∀ (h11 : ¬ ((((x) >>> ((nI k) &&& 31)) &&& (Int32.ofInt 1) : Int32) = 0)), ∀ (h14 : (hpV (M.1 4 0) (M.1 13 (nI k).toNatClampNeg) : Int32) = 0), AW l (pI pg 134) P kc ks 18 [(6, .int ((nI k) + Int32.ofInt 1)), (4, .long (f)), (3, .int (x)), (2, .ref 30), (1, .ref 4), (0, .ref 40)] [] SHF M) (o16 : ∀ (h1 : ¬ ((M.1 4 2 : Int32) ≤ (nI k : Int32))), ∀ (h11 : ¬ ((((x) >>> ((nI k) &&& 31)) &&& (Int32.ofInt 1) : Int32) = 0)), ∀ (h14 : ¬ ((hpV (M.1 4 0) (M.1 13 (nI k).toNatClampNeg) : Int32) = 0)), vp_in (M.1 13 (nI k).toNatClampNeg) 6) (k17 : ∀ (h1 : ¬ ((M.1 4 2 : Int32) ≤ (nI k : Int32))), ∀ (h11 : ¬ ((((x) >>> ((nI k) &&& 31)) &&& (Int32.ofInt 1) : Int32) = 0)), ∀ (h14 : ¬ ((hpV (M.1 4 0) (M.1 13 (nI k).toNatClampNeg) : Int32) = 0)), AW l (pI pg 134) P kc ks 18 [(6, .int ((nI k) + Int32.ofInt 1)), (4, .long (f)), (3, .int (x)), (2, .ref 30), (1, .ref 4), (0, .ref 40)] [] SHF (aset M 44 (M.1 13 (nI k).toNatClampNeg).toNatClampNeg (.int ((M.1 44 (M.1 13 (nI k).toNatClampNeg).toNatClampNeg) ||| ((Int32.ofInt 1) <<< ((M.1 14 (nI k).toNatClampNeg) &&& 31)))))) : AW l (pI pg 134) P kc ks 18 [(6, .int (nI k)), (4, .long (f)), (3, .int (x)), (2, .ref 30), (1, .ref 4), (0, .ref 40)] [] SHF M := by
  refine AW.iload (dq rfl) rfl ?_
  show AW l (pI pg 134) P kc ks 20 _ _ SHF _
  refine AW.aload_n (dq rfl) rfl rfl ?_
  show AW l (pI pg 134) P kc ks 21 _ _ SHF _
  refine fw_get (dq rfl) (pg_ok.2.1 134 _ _ _ _ rfl) rfl (v := .int (M.1 4 2)) rfl ?_
  show AW l (pI pg 134) P kc ks 24 _ _ SHF _
  refine AW.icmp_ge (dq rfl) (tgt := 79) (by decide) (fun h1 => ?_) (fun h1 => ?_)
  · have _ := h1
    refine AW.aload_n (dq rfl) rfl rfl ?_
    show AW l (pI pg 134) P kc ks 80 _ _ SHF _
    refine fw_get (dq rfl) (pg_ok.2.1 134 _ _ _ _ rfl) rfl (v := .ref 41) (isTA_ok rfl (rgR_ok hJ rfl)) ?_
    show AW l (pI pg 134) P kc ks 83 _ _ SHF _
    refine AW.aload_n (dq rfl) rfl rfl ?_
    show AW l (pI pg 134) P kc ks 84 _ _ SHF _
    refine AW.aload_n (dq rfl) rfl rfl ?_
    show AW l (pI pg 134) P kc ks 85 _ _ SHF _
    refine AW.aload_n (dq rfl) rfl rfl ?_
    show AW l (pI pg 134) P kc ks 86 _ _ SHF _
    refine fw_get (dq rfl) (pg_ok.2.1 134 _ _ _ _ rfl) rfl (v := .ref 44) (isTA_ok rfl (rgR_ok hJ rfl)) ?_
    show AW l (pI pg 134) P kc ks 89 _ _ SHF _
    refine fw_callVV (as := [.ref 4, .ref 30, .ref 44]) (dq rfl) (pg_ok.2.2.1 134 _ _ _ _ rfl) rfl (by decide +kernel) rfl rfl (c3 h1) (fun M2 e2 q2 => ?_)
    have hJ2 : ∀ e ∈ RR.2, M2.2.2 e.1 e.2.1 = e.2.2 := fun e he => by rw [e2]; exact hJ e he
    show AW l (pI pg 134) P kc ks 92 [(6, .int (nI k)), (4, .long (f)), (3, .int (x)), (2, .ref 30), (1, .ref 4), (0, .ref 40)] [] SHF _
    refine AW.aload_n (dq rfl) rfl rfl ?_
    show AW l (pI pg 134) P kc ks 93 _ _ SHF _
    refine fw_get (dq rfl) (pg_ok.2.1 134 _ _ _ _ rfl) rfl (v := .ref 41) (isTA_ok rfl (rgR_ok hJ2 rfl)) ?_
    show AW l (pI pg 134) P kc ks 96 _ _ SHF _
    refine AW.aload_n (dq rfl) rfl rfl ?_
    show AW l (pI pg 134) P kc ks 97 _ _ SHF _
    refine fw_callVI (as := []) (dq rfl) (pg_ok.2.2.1 134 _ _ _ _ rfl) rfl (by decide +kernel) rfl rfl (c5 h1 M2 e2 q2) (fun y4 M4 e4 q4 => ?_)
    have hJ4 : ∀ e ∈ RR.2, M4.2.2 e.1 e.2.1 = e.2.2 := fun e he => by rw [e4]; exact hJ2 e he
    show AW l (pI pg 134) P kc ks 100 [(6, .int (nI k)), (4, .long (f)), (3, .int (x)), (2, .ref 30), (1, .ref 4), (0, .ref 40)] [.int (y4), .ref 41] SHF _
    refine AW.lload (dq rfl) rfl ?_
    show AW l (pI pg 134) P kc ks 102 _ _ SHF _
    refine fw_callVI (as := [.int (y4), .long (f)]) (dq rfl) (pg_ok.2.2.1 134 _ _ _ _ rfl) rfl (by decide +kernel) rfl rfl (c7 h1 M2 e2 q2 y4 M4 e4 q4) (fun y6 M6 e6 q6 => ?_)
    have hJ6 : ∀ e ∈ RR.2, M6.2.2 e.1 e.2.1 = e.2.2 := fun e he => by rw [e6]; exact hJ4 e he
    show AW l (pI pg 134) P kc ks 105 [(6, .int (nI k)), (4, .long (f)), (3, .int (x)), (2, .ref 30), (1, .ref 4), (0, .ref 40)] [.int (y6)] SHF _
    refine AW.zret (dq rfl) rfl (z8 h1 M2 e2 q2 y4 M4 e4 q4 y6 M6 e6 q6) ?_
    exact r9 h1 M2 e2 q2 y4 M4 e4 q4 y6 M6 e6 q6
  · have _ := h1
    refine AW.aload_n (dq rfl) rfl rfl ?_
    show AW l (pI pg 134) P kc ks 28 _ _ SHF _
    refine fw_get (dq rfl) (pg_ok.2.1 134 _ _ _ _ rfl) rfl (v := .ref 13) (isTA_ok rfl (rgR_ok hJ rfl)) ?_
    show AW l (pI pg 134) P kc ks 31 _ _ SHF _
    refine AW.iload (dq rfl) rfl ?_
    show AW l (pI pg 134) P kc ks 33 _ _ SHF _
    refine AW.iald (dq rfl) rfl (o10 h1) ?_
    show AW l (pI pg 134) P kc ks 34 _ _ SHF _
    refine AW.istore (dq rfl) (by decide +kernel) ?_
    show AW l (pI pg 134) P kc ks 36 [(7, .int (M.1 13 (nI k).toNatClampNeg)), (6, .int (nI k)), (4, .long (f)), (3, .int (x)), (2, .ref 30), (1, .ref 4), (0, .ref 40)] [] SHF _
    refine AW.iload_n (dq rfl) rfl ?_
    show AW l (pI pg 134) P kc ks 37 _ _ SHF _
    refine AW.iload (dq rfl) rfl ?_
    show AW l (pI pg 134) P kc ks 39 _ _ SHF _
    refine AW.ishr (dq rfl) ?_
    show AW l (pI pg 134) P kc ks 40 _ _ SHF _
    refine AW.iconst (dq rfl) ?_
    show AW l (pI pg 134) P kc ks 41 _ _ SHF _
    refine AW.iand (dq rfl) ?_
    show AW l (pI pg 134) P kc ks 42 _ _ SHF _
    refine AW.if_eq (dq rfl) (tgt := 73) (by decide) (fun h11 => ?_) (fun h11 => ?_)
    · have _ := h11
      refine AW.iinc (dq rfl) rfl (by decide +kernel) ?_
      show AW l (pI pg 134) P kc ks 76 [(6, .int ((nI k) + Int32.ofInt 1)), (7, .int (M.1 13 (nI k).toNatClampNeg)), (4, .long (f)), (3, .int (x)), (2, .ref 30), (1, .ref 4), (0, .ref 40)] [] SHF _
      refine AW.goto (dq rfl) (tgt := 18) (by decide) ?_
      refine AW.drop (lv' := [(6, .int ((nI k) + Int32.ofInt 1)), (4, .long (f)), (3, .int (x)), (2, .ref 30), (1, .ref 4), (0, .ref 40)]) (List.forall_mem_cons.mpr ⟨List.mem_of_getElem? (i := 0) rfl, List.forall_mem_cons.mpr ⟨List.mem_of_getElem? (i := 2) rfl, List.forall_mem_cons.mpr ⟨List.mem_of_getElem? (i := 3) rfl, List.forall_mem_cons.mpr ⟨List.mem_of_getElem? (i := 4) rfl, List.forall_mem_cons.mpr ⟨List.mem_of_getElem? (i := 5) rfl, List.forall_mem_cons.mpr ⟨List.mem_of_getElem? (i := 6) rfl, fun _ h => absurd h List.not_mem_nil⟩⟩⟩⟩⟩⟩) ?_
      exact k12 h1 h11
    · have _ := h11
      refine AW.aload_n (dq rfl) rfl rfl ?_
      show AW l (pI pg 134) P kc ks 46 _ _ SHF _
      refine AW.iload (dq rfl) rfl ?_
      show AW l (pI pg 134) P kc ks 48 _ _ SHF _
      refine fw_callVI (as := [.int (M.1 13 (nI k).toNatClampNeg)]) (dq rfl) (pg_ok.2.2.1 134 _ _ _ _ rfl) rfl (by decide +kernel) rfl rfl (hpeA_c hl0 (fun e he => (fun e he => hJ e he) e (rk_RR e he))) (fun y13 M13 e13 q13 => ?_)
      obtain ⟨rfl, rfl⟩ := q13
      show AW l (pI pg 134) P kc ks 51 [(7, .int (M.1 13 (nI k).toNatClampNeg)), (6, .int (nI k)), (4, .long (f)), (3, .int (x)), (2, .ref 30), (1, .ref 4), (0, .ref 40)] [.int (hpV (M.1 4 0) (M.1 13 (nI k).toNatClampNeg))] SHF _
      refine AW.if_eq (dq rfl) (tgt := 73) (by decide) (fun h14 => ?_) (fun h14 => ?_)
      · have _ := h14
        refine AW.iinc (dq rfl) rfl (by decide +kernel) ?_
        show AW l (pI pg 134) P kc ks 76 [(6, .int ((nI k) + Int32.ofInt 1)), (7, .int (M.1 13 (nI k).toNatClampNeg)), (4, .long (f)), (3, .int (x)), (2, .ref 30), (1, .ref 4), (0, .ref 40)] [] SHF _
        refine AW.goto (dq rfl) (tgt := 18) (by decide) ?_
        refine AW.drop (lv' := [(6, .int ((nI k) + Int32.ofInt 1)), (4, .long (f)), (3, .int (x)), (2, .ref 30), (1, .ref 4), (0, .ref 40)]) (List.forall_mem_cons.mpr ⟨List.mem_of_getElem? (i := 0) rfl, List.forall_mem_cons.mpr ⟨List.mem_of_getElem? (i := 2) rfl, List.forall_mem_cons.mpr ⟨List.mem_of_getElem? (i := 3) rfl, List.forall_mem_cons.mpr ⟨List.mem_of_getElem? (i := 4) rfl, List.forall_mem_cons.mpr ⟨List.mem_of_getElem? (i := 5) rfl, List.forall_mem_cons.mpr ⟨List.mem_of_getElem? (i := 6) rfl, fun _ h => absurd h List.not_mem_nil⟩⟩⟩⟩⟩⟩) ?_
        exact k15 h1 h11 h14
      · have _ := h14
        refine AW.aload_n (dq rfl) rfl rfl ?_
        show AW l (pI pg 134) P kc ks 55 _ _ SHF _
        refine fw_get (dq rfl) (pg_ok.2.1 134 _ _ _ _ rfl) rfl (v := .ref 44) (isTA_ok rfl (rgR_ok hJ rfl)) ?_
        show AW l (pI pg 134) P kc ks 58 _ _ SHF _
        refine AW.iload (dq rfl) rfl ?_
        show AW l (pI pg 134) P kc ks 60 _ _ SHF _
        refine AW.dup2_11 (dq rfl) rfl rfl ?_
        show AW l (pI pg 134) P kc ks 61 _ _ SHF _
        refine AW.iald (dq rfl) rfl (o16 h1 h11 h14) ?_
        show AW l (pI pg 134) P kc ks 62 _ _ SHF _
        refine AW.iconst (dq rfl) ?_
        show AW l (pI pg 134) P kc ks 63 _ _ SHF _
        refine AW.aload_n (dq rfl) rfl rfl ?_
        show AW l (pI pg 134) P kc ks 64 _ _ SHF _
        refine fw_get (dq rfl) (pg_ok.2.1 134 _ _ _ _ rfl) rfl (v := .ref 14) (isTA_ok rfl (rgR_ok hJ rfl)) ?_
        show AW l (pI pg 134) P kc ks 67 _ _ SHF _
        refine AW.iload (dq rfl) rfl ?_
        show AW l (pI pg 134) P kc ks 69 _ _ SHF _
        refine AW.iald (dq rfl) rfl (o10 h1) ?_
        show AW l (pI pg 134) P kc ks 70 _ _ SHF _
        refine AW.ishl (dq rfl) ?_
        show AW l (pI pg 134) P kc ks 71 _ _ SHF _
        refine AW.ior (dq rfl) ?_
        show AW l (pI pg 134) P kc ks 72 _ _ SHF _
        refine AW.iast (dq rfl) rfl (o16 h1 h11 h14) ?_
        show AW l (pI pg 134) P kc ks 73 _ _ SHF _
        refine AW.iinc (dq rfl) rfl (by decide +kernel) ?_
        show AW l (pI pg 134) P kc ks 76 [(6, .int ((nI k) + Int32.ofInt 1)), (7, .int (M.1 13 (nI k).toNatClampNeg)), (4, .long (f)), (3, .int (x)), (2, .ref 30), (1, .ref 4), (0, .ref 40)] [] SHF _
        refine AW.goto (dq rfl) (tgt := 18) (by decide) ?_
        refine AW.drop (lv' := [(6, .int ((nI k) + Int32.ofInt 1)), (4, .long (f)), (3, .int (x)), (2, .ref 30), (1, .ref 4), (0, .ref 40)]) (List.forall_mem_cons.mpr ⟨List.mem_of_getElem? (i := 0) rfl, List.forall_mem_cons.mpr ⟨List.mem_of_getElem? (i := 2) rfl, List.forall_mem_cons.mpr ⟨List.mem_of_getElem? (i := 3) rfl, List.forall_mem_cons.mpr ⟨List.mem_of_getElem? (i := 4) rfl, List.forall_mem_cons.mpr ⟨List.mem_of_getElem? (i := 5) rfl, List.forall_mem_cons.mpr ⟨List.mem_of_getElem? (i := 6) rfl, fun _ h => absurd h List.not_mem_nil⟩⟩⟩⟩⟩⟩) ?_
        exact k17 h1 h11 h14

theorem psoa_0 {l : aL} {P : aP} {kc ks : Nat} {x : Int32} {M : aM} (hJ : ∀ e ∈ RR.2, M.2.2 e.1 e.2.1 = e.2.2) (hl0 : l.1.stackTraces = false) (k1 : AW l (pI pg 135) P kc ks 4 [(3, .int (Int32.ofInt 0)), (2, .int (Int32.ofInt 0)), (1, .int (x)), (0, .ref 4)] [] SHF M) : AW l (pI pg 135) P kc ks 0 [(0, .ref 4), (1, .int (x))] [] SHF M := by
  refine AW.iconst (dq rfl) ?_
  show AW l (pI pg 135) P kc ks 1 _ _ SHF _
  refine AW.istore_n (dq rfl) (by decide +kernel) ?_
  show AW l (pI pg 135) P kc ks 2 [(2, .int (Int32.ofInt 0)), (0, .ref 4), (1, .int (x))] [] SHF _
  refine AW.iconst (dq rfl) ?_
  show AW l (pI pg 135) P kc ks 3 _ _ SHF _
  refine AW.istore_n (dq rfl) (by decide +kernel) ?_
  show AW l (pI pg 135) P kc ks 4 [(3, .int (Int32.ofInt 0)), (2, .int (Int32.ofInt 0)), (0, .ref 4), (1, .int (x))] [] SHF _
  refine AW.drop (lv' := [(3, .int (Int32.ofInt 0)), (2, .int (Int32.ofInt 0)), (1, .int (x)), (0, .ref 4)]) (List.forall_mem_cons.mpr ⟨List.mem_of_getElem? (i := 0) rfl, List.forall_mem_cons.mpr ⟨List.mem_of_getElem? (i := 1) rfl, List.forall_mem_cons.mpr ⟨List.mem_of_getElem? (i := 3) rfl, List.forall_mem_cons.mpr ⟨List.mem_of_getElem? (i := 2) rfl, fun _ h => absurd h List.not_mem_nil⟩⟩⟩⟩) ?_
  exact k1

theorem psoa_4 {l : aL} {P : aP} {kc ks : Nat} {k : Nat} {v x : Int32} {M : aM} (hJ : ∀ e ∈ RR.2, M.2.2 e.1 e.2.1 = e.2.2) (hl0 : l.1.stackTraces = false) (r2 : ∀ (h1 : (M.1 4 2 : Int32) ≤ (nI k : Int32)), P (.inl (some (.int (v)))) SHF M) (k4 : ∀ (h1 : ¬ ((M.1 4 2 : Int32) ≤ (nI k : Int32))), ∀ (h3 : (((x) >>> ((nI k) &&& 31)) &&& (Int32.ofInt 1) : Int32) = 0), AW l (pI pg 135) P kc ks 4 [(3, .int ((nI k) + Int32.ofInt 1)), (2, .int (v)), (1, .int (x)), (0, .ref 4)] [] SHF M) (o5 : ∀ (h1 : ¬ ((M.1 4 2 : Int32) ≤ (nI k : Int32))), ∀ (h3 : ¬ ((((x) >>> ((nI k) &&& 31)) &&& (Int32.ofInt 1) : Int32) = 0)), vp_in (nI k) 8) (k6 : ∀ (h1 : ¬ ((M.1 4 2 : Int32) ≤ (nI k : Int32))), ∀ (h3 : ¬ ((((x) >>> ((nI k) &&& 31)) &&& (Int32.ofInt 1) : Int32) = 0)), AW l (pI pg 135) P kc ks 4 [(3, .int ((nI k) + Int32.ofInt 1)), (2, .int ((v) + (M.1 16 (nI k).toNatClampNeg))), (1, .int (x)), (0, .ref 4)] [] SHF M) : AW l (pI pg 135) P kc ks 4 [(3, .int (nI k)), (2, .int (v)), (1, .int (x)), (0, .ref 4)] [] SHF M := by
  refine AW.iload_n (dq rfl) rfl ?_
  show AW l (pI pg 135) P kc ks 5 _ _ SHF _
  refine AW.aload_n (dq rfl) rfl rfl ?_
  show AW l (pI pg 135) P kc ks 6 _ _ SHF _
  refine fw_get (dq rfl) (pg_ok.2.1 135 _ _ _ _ rfl) rfl (v := .int (M.1 4 2)) rfl ?_
  show AW l (pI pg 135) P kc ks 9 _ _ SHF _
  refine AW.icmp_ge (dq rfl) (tgt := 35) (by decide) (fun h1 => ?_) (fun h1 => ?_)
  · have _ := h1
    refine AW.iload_n (dq rfl) rfl ?_
    show AW l (pI pg 135) P kc ks 36 _ _ SHF _
    refine AW.iret (dq rfl) rfl ?_
    exact r2 h1
  · have _ := h1
    refine AW.iload_n (dq rfl) rfl ?_
    show AW l (pI pg 135) P kc ks 13 _ _ SHF _
    refine AW.iload_n (dq rfl) rfl ?_
    show AW l (pI pg 135) P kc ks 14 _ _ SHF _
    refine AW.ishr (dq rfl) ?_
    show AW l (pI pg 135) P kc ks 15 _ _ SHF _
    refine AW.iconst (dq rfl) ?_
    show AW l (pI pg 135) P kc ks 16 _ _ SHF _
    refine AW.iand (dq rfl) ?_
    show AW l (pI pg 135) P kc ks 17 _ _ SHF _
    refine AW.if_eq (dq rfl) (tgt := 29) (by decide) (fun h3 => ?_) (fun h3 => ?_)
    · have _ := h3
      refine AW.iinc (dq rfl) rfl (by decide +kernel) ?_
      show AW l (pI pg 135) P kc ks 32 [(3, .int ((nI k) + Int32.ofInt 1)), (2, .int (v)), (1, .int (x)), (0, .ref 4)] [] SHF _
      refine AW.goto (dq rfl) (tgt := 4) (by decide) ?_
      refine AW.drop (lv' := [(3, .int ((nI k) + Int32.ofInt 1)), (2, .int (v)), (1, .int (x)), (0, .ref 4)]) (List.forall_mem_cons.mpr ⟨List.mem_of_getElem? (i := 0) rfl, List.forall_mem_cons.mpr ⟨List.mem_of_getElem? (i := 1) rfl, List.forall_mem_cons.mpr ⟨List.mem_of_getElem? (i := 2) rfl, List.forall_mem_cons.mpr ⟨List.mem_of_getElem? (i := 3) rfl, fun _ h => absurd h List.not_mem_nil⟩⟩⟩⟩) ?_
      exact k4 h1 h3
    · have _ := h3
      refine AW.iload_n (dq rfl) rfl ?_
      show AW l (pI pg 135) P kc ks 21 _ _ SHF _
      refine AW.aload_n (dq rfl) rfl rfl ?_
      show AW l (pI pg 135) P kc ks 22 _ _ SHF _
      refine fw_get (dq rfl) (pg_ok.2.1 135 _ _ _ _ rfl) rfl (v := .ref 16) (isTA_ok rfl (rgR_ok hJ rfl)) ?_
      show AW l (pI pg 135) P kc ks 25 _ _ SHF _
      refine AW.iload_n (dq rfl) rfl ?_
      show AW l (pI pg 135) P kc ks 26 _ _ SHF _
      refine AW.iald (dq rfl) rfl (o5 h1 h3) ?_
      show AW l (pI pg 135) P kc ks 27 _ _ SHF _
      refine AW.iadd (dq rfl) ?_
      show AW l (pI pg 135) P kc ks 28 _ _ SHF _
      refine AW.istore_n (dq rfl) (by decide +kernel) ?_
      show AW l (pI pg 135) P kc ks 29 [(2, .int ((v) + (M.1 16 (nI k).toNatClampNeg))), (3, .int (nI k)), (1, .int (x)), (0, .ref 4)] [] SHF _
      refine AW.iinc (dq rfl) rfl (by decide +kernel) ?_
      show AW l (pI pg 135) P kc ks 32 [(3, .int ((nI k) + Int32.ofInt 1)), (2, .int ((v) + (M.1 16 (nI k).toNatClampNeg))), (1, .int (x)), (0, .ref 4)] [] SHF _
      refine AW.goto (dq rfl) (tgt := 4) (by decide) ?_
      refine AW.drop (lv' := [(3, .int ((nI k) + Int32.ofInt 1)), (2, .int ((v) + (M.1 16 (nI k).toNatClampNeg))), (1, .int (x)), (0, .ref 4)]) (List.forall_mem_cons.mpr ⟨List.mem_of_getElem? (i := 0) rfl, List.forall_mem_cons.mpr ⟨List.mem_of_getElem? (i := 1) rfl, List.forall_mem_cons.mpr ⟨List.mem_of_getElem? (i := 2) rfl, List.forall_mem_cons.mpr ⟨List.mem_of_getElem? (i := 3) rfl, fun _ h => absurd h List.not_mem_nil⟩⟩⟩⟩) ?_
      exact k6 h1 h3

theorem atca_0 {l : aL} {P : aP} {kc ks : Nat} {M : aM}  (hl0 : l.1.stackTraces = false) (r1 : P (.inl (some (.int (((Int32.ofInt 1) <<< ((M.1 4 2) &&& 31)) - (Int32.ofInt 1))))) SHF M) : AW l (pI pg 133) P kc ks 0 [(0, .ref 4)] [] SHF M := by
  refine AW.iconst (dq rfl) ?_
  show AW l (pI pg 133) P kc ks 1 _ _ SHF _
  refine AW.aload_n (dq rfl) rfl rfl ?_
  show AW l (pI pg 133) P kc ks 2 _ _ SHF _
  refine fw_get (dq rfl) (pg_ok.2.1 133 _ _ _ _ rfl) rfl (v := .int (M.1 4 2)) rfl ?_
  show AW l (pI pg 133) P kc ks 5 _ _ SHF _
  refine AW.ishl (dq rfl) ?_
  show AW l (pI pg 133) P kc ks 6 _ _ SHF _
  refine AW.iconst (dq rfl) ?_
  show AW l (pI pg 133) P kc ks 7 _ _ SHF _
  refine AW.isub (dq rfl) ?_
  show AW l (pI pg 133) P kc ks 8 _ _ SHF _
  refine AW.iret (dq rfl) rfl ?_
  exact r1

theorem seka_0 {l : aL} {P : aP} {kc ks : Nat} {f : Int64} {M : aM} (hJ : ∀ e ∈ RR.2, M.2.2 e.1 e.2.1 = e.2.2) (hl0 : l.1.stackTraces = false) (Q1 : Int32 → aM → Prop) (c2 : AC l (pI pg 133) (fcI M Q1) 0 0 [.ref 4] SHF M) (Q3 : Int32 → aM → Int32 → aM → Prop) (c4 : ∀ (y1 : Int32), ∀ (M1 : aM), ∀ (e1 : M1.2.2 = M.2.2), ∀ (q1 : Q1 y1 M1), AC l (pI pg 134) (fcI M1 (Q3 y1 M1)) 0 0 [.ref 40, .ref 4, .ref 30, .int (y1), .long (f)] SHF M1) (k6 : ∀ (y1 : Int32), ∀ (M1 : aM), ∀ (e1 : M1.2.2 = M.2.2), ∀ (q1 : Q1 y1 M1), ∀ (y3 : Int32), ∀ (M3 : aM), ∀ (e3 : M3.2.2 = M1.2.2), ∀ (q3 : (Q3 y1 M1) y3 M3), ∀ (h5 : ¬ (y3 : Int32) = 0), AW l (pI pg 132) P kc ks 26 [(7, .int (Int32.ofInt 0)), (6, .int (Int32.ofInt 0)), (5, .int (y1)), (3, .long (f)), (2, .ref 30), (1, .ref 4), (0, .ref 40)] [] SHF M3) (r7 : ∀ (y1 : Int32), ∀ (M1 : aM), ∀ (e1 : M1.2.2 = M.2.2), ∀ (q1 : Q1 y1 M1), ∀ (y3 : Int32), ∀ (M3 : aM), ∀ (e3 : M3.2.2 = M1.2.2), ∀ (q3 : (Q3 y1 M1) y3 M3), ∀ (h5 : (y3 : Int32) = 0), P (.inl (some (.int (Int32.ofInt (-1))))) SHF M3) : AW l (pI pg 132) P kc ks 0 [(0, .ref 40), (1, .ref 4), (2, .ref 30), (3, .long (f))] [] SHF M := by
  refine AW.aload_n (dq rfl) rfl rfl ?_
  show AW l (pI pg 132) P kc ks 1 _ _ SHF _
  refine fw_callVI (as := []) (dq rfl) (pg_ok.2.2.1 132 _ _ _ _ rfl) rfl (by decide +kernel) rfl rfl (c2) (fun y1 M1 e1 q1 => ?_)
  have hJ1 : ∀ e ∈ RR.2, M1.2.2 e.1 e.2.1 = e.2.2 := fun e he => by rw [e1]; exact hJ e he
  show AW l (pI pg 132) P kc ks 4 [(0, .ref 40), (1, .ref 4), (2, .ref 30), (3, .long (f))] [.int (y1)] SHF _
  refine AW.istore (dq rfl) (by decide +kernel) ?_
  show AW l (pI pg 132) P kc ks 6 [(5, .int (y1)), (0, .ref 40), (1, .ref 4), (2, .ref 30), (3, .long (f))] [] SHF _
  refine AW.aload_n (dq rfl) rfl rfl ?_
  show AW l (pI pg 132) P kc ks 7 _ _ SHF _
  refine AW.aload_n (dq rfl) rfl rfl ?_
  show AW l (pI pg 132) P kc ks 8 _ _ SHF _
  refine AW.aload_n (dq rfl) rfl rfl ?_
  show AW l (pI pg 132) P kc ks 9 _ _ SHF _
  refine AW.iload (dq rfl) rfl ?_
  show AW l (pI pg 132) P kc ks 11 _ _ SHF _
  refine AW.lload_n (dq rfl) rfl ?_
  show AW l (pI pg 132) P kc ks 12 _ _ SHF _
  refine fw_callVI (as := [.ref 4, .ref 30, .int (y1), .long (f)]) (dq rfl) (pg_ok.2.2.1 132 _ _ _ _ rfl) rfl (by decide +kernel) rfl rfl (c4 y1 M1 e1 q1) (fun y3 M3 e3 q3 => ?_)
  have hJ3 : ∀ e ∈ RR.2, M3.2.2 e.1 e.2.1 = e.2.2 := fun e he => by rw [e3]; exact hJ1 e he
  show AW l (pI pg 132) P kc ks 15 [(5, .int (y1)), (0, .ref 40), (1, .ref 4), (2, .ref 30), (3, .long (f))] [.int (y3)] SHF _
  refine AW.if_ne (dq rfl) (tgt := 20) (by decide) (fun h5 => ?_) (fun h5 => ?_)
  · have _ := h5
    refine AW.iconst (dq rfl) ?_
    show AW l (pI pg 132) P kc ks 21 _ _ SHF _
    refine AW.istore (dq rfl) (by decide +kernel) ?_
    show AW l (pI pg 132) P kc ks 23 [(6, .int (Int32.ofInt 0)), (5, .int (y1)), (0, .ref 40), (1, .ref 4), (2, .ref 30), (3, .long (f))] [] SHF _
    refine AW.iconst (dq rfl) ?_
    show AW l (pI pg 132) P kc ks 24 _ _ SHF _
    refine AW.istore (dq rfl) (by decide +kernel) ?_
    show AW l (pI pg 132) P kc ks 26 [(7, .int (Int32.ofInt 0)), (6, .int (Int32.ofInt 0)), (5, .int (y1)), (0, .ref 40), (1, .ref 4), (2, .ref 30), (3, .long (f))] [] SHF _
    refine AW.drop (lv' := [(7, .int (Int32.ofInt 0)), (6, .int (Int32.ofInt 0)), (5, .int (y1)), (3, .long (f)), (2, .ref 30), (1, .ref 4), (0, .ref 40)]) (List.forall_mem_cons.mpr ⟨List.mem_of_getElem? (i := 0) rfl, List.forall_mem_cons.mpr ⟨List.mem_of_getElem? (i := 1) rfl, List.forall_mem_cons.mpr ⟨List.mem_of_getElem? (i := 2) rfl, List.forall_mem_cons.mpr ⟨List.mem_of_getElem? (i := 6) rfl, List.forall_mem_cons.mpr ⟨List.mem_of_getElem? (i := 5) rfl, List.forall_mem_cons.mpr ⟨List.mem_of_getElem? (i := 4) rfl, List.forall_mem_cons.mpr ⟨List.mem_of_getElem? (i := 3) rfl, fun _ h => absurd h List.not_mem_nil⟩⟩⟩⟩⟩⟩⟩) ?_
    exact k6 y1 M1 e1 q1 y3 M3 e3 q3 h5
  · have _ := h5
    refine AW.iconst (dq rfl) ?_
    show AW l (pI pg 132) P kc ks 19 _ _ SHF _
    refine AW.iret (dq rfl) rfl ?_
    exact r7 y1 M1 e1 q1 y3 M3 e3 q3 h5

theorem seka_26 {l : aL} {P : aP} {kc ks : Nat} {k : Nat} {v e : Int32} {f : Int64} {M : aM} (hJ : ∀ e ∈ RR.2, M.2.2 e.1 e.2.1 = e.2.2) (hl0 : l.1.stackTraces = false) (k2 : ∀ (h1 : (M.1 4 2 : Int32) ≤ (nI k : Int32)), AW l (pI pg 132) P kc ks 78 [(9, .int (Int32.ofInt 0)), (8, .int (2147483647)), (7, .int (e)), (6, .int (v)), (5, .int (e)), (3, .long (f)), (2, .ref 30), (1, .ref 4), (0, .ref 40)] [] SHF M) (Q3 : Int32 → aM → Prop) (c4 : ∀ (h1 : ¬ ((M.1 4 2 : Int32) ≤ (nI k : Int32))), AC l (pI pg 134) (fcI M Q3) 0 0 [.ref 40, .ref 4, .ref 30, .int ((e) ^^^ ((Int32.ofInt 1) <<< ((nI k) &&& 31))), .long (f)] SHF M) (k6 : ∀ (h1 : ¬ ((M.1 4 2 : Int32) ≤ (nI k : Int32))), ∀ (y3 : Int32), ∀ (M3 : aM), ∀ (e3 : M3.2.2 = M.2.2), ∀ (q3 : Q3 y3 M3), ∀ (h5 : ¬ (y3 : Int32) = 0), AW l (pI pg 132) P kc ks 26 [(7, .int ((nI k) + Int32.ofInt 1)), (6, .int (v)), (5, .int (e)), (3, .long (f)), (2, .ref 30), (1, .ref 4), (0, .ref 40)] [] SHF M3) (k7 : ∀ (h1 : ¬ ((M.1 4 2 : Int32) ≤ (nI k : Int32))), ∀ (y3 : Int32), ∀ (M3 : aM), ∀ (e3 : M3.2.2 = M.2.2), ∀ (q3 : Q3 y3 M3), ∀ (h5 : (y3 : Int32) = 0), AW l (pI pg 132) P kc ks 26 [(7, .int ((nI k) + Int32.ofInt 1)), (6, .int ((v) ||| ((Int32.ofInt 1) <<< ((nI k) &&& 31)))), (5, .int (e)), (3, .long (f)), (2, .ref 30), (1, .ref 4), (0, .ref 40)] [] SHF M3) : AW l (pI pg 132) P kc ks 26 [(7, .int (nI k)), (6, .int (v)), (5, .int (e)), (3, .long (f)), (2, .ref 30), (1, .ref 4), (0, .ref 40)] [] SHF M := by
  refine AW.iload (dq rfl) rfl ?_
  show AW l (pI pg 132) P kc ks 28 _ _ SHF _
  refine AW.aload_n (dq rfl) rfl rfl ?_
  show AW l (pI pg 132) P kc ks 29 _ _ SHF _
  refine fw_get (dq rfl) (pg_ok.2.1 132 _ _ _ _ rfl) rfl (v := .int (M.1 4 2)) rfl ?_
  show AW l (pI pg 132) P kc ks 32 _ _ SHF _
  refine AW.icmp_ge (dq rfl) (tgt := 67) (by decide) (fun h1 => ?_) (fun h1 => ?_)
  · have _ := h1
    refine AW.iload (dq rfl) rfl ?_
    show AW l (pI pg 132) P kc ks 69 _ _ SHF _
    refine AW.istore (dq rfl) (by decide +kernel) ?_
    show AW l (pI pg 132) P kc ks 71 [(7, .int (e)), (6, .int (v)), (5, .int (e)), (3, .long (f)), (2, .ref 30), (1, .ref 4), (0, .ref 40)] [] SHF _
    refine AW.ldc (dq rfl) (pg_ok.2.2.2.2.1 132 _ 2147483647 rfl) ?_
    show AW l (pI pg 132) P kc ks 73 _ _ SHF _
    refine AW.istore (dq rfl) (by decide +kernel) ?_
    show AW l (pI pg 132) P kc ks 75 [(8, .int (2147483647)), (7, .int (e)), (6, .int (v)), (5, .int (e)), (3, .long (f)), (2, .ref 30), (1, .ref 4), (0, .ref 40)] [] SHF _
    refine AW.iconst (dq rfl) ?_
    show AW l (pI pg 132) P kc ks 76 _ _ SHF _
    refine AW.istore (dq rfl) (by decide +kernel) ?_
    show AW l (pI pg 132) P kc ks 78 [(9, .int (Int32.ofInt 0)), (8, .int (2147483647)), (7, .int (e)), (6, .int (v)), (5, .int (e)), (3, .long (f)), (2, .ref 30), (1, .ref 4), (0, .ref 40)] [] SHF _
    refine AW.drop (lv' := [(9, .int (Int32.ofInt 0)), (8, .int (2147483647)), (7, .int (e)), (6, .int (v)), (5, .int (e)), (3, .long (f)), (2, .ref 30), (1, .ref 4), (0, .ref 40)]) (List.forall_mem_cons.mpr ⟨List.mem_of_getElem? (i := 0) rfl, List.forall_mem_cons.mpr ⟨List.mem_of_getElem? (i := 1) rfl, List.forall_mem_cons.mpr ⟨List.mem_of_getElem? (i := 2) rfl, List.forall_mem_cons.mpr ⟨List.mem_of_getElem? (i := 3) rfl, List.forall_mem_cons.mpr ⟨List.mem_of_getElem? (i := 4) rfl, List.forall_mem_cons.mpr ⟨List.mem_of_getElem? (i := 5) rfl, List.forall_mem_cons.mpr ⟨List.mem_of_getElem? (i := 6) rfl, List.forall_mem_cons.mpr ⟨List.mem_of_getElem? (i := 7) rfl, List.forall_mem_cons.mpr ⟨List.mem_of_getElem? (i := 8) rfl, fun _ h => absurd h List.not_mem_nil⟩⟩⟩⟩⟩⟩⟩⟩⟩) ?_
    exact k2 h1
  · have _ := h1
    refine AW.aload_n (dq rfl) rfl rfl ?_
    show AW l (pI pg 132) P kc ks 36 _ _ SHF _
    refine AW.aload_n (dq rfl) rfl rfl ?_
    show AW l (pI pg 132) P kc ks 37 _ _ SHF _
    refine AW.aload_n (dq rfl) rfl rfl ?_
    show AW l (pI pg 132) P kc ks 38 _ _ SHF _
    refine AW.iload (dq rfl) rfl ?_
    show AW l (pI pg 132) P kc ks 40 _ _ SHF _
    refine AW.iconst (dq rfl) ?_
    show AW l (pI pg 132) P kc ks 41 _ _ SHF _
    refine AW.iload (dq rfl) rfl ?_
    show AW l (pI pg 132) P kc ks 43 _ _ SHF _
    refine AW.ishl (dq rfl) ?_
    show AW l (pI pg 132) P kc ks 44 _ _ SHF _
    refine AW.ixor (dq rfl) ?_
    show AW l (pI pg 132) P kc ks 45 _ _ SHF _
    refine AW.lload_n (dq rfl) rfl ?_
    show AW l (pI pg 132) P kc ks 46 _ _ SHF _
    refine fw_callVI (as := [.ref 4, .ref 30, .int ((e) ^^^ ((Int32.ofInt 1) <<< ((nI k) &&& 31))), .long (f)]) (dq rfl) (pg_ok.2.2.1 132 _ _ _ _ rfl) rfl (by decide +kernel) rfl rfl (c4 h1) (fun y3 M3 e3 q3 => ?_)
    have hJ3 : ∀ e ∈ RR.2, M3.2.2 e.1 e.2.1 = e.2.2 := fun e he => by rw [e3]; exact hJ e he
    show AW l (pI pg 132) P kc ks 49 [(7, .int (nI k)), (6, .int (v)), (5, .int (e)), (3, .long (f)), (2, .ref 30), (1, .ref 4), (0, .ref 40)] [.int (y3)] SHF _
    refine AW.if_ne (dq rfl) (tgt := 61) (by decide) (fun h5 => ?_) (fun h5 => ?_)
    · have _ := h5
      refine AW.iinc (dq rfl) rfl (by decide +kernel) ?_
      show AW l (pI pg 132) P kc ks 64 [(7, .int ((nI k) + Int32.ofInt 1)), (6, .int (v)), (5, .int (e)), (3, .long (f)), (2, .ref 30), (1, .ref 4), (0, .ref 40)] [] SHF _
      refine AW.goto (dq rfl) (tgt := 26) (by decide) ?_
      refine AW.drop (lv' := [(7, .int ((nI k) + Int32.ofInt 1)), (6, .int (v)), (5, .int (e)), (3, .long (f)), (2, .ref 30), (1, .ref 4), (0, .ref 40)]) (List.forall_mem_cons.mpr ⟨List.mem_of_getElem? (i := 0) rfl, List.forall_mem_cons.mpr ⟨List.mem_of_getElem? (i := 1) rfl, List.forall_mem_cons.mpr ⟨List.mem_of_getElem? (i := 2) rfl, List.forall_mem_cons.mpr ⟨List.mem_of_getElem? (i := 3) rfl, List.forall_mem_cons.mpr ⟨List.mem_of_getElem? (i := 4) rfl, List.forall_mem_cons.mpr ⟨List.mem_of_getElem? (i := 5) rfl, List.forall_mem_cons.mpr ⟨List.mem_of_getElem? (i := 6) rfl, fun _ h => absurd h List.not_mem_nil⟩⟩⟩⟩⟩⟩⟩) ?_
      exact k6 h1 y3 M3 e3 q3 h5
    · have _ := h5
      refine AW.iload (dq rfl) rfl ?_
      show AW l (pI pg 132) P kc ks 54 _ _ SHF _
      refine AW.iconst (dq rfl) ?_
      show AW l (pI pg 132) P kc ks 55 _ _ SHF _
      refine AW.iload (dq rfl) rfl ?_
      show AW l (pI pg 132) P kc ks 57 _ _ SHF _
      refine AW.ishl (dq rfl) ?_
      show AW l (pI pg 132) P kc ks 58 _ _ SHF _
      refine AW.ior (dq rfl) ?_
      show AW l (pI pg 132) P kc ks 59 _ _ SHF _
      refine AW.istore (dq rfl) (by decide +kernel) ?_
      show AW l (pI pg 132) P kc ks 61 [(6, .int ((v) ||| ((Int32.ofInt 1) <<< ((nI k) &&& 31)))), (7, .int (nI k)), (5, .int (e)), (3, .long (f)), (2, .ref 30), (1, .ref 4), (0, .ref 40)] [] SHF _
      refine AW.iinc (dq rfl) rfl (by decide +kernel) ?_
      show AW l (pI pg 132) P kc ks 64 [(7, .int ((nI k) + Int32.ofInt 1)), (6, .int ((v) ||| ((Int32.ofInt 1) <<< ((nI k) &&& 31)))), (5, .int (e)), (3, .long (f)), (2, .ref 30), (1, .ref 4), (0, .ref 40)] [] SHF _
      refine AW.goto (dq rfl) (tgt := 26) (by decide) ?_
      refine AW.drop (lv' := [(7, .int ((nI k) + Int32.ofInt 1)), (6, .int ((v) ||| ((Int32.ofInt 1) <<< ((nI k) &&& 31)))), (5, .int (e)), (3, .long (f)), (2, .ref 30), (1, .ref 4), (0, .ref 40)]) (List.forall_mem_cons.mpr ⟨List.mem_of_getElem? (i := 0) rfl, List.forall_mem_cons.mpr ⟨List.mem_of_getElem? (i := 1) rfl, List.forall_mem_cons.mpr ⟨List.mem_of_getElem? (i := 2) rfl, List.forall_mem_cons.mpr ⟨List.mem_of_getElem? (i := 3) rfl, List.forall_mem_cons.mpr ⟨List.mem_of_getElem? (i := 4) rfl, List.forall_mem_cons.mpr ⟨List.mem_of_getElem? (i := 5) rfl, List.forall_mem_cons.mpr ⟨List.mem_of_getElem? (i := 6) rfl, fun _ h => absurd h List.not_mem_nil⟩⟩⟩⟩⟩⟩⟩) ?_
      exact k7 h1 y3 M3 e3 q3 h5

theorem seka_78 {l : aL} {P : aP} {kc ks : Nat} {s : Nat} {p g v e : Int32} {f : Int64} {M : aM} (hJ : ∀ e ∈ RR.2, M.2.2 e.1 e.2.1 = e.2.2) (hl0 : l.1.stackTraces = false) (r2 : ∀ (h1 : (e : Int32) < (nI s : Int32)), P (.inl (some (.int (g)))) SHF M) (Q3 : Int32 → aM → Prop) (c4 : ∀ (h1 : ¬ ((e : Int32) < (nI s : Int32))), AC l (pI pg 135) (fcI M Q3) 0 0 [.ref 4, .int (nI s)] SHF M) (k6 : ∀ (h1 : ¬ ((e : Int32) < (nI s : Int32))), ∀ (y3 : Int32), ∀ (M3 : aM), ∀ (e3 : M3.2.2 = M.2.2), ∀ (q3 : Q3 y3 M3), ∀ (h5 : ¬ ((v) &&& ((nI s) ^^^ (Int32.ofInt (-1))) : Int32) = 0), AW l (pI pg 132) P kc ks 78 [(9, .int ((nI s) + Int32.ofInt 1)), (8, .int (p)), (7, .int (g)), (6, .int (v)), (5, .int (e)), (3, .long (f)), (2, .ref 30), (1, .ref 4), (0, .ref 40)] [] SHF M3) (k8 : ∀ (h1 : ¬ ((e : Int32) < (nI s : Int32))), ∀ (y3 : Int32), ∀ (M3 : aM), ∀ (e3 : M3.2.2 = M.2.2), ∀ (q3 : Q3 y3 M3), ∀ (h5 : ((v) &&& ((nI s) ^^^ (Int32.ofInt (-1))) : Int32) = 0), ∀ (h7 : (p : Int32) ≤ (y3 : Int32)), AW l (pI pg 132) P kc ks 78 [(9, .int ((nI s) + Int32.ofInt 1)), (8, .int (p)), (7, .int (g)), (6, .int (v)), (5, .int (e)), (3, .long (f)), (2, .ref 30), (1, .ref 4), (0, .ref 40)] [] SHF M3) (Q9 : Int32 → aM → Int32 → aM → Prop) (c10 : ∀ (h1 : ¬ ((e : Int32) < (nI s : Int32))), ∀ (y3 : Int32), ∀ (M3 : aM), ∀ (e3 : M3.2.2 = M.2.2), ∀ (q3 : Q3 y3 M3), ∀ (h5 : ((v) &&& ((nI s) ^^^ (Int32.ofInt (-1))) : Int32) = 0), ∀ (h7 : ¬ ((p : Int32) ≤ (y3 : Int32))), AC l (pI pg 134) (fcI M3 (Q9 y3 M3)) 0 0 [.ref 40, .ref 4, .ref 30, .int (nI s), .long (f)] SHF M3) (k12 : ∀ (h1 : ¬ ((e : Int32) < (nI s : Int32))), ∀ (y3 : Int32), ∀ (M3 : aM), ∀ (e3 : M3.2.2 = M.2.2), ∀ (q3 : Q3 y3 M3), ∀ (h5 : ((v) &&& ((nI s) ^^^ (Int32.ofInt (-1))) : Int32) = 0), ∀ (h7 : ¬ ((p : Int32) ≤ (y3 : Int32))), ∀ (y9 : Int32), ∀ (M9 : aM), ∀ (e9 : M9.2.2 = M3.2.2), ∀ (q9 : (Q9 y3 M3) y9 M9), ∀ (h11 : (y9 : Int32) = 0), AW l (pI pg 132) P kc ks 78 [(9, .int ((nI s) + Int32.ofInt 1)), (8, .int (p)), (7, .int (g)), (6, .int (v)), (5, .int (e)), (3, .long (f)), (2, .ref 30), (1, .ref 4), (0, .ref 40)] [] SHF M9) (k13 : ∀ (h1 : ¬ ((e : Int32) < (nI s : Int32))), ∀ (y3 : Int32), ∀ (M3 : aM), ∀ (e3 : M3.2.2 = M.2.2), ∀ (q3 : Q3 y3 M3), ∀ (h5 : ((v) &&& ((nI s) ^^^ (Int32.ofInt (-1))) : Int32) = 0), ∀ (h7 : ¬ ((p : Int32) ≤ (y3 : Int32))), ∀ (y9 : Int32), ∀ (M9 : aM), ∀ (e9 : M9.2.2 = M3.2.2), ∀ (q9 : (Q9 y3 M3) y9 M9), ∀ (h11 : ¬ ((y9 : Int32) = 0)), AW l (pI pg 132) P kc ks 78 [(9, .int ((nI s) + Int32.ofInt 1)), (8, .int (y3)), (7, .int (nI s)), (6, .int (v)), (5, .int (e)), (3, .long (f)), (2, .ref 30), (1, .ref 4), (0, .ref 40)] [] SHF M9) : AW l (pI pg 132) P kc ks 78 [(9, .int (nI s)), (8, .int (p)), (7, .int (g)), (6, .int (v)), (5, .int (e)), (3, .long (f)), (2, .ref 30), (1, .ref 4), (0, .ref 40)] [] SHF M := by
  refine AW.iload (dq rfl) rfl ?_
  show AW l (pI pg 132) P kc ks 80 _ _ SHF _
  refine AW.iload (dq rfl) rfl ?_
  show AW l (pI pg 132) P kc ks 82 _ _ SHF _
  refine AW.icmp_gt (dq rfl) (tgt := 136) (by decide) (fun h1 => ?_) (fun h1 => ?_)
  · have _ := h1
    refine AW.iload (dq rfl) rfl ?_
    show AW l (pI pg 132) P kc ks 138 _ _ SHF _
    refine AW.iret (dq rfl) rfl ?_
    exact r2 h1
  · have _ := h1
    refine AW.aload_n (dq rfl) rfl rfl ?_
    show AW l (pI pg 132) P kc ks 86 _ _ SHF _
    refine AW.iload (dq rfl) rfl ?_
    show AW l (pI pg 132) P kc ks 88 _ _ SHF _
    refine fw_callVI (as := [.int (nI s)]) (dq rfl) (pg_ok.2.2.1 132 _ _ _ _ rfl) rfl (by decide +kernel) rfl rfl (c4 h1) (fun y3 M3 e3 q3 => ?_)
    have hJ3 : ∀ e ∈ RR.2, M3.2.2 e.1 e.2.1 = e.2.2 := fun e he => by rw [e3]; exact hJ e he
    show AW l (pI pg 132) P kc ks 91 [(9, .int (nI s)), (8, .int (p)), (7, .int (g)), (6, .int (v)), (5, .int (e)), (3, .long (f)), (2, .ref 30), (1, .ref 4), (0, .ref 40)] [.int (y3)] SHF _
    refine AW.istore (dq rfl) (by decide +kernel) ?_
    show AW l (pI pg 132) P kc ks 93 [(10, .int (y3)), (9, .int (nI s)), (8, .int (p)), (7, .int (g)), (6, .int (v)), (5, .int (e)), (3, .long (f)), (2, .ref 30), (1, .ref 4), (0, .ref 40)] [] SHF _
    refine AW.iload (dq rfl) rfl ?_
    show AW l (pI pg 132) P kc ks 95 _ _ SHF _
    refine AW.iload (dq rfl) rfl ?_
    show AW l (pI pg 132) P kc ks 97 _ _ SHF _
    refine AW.iconst (dq rfl) ?_
    show AW l (pI pg 132) P kc ks 98 _ _ SHF _
    refine AW.ixor (dq rfl) ?_
    show AW l (pI pg 132) P kc ks 99 _ _ SHF _
    refine AW.iand (dq rfl) ?_
    show AW l (pI pg 132) P kc ks 100 _ _ SHF _
    refine AW.if_ne (dq rfl) (tgt := 130) (by decide) (fun h5 => ?_) (fun h5 => ?_)
    · have _ := h5
      refine AW.iinc (dq rfl) rfl (by decide +kernel) ?_
      show AW l (pI pg 132) P kc ks 133 [(9, .int ((nI s) + Int32.ofInt 1)), (10, .int (y3)), (8, .int (p)), (7, .int (g)), (6, .int (v)), (5, .int (e)), (3, .long (f)), (2, .ref 30), (1, .ref 4), (0, .ref 40)] [] SHF _
      refine AW.goto (dq rfl) (tgt := 78) (by decide) ?_
      refine AW.drop (lv' := [(9, .int ((nI s) + Int32.ofInt 1)), (8, .int (p)), (7, .int (g)), (6, .int (v)), (5, .int (e)), (3, .long (f)), (2, .ref 30), (1, .ref 4), (0, .ref 40)]) (List.forall_mem_cons.mpr ⟨List.mem_of_getElem? (i := 0) rfl, List.forall_mem_cons.mpr ⟨List.mem_of_getElem? (i := 2) rfl, List.forall_mem_cons.mpr ⟨List.mem_of_getElem? (i := 3) rfl, List.forall_mem_cons.mpr ⟨List.mem_of_getElem? (i := 4) rfl, List.forall_mem_cons.mpr ⟨List.mem_of_getElem? (i := 5) rfl, List.forall_mem_cons.mpr ⟨List.mem_of_getElem? (i := 6) rfl, List.forall_mem_cons.mpr ⟨List.mem_of_getElem? (i := 7) rfl, List.forall_mem_cons.mpr ⟨List.mem_of_getElem? (i := 8) rfl, List.forall_mem_cons.mpr ⟨List.mem_of_getElem? (i := 9) rfl, fun _ h => absurd h List.not_mem_nil⟩⟩⟩⟩⟩⟩⟩⟩⟩) ?_
      exact k6 h1 y3 M3 e3 q3 h5
    · have _ := h5
      refine AW.iload (dq rfl) rfl ?_
      show AW l (pI pg 132) P kc ks 105 _ _ SHF _
      refine AW.iload (dq rfl) rfl ?_
      show AW l (pI pg 132) P kc ks 107 _ _ SHF _
      refine AW.icmp_ge (dq rfl) (tgt := 130) (by decide) (fun h7 => ?_) (fun h7 => ?_)
      · have _ := h7
        refine AW.iinc (dq rfl) rfl (by decide +kernel) ?_
        show AW l (pI pg 132) P kc ks 133 [(9, .int ((nI s) + Int32.ofInt 1)), (10, .int (y3)), (8, .int (p)), (7, .int (g)), (6, .int (v)), (5, .int (e)), (3, .long (f)), (2, .ref 30), (1, .ref 4), (0, .ref 40)] [] SHF _
        refine AW.goto (dq rfl) (tgt := 78) (by decide) ?_
        refine AW.drop (lv' := [(9, .int ((nI s) + Int32.ofInt 1)), (8, .int (p)), (7, .int (g)), (6, .int (v)), (5, .int (e)), (3, .long (f)), (2, .ref 30), (1, .ref 4), (0, .ref 40)]) (List.forall_mem_cons.mpr ⟨List.mem_of_getElem? (i := 0) rfl, List.forall_mem_cons.mpr ⟨List.mem_of_getElem? (i := 2) rfl, List.forall_mem_cons.mpr ⟨List.mem_of_getElem? (i := 3) rfl, List.forall_mem_cons.mpr ⟨List.mem_of_getElem? (i := 4) rfl, List.forall_mem_cons.mpr ⟨List.mem_of_getElem? (i := 5) rfl, List.forall_mem_cons.mpr ⟨List.mem_of_getElem? (i := 6) rfl, List.forall_mem_cons.mpr ⟨List.mem_of_getElem? (i := 7) rfl, List.forall_mem_cons.mpr ⟨List.mem_of_getElem? (i := 8) rfl, List.forall_mem_cons.mpr ⟨List.mem_of_getElem? (i := 9) rfl, fun _ h => absurd h List.not_mem_nil⟩⟩⟩⟩⟩⟩⟩⟩⟩) ?_
        exact k8 h1 y3 M3 e3 q3 h5 h7
      · have _ := h7
        refine AW.aload_n (dq rfl) rfl rfl ?_
        show AW l (pI pg 132) P kc ks 111 _ _ SHF _
        refine AW.aload_n (dq rfl) rfl rfl ?_
        show AW l (pI pg 132) P kc ks 112 _ _ SHF _
        refine AW.aload_n (dq rfl) rfl rfl ?_
        show AW l (pI pg 132) P kc ks 113 _ _ SHF _
        refine AW.iload (dq rfl) rfl ?_
        show AW l (pI pg 132) P kc ks 115 _ _ SHF _
        refine AW.lload_n (dq rfl) rfl ?_
        show AW l (pI pg 132) P kc ks 116 _ _ SHF _
        refine fw_callVI (as := [.ref 4, .ref 30, .int (nI s), .long (f)]) (dq rfl) (pg_ok.2.2.1 132 _ _ _ _ rfl) rfl (by decide +kernel) rfl rfl (c10 h1 y3 M3 e3 q3 h5 h7) (fun y9 M9 e9 q9 => ?_)
        have hJ9 : ∀ e ∈ RR.2, M9.2.2 e.1 e.2.1 = e.2.2 := fun e he => by rw [e9]; exact hJ3 e he
        show AW l (pI pg 132) P kc ks 119 [(10, .int (y3)), (9, .int (nI s)), (8, .int (p)), (7, .int (g)), (6, .int (v)), (5, .int (e)), (3, .long (f)), (2, .ref 30), (1, .ref 4), (0, .ref 40)] [.int (y9)] SHF _
        refine AW.if_eq (dq rfl) (tgt := 130) (by decide) (fun h11 => ?_) (fun h11 => ?_)
        · have _ := h11
          refine AW.iinc (dq rfl) rfl (by decide +kernel) ?_
          show AW l (pI pg 132) P kc ks 133 [(9, .int ((nI s) + Int32.ofInt 1)), (10, .int (y3)), (8, .int (p)), (7, .int (g)), (6, .int (v)), (5, .int (e)), (3, .long (f)), (2, .ref 30), (1, .ref 4), (0, .ref 40)] [] SHF _
          refine AW.goto (dq rfl) (tgt := 78) (by decide) ?_
          refine AW.drop (lv' := [(9, .int ((nI s) + Int32.ofInt 1)), (8, .int (p)), (7, .int (g)), (6, .int (v)), (5, .int (e)), (3, .long (f)), (2, .ref 30), (1, .ref 4), (0, .ref 40)]) (List.forall_mem_cons.mpr ⟨List.mem_of_getElem? (i := 0) rfl, List.forall_mem_cons.mpr ⟨List.mem_of_getElem? (i := 2) rfl, List.forall_mem_cons.mpr ⟨List.mem_of_getElem? (i := 3) rfl, List.forall_mem_cons.mpr ⟨List.mem_of_getElem? (i := 4) rfl, List.forall_mem_cons.mpr ⟨List.mem_of_getElem? (i := 5) rfl, List.forall_mem_cons.mpr ⟨List.mem_of_getElem? (i := 6) rfl, List.forall_mem_cons.mpr ⟨List.mem_of_getElem? (i := 7) rfl, List.forall_mem_cons.mpr ⟨List.mem_of_getElem? (i := 8) rfl, List.forall_mem_cons.mpr ⟨List.mem_of_getElem? (i := 9) rfl, fun _ h => absurd h List.not_mem_nil⟩⟩⟩⟩⟩⟩⟩⟩⟩) ?_
          exact k12 h1 y3 M3 e3 q3 h5 h7 y9 M9 e9 q9 h11
        · have _ := h11
          refine AW.iload (dq rfl) rfl ?_
          show AW l (pI pg 132) P kc ks 124 _ _ SHF _
          refine AW.istore (dq rfl) (by decide +kernel) ?_
          show AW l (pI pg 132) P kc ks 126 [(7, .int (nI s)), (10, .int (y3)), (9, .int (nI s)), (8, .int (p)), (6, .int (v)), (5, .int (e)), (3, .long (f)), (2, .ref 30), (1, .ref 4), (0, .ref 40)] [] SHF _
          refine AW.iload (dq rfl) rfl ?_
          show AW l (pI pg 132) P kc ks 128 _ _ SHF _
          refine AW.istore (dq rfl) (by decide +kernel) ?_
          show AW l (pI pg 132) P kc ks 130 [(8, .int (y3)), (7, .int (nI s)), (10, .int (y3)), (9, .int (nI s)), (6, .int (v)), (5, .int (e)), (3, .long (f)), (2, .ref 30), (1, .ref 4), (0, .ref 40)] [] SHF _
          refine AW.iinc (dq rfl) rfl (by decide +kernel) ?_
          show AW l (pI pg 132) P kc ks 133 [(9, .int ((nI s) + Int32.ofInt 1)), (8, .int (y3)), (7, .int (nI s)), (10, .int (y3)), (6, .int (v)), (5, .int (e)), (3, .long (f)), (2, .ref 30), (1, .ref 4), (0, .ref 40)] [] SHF _
          refine AW.goto (dq rfl) (tgt := 78) (by decide) ?_
          refine AW.drop (lv' := [(9, .int ((nI s) + Int32.ofInt 1)), (8, .int (y3)), (7, .int (nI s)), (6, .int (v)), (5, .int (e)), (3, .long (f)), (2, .ref 30), (1, .ref 4), (0, .ref 40)]) (List.forall_mem_cons.mpr ⟨List.mem_of_getElem? (i := 0) rfl, List.forall_mem_cons.mpr ⟨List.mem_of_getElem? (i := 1) rfl, List.forall_mem_cons.mpr ⟨List.mem_of_getElem? (i := 2) rfl, List.forall_mem_cons.mpr ⟨List.mem_of_getElem? (i := 4) rfl, List.forall_mem_cons.mpr ⟨List.mem_of_getElem? (i := 5) rfl, List.forall_mem_cons.mpr ⟨List.mem_of_getElem? (i := 6) rfl, List.forall_mem_cons.mpr ⟨List.mem_of_getElem? (i := 7) rfl, List.forall_mem_cons.mpr ⟨List.mem_of_getElem? (i := 8) rfl, List.forall_mem_cons.mpr ⟨List.mem_of_getElem? (i := 9) rfl, fun _ h => absurd h List.not_mem_nil⟩⟩⟩⟩⟩⟩⟩⟩⟩) ?_
          exact k13 h1 y3 M3 e3 q3 h5 h7 y9 M9 e9 q9 h11

theorem chsa_0 {l : aL} {P : aP} {kc ks : Nat} {b : Int32} {M : aM} (hJ : ∀ e ∈ RR.2, M.2.2 e.1 e.2.1 = e.2.2) (hl0 : l.1.stackTraces = false) (r3 : ∀ (h1 : (b : Int32) = 0), ∀ (h2 : ¬ (M.1 40 2 : Int32) = ((Int8.ofInt (-2)).toInt32 : Int32)), P (.inl (some (.int (M.1 40 2)))) SHF M) (Q4 : Int64 → aM → Prop) (c5 : ∀ (h1 : (b : Int32) = 0), ∀ (h2 : (M.1 40 2 : Int32) = ((Int8.ofInt (-2)).toInt32 : Int32)), AC l (pI pg 31) (fcJ M Q4) 0 0 [.ref 4] SHF M) (Q6 : Int64 → aM → Int32 → aM → Prop) (c7 : ∀ (h1 : (b : Int32) = 0), ∀ (h2 : (M.1 40 2 : Int32) = ((Int8.ofInt (-2)).toInt32 : Int32)), ∀ (y4 : Int64), ∀ (M4 : aM), ∀ (e4 : M4.2.2 = M.2.2), ∀ (q4 : Q4 y4 M4), AC l (pI pg 132) (fcI M4 (Q6 y4 M4)) 0 0 [.ref 40, .ref 4, .ref 30, .long (y4)] SHF M4) (r8 : ∀ (h1 : (b : Int32) = 0), ∀ (h2 : (M.1 40 2 : Int32) = ((Int8.ofInt (-2)).toInt32 : Int32)), ∀ (y4 : Int64), ∀ (M4 : aM), ∀ (e4 : M4.2.2 = M.2.2), ∀ (q4 : Q4 y4 M4), ∀ (y6 : Int32), ∀ (M6 : aM), ∀ (e6 : M6.2.2 = M4.2.2), ∀ (q6 : (Q6 y4 M4) y6 M6), P (.inl (some (.int ((aset M6 40 2 (.int (y6))).1 40 2)))) SHF (aset M6 40 2 (.int (y6)))) (r10 : ∀ (h1 : ¬ ((b : Int32) = 0)), ∀ (h9 : ¬ (M.1 40 3 : Int32) = ((Int8.ofInt (-2)).toInt32 : Int32)), P (.inl (some (.int (M.1 40 3)))) SHF M) (Q11 : Int64 → aM → Prop) (c12 : ∀ (h1 : ¬ ((b : Int32) = 0)), ∀ (h9 : (M.1 40 3 : Int32) = ((Int8.ofInt (-2)).toInt32 : Int32)), AC l (pI pg 127) (fcJ M Q11) 0 0 [.ref 4] SHF M) (Q13 : Int64 → aM → Int32 → aM → Prop) (c14 : ∀ (h1 : ¬ ((b : Int32) = 0)), ∀ (h9 : (M.1 40 3 : Int32) = ((Int8.ofInt (-2)).toInt32 : Int32)), ∀ (y11 : Int64), ∀ (M11 : aM), ∀ (e11 : M11.2.2 = M.2.2), ∀ (q11 : Q11 y11 M11), AC l (pI pg 132) (fcI M11 (Q13 y11 M11)) 0 0 [.ref 40, .ref 4, .ref 30, .long (y11)] SHF M11) (r15 : ∀ (h1 : ¬ ((b : Int32) = 0)), ∀ (h9 : (M.1 40 3 : Int32) = ((Int8.ofInt (-2)).toInt32 : Int32)), ∀ (y11 : Int64), ∀ (M11 : aM), ∀ (e11 : M11.2.2 = M.2.2), ∀ (q11 : Q11 y11 M11), ∀ (y13 : Int32), ∀ (M13 : aM), ∀ (e13 : M13.2.2 = M11.2.2), ∀ (q13 : (Q13 y11 M11) y13 M13), P (.inl (some (.int ((aset M13 40 3 (.int (y13))).1 40 3)))) SHF (aset M13 40 3 (.int (y13)))) : AW l (pI pg 131) P kc ks 0 [(0, .ref 40), (1, .ref 4), (2, .ref 30), (3, .int (b))] [] SHF M := by
  refine AW.iload_n (dq rfl) rfl ?_
  show AW l (pI pg 131) P kc ks 1 _ _ SHF _
  refine AW.if_eq (dq rfl) (tgt := 32) (by decide) (fun h1 => ?_) (fun h1 => ?_)
  · have _ := h1
    refine AW.aload_n (dq rfl) rfl rfl ?_
    show AW l (pI pg 131) P kc ks 33 _ _ SHF _
    refine fw_get (dq rfl) (pg_ok.2.1 131 _ _ _ _ rfl) rfl (v := .int (M.1 40 2)) rfl ?_
    show AW l (pI pg 131) P kc ks 36 _ _ SHF _
    refine AW.bipush (dq rfl) ?_
    show AW l (pI pg 131) P kc ks 38 _ _ SHF _
    refine AW.icmp_ne (dq rfl) (tgt := 55) (by decide) (fun h2 => ?_) (fun h2 => ?_)
    · have _ := h2
      refine AW.aload_n (dq rfl) rfl rfl ?_
      show AW l (pI pg 131) P kc ks 56 _ _ SHF _
      refine fw_get (dq rfl) (pg_ok.2.1 131 _ _ _ _ rfl) rfl (v := .int (M.1 40 2)) rfl ?_
      show AW l (pI pg 131) P kc ks 59 _ _ SHF _
      refine AW.iret (dq rfl) rfl ?_
      exact r3 h1 h2
    · have _ := h2
      refine AW.aload_n (dq rfl) rfl rfl ?_
      show AW l (pI pg 131) P kc ks 42 _ _ SHF _
      refine AW.aload_n (dq rfl) rfl rfl ?_
      show AW l (pI pg 131) P kc ks 43 _ _ SHF _
      refine AW.aload_n (dq rfl) rfl rfl ?_
      show AW l (pI pg 131) P kc ks 44 _ _ SHF _
      refine AW.aload_n (dq rfl) rfl rfl ?_
      show AW l (pI pg 131) P kc ks 45 _ _ SHF _
      refine AW.aload_n (dq rfl) rfl rfl ?_
      show AW l (pI pg 131) P kc ks 46 _ _ SHF _
      refine fw_callVJ (as := []) (dq rfl) (pg_ok.2.2.1 131 _ _ _ _ rfl) rfl (by decide +kernel) rfl rfl (c5 h1 h2) (fun y4 M4 e4 q4 => ?_)
      have hJ4 : ∀ e ∈ RR.2, M4.2.2 e.1 e.2.1 = e.2.2 := fun e he => by rw [e4]; exact hJ e he
      show AW l (pI pg 131) P kc ks 49 [(0, .ref 40), (1, .ref 4), (2, .ref 30), (3, .int (b))] [.long (y4), .ref 30, .ref 4, .ref 40, .ref 40] SHF _
      refine fw_callVI (as := [.ref 4, .ref 30, .long (y4)]) (dq rfl) (pg_ok.2.2.1 131 _ _ _ _ rfl) rfl (by decide +kernel) rfl rfl (c7 h1 h2 y4 M4 e4 q4) (fun y6 M6 e6 q6 => ?_)
      have hJ6 : ∀ e ∈ RR.2, M6.2.2 e.1 e.2.1 = e.2.2 := fun e he => by rw [e6]; exact hJ4 e he
      show AW l (pI pg 131) P kc ks 52 [(0, .ref 40), (1, .ref 4), (2, .ref 30), (3, .int (b))] [.int (y6), .ref 40] SHF _
      refine fw_putI (dq rfl) (pg_ok.2.1 131 _ _ _ _ rfl) rfl rfl rfl ?_
      show AW l (pI pg 131) P kc ks 55 _ _ SHF _
      refine AW.aload_n (dq rfl) rfl rfl ?_
      show AW l (pI pg 131) P kc ks 56 _ _ SHF _
      refine fw_get (dq rfl) (pg_ok.2.1 131 _ _ _ _ rfl) rfl (v := .int ((aset M6 40 2 (.int (y6))).1 40 2)) rfl ?_
      show AW l (pI pg 131) P kc ks 59 _ _ SHF _
      refine AW.iret (dq rfl) rfl ?_
      exact r8 h1 h2 y4 M4 e4 q4 y6 M6 e6 q6
  · have _ := h1
    refine AW.aload_n (dq rfl) rfl rfl ?_
    show AW l (pI pg 131) P kc ks 5 _ _ SHF _
    refine fw_get (dq rfl) (pg_ok.2.1 131 _ _ _ _ rfl) rfl (v := .int (M.1 40 3)) rfl ?_
    show AW l (pI pg 131) P kc ks 8 _ _ SHF _
    refine AW.bipush (dq rfl) ?_
    show AW l (pI pg 131) P kc ks 10 _ _ SHF _
    refine AW.icmp_ne (dq rfl) (tgt := 27) (by decide) (fun h9 => ?_) (fun h9 => ?_)
    · have _ := h9
      refine AW.aload_n (dq rfl) rfl rfl ?_
      show AW l (pI pg 131) P kc ks 28 _ _ SHF _
      refine fw_get (dq rfl) (pg_ok.2.1 131 _ _ _ _ rfl) rfl (v := .int (M.1 40 3)) rfl ?_
      show AW l (pI pg 131) P kc ks 31 _ _ SHF _
      refine AW.iret (dq rfl) rfl ?_
      exact r10 h1 h9
    · have _ := h9
      refine AW.aload_n (dq rfl) rfl rfl ?_
      show AW l (pI pg 131) P kc ks 14 _ _ SHF _
      refine AW.aload_n (dq rfl) rfl rfl ?_
      show AW l (pI pg 131) P kc ks 15 _ _ SHF _
      refine AW.aload_n (dq rfl) rfl rfl ?_
      show AW l (pI pg 131) P kc ks 16 _ _ SHF _
      refine AW.aload_n (dq rfl) rfl rfl ?_
      show AW l (pI pg 131) P kc ks 17 _ _ SHF _
      refine AW.aload_n (dq rfl) rfl rfl ?_
      show AW l (pI pg 131) P kc ks 18 _ _ SHF _
      refine fw_callVJ (as := []) (dq rfl) (pg_ok.2.2.1 131 _ _ _ _ rfl) rfl (by decide +kernel) rfl rfl (c12 h1 h9) (fun y11 M11 e11 q11 => ?_)
      have hJ11 : ∀ e ∈ RR.2, M11.2.2 e.1 e.2.1 = e.2.2 := fun e he => by rw [e11]; exact hJ e he
      show AW l (pI pg 131) P kc ks 21 [(0, .ref 40), (1, .ref 4), (2, .ref 30), (3, .int (b))] [.long (y11), .ref 30, .ref 4, .ref 40, .ref 40] SHF _
      refine fw_callVI (as := [.ref 4, .ref 30, .long (y11)]) (dq rfl) (pg_ok.2.2.1 131 _ _ _ _ rfl) rfl (by decide +kernel) rfl rfl (c14 h1 h9 y11 M11 e11 q11) (fun y13 M13 e13 q13 => ?_)
      have hJ13 : ∀ e ∈ RR.2, M13.2.2 e.1 e.2.1 = e.2.2 := fun e he => by rw [e13]; exact hJ11 e he
      show AW l (pI pg 131) P kc ks 24 [(0, .ref 40), (1, .ref 4), (2, .ref 30), (3, .int (b))] [.int (y13), .ref 40] SHF _
      refine fw_putI (dq rfl) (pg_ok.2.1 131 _ _ _ _ rfl) rfl rfl rfl ?_
      show AW l (pI pg 131) P kc ks 27 _ _ SHF _
      refine AW.aload_n (dq rfl) rfl rfl ?_
      show AW l (pI pg 131) P kc ks 28 _ _ SHF _
      refine fw_get (dq rfl) (pg_ok.2.1 131 _ _ _ _ rfl) rfl (v := .int ((aset M13 40 3 (.int (y13))).1 40 3)) rfl ?_
      show AW l (pI pg 131) P kc ks 31 _ _ SHF _
      refine AW.iret (dq rfl) rfl ?_
      exact r15 h1 h9 y11 M11 e11 q11 y13 M13 e13 q13

theorem lspa_0 {l : aL} {P : aP} {kc ks : Nat} {b : Int32} {M : aM} (hJ : ∀ e ∈ RR.2, M.2.2 e.1 e.2.1 = e.2.2) (hl0 : l.1.stackTraces = false) (Q1 : Int32 → aM → Prop) (c2 : AC l (pI pg 131) (fcI M Q1) 0 0 [.ref 40, .ref 4, .ref 30, .int (b)] SHF M) (Q4 : Int32 → aM → Int32 → aM → Prop) (c5 : ∀ (y1 : Int32), ∀ (M1 : aM), ∀ (e1 : M1.2.2 = M.2.2), ∀ (q1 : Q1 y1 M1), ∀ (h3 : ¬ (y1 : Int32) = (Int32.ofInt (-1) : Int32)), AC l (pI pg 135) (fcI M1 (Q4 y1 M1)) 0 0 [.ref 4, .int (y1)] SHF M1) (r6 : ∀ (y1 : Int32), ∀ (M1 : aM), ∀ (e1 : M1.2.2 = M.2.2), ∀ (q1 : Q1 y1 M1), ∀ (h3 : ¬ (y1 : Int32) = (Int32.ofInt (-1) : Int32)), ∀ (y4 : Int32), ∀ (M4 : aM), ∀ (e4 : M4.2.2 = M1.2.2), ∀ (q4 : (Q4 y1 M1) y4 M4), P (.inl (some (.int (y4)))) SHF M4) (r7 : ∀ (y1 : Int32), ∀ (M1 : aM), ∀ (e1 : M1.2.2 = M.2.2), ∀ (q1 : Q1 y1 M1), ∀ (h3 : (y1 : Int32) = (Int32.ofInt (-1) : Int32)), P (.inl (some (.int (Int32.ofInt (-1))))) SHF M1) : AW l (pI pg 130) P kc ks 0 [(0, .ref 40), (1, .ref 4), (2, .ref 30), (3, .int (b))] [] SHF M := by
  refine AW.aload_n (dq rfl) rfl rfl ?_
  show AW l (pI pg 130) P kc ks 1 _ _ SHF _
  refine AW.aload_n (dq rfl) rfl rfl ?_
  show AW l (pI pg 130) P kc ks 2 _ _ SHF _
  refine AW.aload_n (dq rfl) rfl rfl ?_
  show AW l (pI pg 130) P kc ks 3 _ _ SHF _
  refine AW.iload_n (dq rfl) rfl ?_
  show AW l (pI pg 130) P kc ks 4 _ _ SHF _
  refine fw_callVI (as := [.ref 4, .ref 30, .int (b)]) (dq rfl) (pg_ok.2.2.1 130 _ _ _ _ rfl) rfl (by decide +kernel) rfl rfl (c2) (fun y1 M1 e1 q1 => ?_)
  have hJ1 : ∀ e ∈ RR.2, M1.2.2 e.1 e.2.1 = e.2.2 := fun e he => by rw [e1]; exact hJ e he
  show AW l (pI pg 130) P kc ks 7 [(0, .ref 40), (1, .ref 4), (2, .ref 30), (3, .int (b))] [.int (y1)] SHF _
  refine AW.istore (dq rfl) (by decide +kernel) ?_
  show AW l (pI pg 130) P kc ks 9 [(4, .int (y1)), (0, .ref 40), (1, .ref 4), (2, .ref 30), (3, .int (b))] [] SHF _
  refine AW.iload (dq rfl) rfl ?_
  show AW l (pI pg 130) P kc ks 11 _ _ SHF _
  refine AW.iconst (dq rfl) ?_
  show AW l (pI pg 130) P kc ks 12 _ _ SHF _
  refine AW.icmp_ne (dq rfl) (tgt := 19) (by decide) (fun h3 => ?_) (fun h3 => ?_)
  · have _ := h3
    refine AW.aload_n (dq rfl) rfl rfl ?_
    show AW l (pI pg 130) P kc ks 20 _ _ SHF _
    refine AW.iload (dq rfl) rfl ?_
    show AW l (pI pg 130) P kc ks 22 _ _ SHF _
    refine fw_callVI (as := [.int (y1)]) (dq rfl) (pg_ok.2.2.1 130 _ _ _ _ rfl) rfl (by decide +kernel) rfl rfl (c5 y1 M1 e1 q1 h3) (fun y4 M4 e4 q4 => ?_)
    have hJ4 : ∀ e ∈ RR.2, M4.2.2 e.1 e.2.1 = e.2.2 := fun e he => by rw [e4]; exact hJ1 e he
    show AW l (pI pg 130) P kc ks 25 [(4, .int (y1)), (0, .ref 40), (1, .ref 4), (2, .ref 30), (3, .int (b))] [.int (y4)] SHF _
    refine AW.iret (dq rfl) rfl ?_
    exact r6 y1 M1 e1 q1 h3 y4 M4 e4 q4
  · have _ := h3
    refine AW.iconst (dq rfl) ?_
    show AW l (pI pg 130) P kc ks 16 _ _ SHF _
    refine AW.goto (dq rfl) (tgt := 25) (by decide) ?_
    refine AW.iret (dq rfl) rfl ?_
    exact r7 y1 M1 e1 q1 h3

theorem choa_0 {l : aL} {P : aP} {kc ks : Nat} {x y : Int32} {M : aM} (hJ : ∀ e ∈ RR.2, M.2.2 e.1 e.2.1 = e.2.2) (hl0 : l.1.stackTraces = false) (k1 : AW l (pI pg 137) P kc ks 5 [(4, .int (Int32.ofInt 0)), (3, .int (Int32.ofInt (-1))), (2, .int (y)), (1, .int (x)), (0, .ref 4)] [] SHF M) : AW l (pI pg 137) P kc ks 0 [(0, .ref 4), (1, .int (x)), (2, .int (y))] [] SHF M := by
  refine AW.iconst (dq rfl) ?_
  show AW l (pI pg 137) P kc ks 1 _ _ SHF _
  refine AW.istore_n (dq rfl) (by decide +kernel) ?_
  show AW l (pI pg 137) P kc ks 2 [(3, .int (Int32.ofInt (-1))), (0, .ref 4), (1, .int (x)), (2, .int (y))] [] SHF _
  refine AW.iconst (dq rfl) ?_
  show AW l (pI pg 137) P kc ks 3 _ _ SHF _
  refine AW.istore (dq rfl) (by decide +kernel) ?_
  show AW l (pI pg 137) P kc ks 5 [(4, .int (Int32.ofInt 0)), (3, .int (Int32.ofInt (-1))), (0, .ref 4), (1, .int (x)), (2, .int (y))] [] SHF _
  refine AW.drop (lv' := [(4, .int (Int32.ofInt 0)), (3, .int (Int32.ofInt (-1))), (2, .int (y)), (1, .int (x)), (0, .ref 4)]) (List.forall_mem_cons.mpr ⟨List.mem_of_getElem? (i := 0) rfl, List.forall_mem_cons.mpr ⟨List.mem_of_getElem? (i := 1) rfl, List.forall_mem_cons.mpr ⟨List.mem_of_getElem? (i := 4) rfl, List.forall_mem_cons.mpr ⟨List.mem_of_getElem? (i := 3) rfl, List.forall_mem_cons.mpr ⟨List.mem_of_getElem? (i := 2) rfl, fun _ h => absurd h List.not_mem_nil⟩⟩⟩⟩⟩) ?_
  exact k1

theorem choa_5 {l : aL} {P : aP} {kc ks : Nat} {k : Nat} {v x y : Int32} {M : aM} (hJ : ∀ e ∈ RR.2, M.2.2 e.1 e.2.1 = e.2.2) (hl0 : l.1.stackTraces = false) (r2 : ∀ (h1 : (M.1 4 2 : Int32) ≤ (nI k : Int32)), P (.inl (some (.int (v)))) SHF M) (o3 : ∀ (h1 : ¬ ((M.1 4 2 : Int32) ≤ (nI k : Int32))), vp_in (nI k) 8) (k6 : ∀ (h1 : ¬ ((M.1 4 2 : Int32) ≤ (nI k : Int32))), ∀ (h4 : ¬ (M.1 14 (nI k).toNatClampNeg : Int32) = (x : Int32)), AW l (pI pg 137) P kc ks 5 [(4, .int ((nI k) + Int32.ofInt 1)), (3, .int (v)), (2, .int (y)), (1, .int (x)), (0, .ref 4)] [] SHF M) (k9 : ∀ (h1 : ¬ ((M.1 4 2 : Int32) ≤ (nI k : Int32))), ∀ (h4 : (M.1 14 (nI k).toNatClampNeg : Int32) = (x : Int32)), ∀ (h7 : ¬ (((y) >>> ((nI k) &&& 31)) &&& (Int32.ofInt 1) : Int32) = 0), AW l (pI pg 137) P kc ks 5 [(4, .int ((nI k) + Int32.ofInt 1)), (3, .int (v)), (2, .int (y)), (1, .int (x)), (0, .ref 4)] [] SHF M) (k12 : ∀ (h1 : ¬ ((M.1 4 2 : Int32) ≤ (nI k : Int32))), ∀ (h4 : (M.1 14 (nI k).toNatClampNeg : Int32) = (x : Int32)), ∀ (h7 : (((y) >>> ((nI k) &&& 31)) &&& (Int32.ofInt 1) : Int32) = 0), ∀ (h11 : (v : Int32) = (Int32.ofInt (-1) : Int32)), AW l (pI pg 137) P kc ks 5 [(4, .int ((nI k) + Int32.ofInt 1)), (3, .int (nI k)), (2, .int (y)), (1, .int (x)), (0, .ref 4)] [] SHF M) (o13 : ∀ (h1 : ¬ ((M.1 4 2 : Int32) ≤ (nI k : Int32))), ∀ (h4 : (M.1 14 (nI k).toNatClampNeg : Int32) = (x : Int32)), ∀ (h7 : (((y) >>> ((nI k) &&& 31)) &&& (Int32.ofInt 1) : Int32) = 0), ∀ (h11 : ¬ ((v : Int32) = (Int32.ofInt (-1) : Int32))), vp_in (v) 8) (k15 : ∀ (h1 : ¬ ((M.1 4 2 : Int32) ≤ (nI k : Int32))), ∀ (h4 : (M.1 14 (nI k).toNatClampNeg : Int32) = (x : Int32)), ∀ (h7 : (((y) >>> ((nI k) &&& 31)) &&& (Int32.ofInt 1) : Int32) = 0), ∀ (h11 : ¬ ((v : Int32) = (Int32.ofInt (-1) : Int32))), ∀ (h14 : (M.1 16 (v).toNatClampNeg : Int32) ≤ (M.1 16 (nI k).toNatClampNeg : Int32)), AW l (pI pg 137) P kc ks 5 [(4, .int ((nI k) + Int32.ofInt 1)), (3, .int (v)), (2, .int (y)), (1, .int (x)), (0, .ref 4)] [] SHF M) (k16 : ∀ (h1 : ¬ ((M.1 4 2 : Int32) ≤ (nI k : Int32))), ∀ (h4 : (M.1 14 (nI k).toNatClampNeg : Int32) = (x : Int32)), ∀ (h7 : (((y) >>> ((nI k) &&& 31)) &&& (Int32.ofInt 1) : Int32) = 0), ∀ (h11 : ¬ ((v : Int32) = (Int32.ofInt (-1) : Int32))), ∀ (h14 : ¬ ((M.1 16 (v).toNatClampNeg : Int32) ≤ (M.1 16 (nI k).toNatClampNeg : Int32))), AW l (pI pg 137) P kc ks 5 [(4, .int ((nI k) + Int32.ofInt 1)), (3, .int (nI k)), (2, .int (y)), (1, .int (x)), (0, .ref 4)] [] SHF M) : AW l (pI pg 137) P kc ks 5 [(4, .int (nI k)), (3, .int (v)), (2, .int (y)), (1, .int (x)), (0, .ref 4)] [] SHF M := by
  refine AW.iload (dq rfl) rfl ?_
  show AW l (pI pg 137) P kc ks 7 _ _ SHF _
  refine AW.aload_n (dq rfl) rfl rfl ?_
  show AW l (pI pg 137) P kc ks 8 _ _ SHF _
  refine fw_get (dq rfl) (pg_ok.2.1 137 _ _ _ _ rfl) rfl (v := .int (M.1 4 2)) rfl ?_
  show AW l (pI pg 137) P kc ks 11 _ _ SHF _
  refine AW.icmp_ge (dq rfl) (tgt := 76) (by decide) (fun h1 => ?_) (fun h1 => ?_)
  · have _ := h1
    refine AW.iload_n (dq rfl) rfl ?_
    show AW l (pI pg 137) P kc ks 77 _ _ SHF _
    refine AW.iret (dq rfl) rfl ?_
    exact r2 h1
  · have _ := h1
    refine AW.aload_n (dq rfl) rfl rfl ?_
    show AW l (pI pg 137) P kc ks 15 _ _ SHF _
    refine fw_get (dq rfl) (pg_ok.2.1 137 _ _ _ _ rfl) rfl (v := .ref 14) (isTA_ok rfl (rgR_ok hJ rfl)) ?_
    show AW l (pI pg 137) P kc ks 18 _ _ SHF _
    refine AW.iload (dq rfl) rfl ?_
    show AW l (pI pg 137) P kc ks 20 _ _ SHF _
    refine AW.iald (dq rfl) rfl (o3 h1) ?_
    show AW l (pI pg 137) P kc ks 21 _ _ SHF _
    refine AW.iload_n (dq rfl) rfl ?_
    show AW l (pI pg 137) P kc ks 22 _ _ SHF _
    refine AW.icmp_ne (dq rfl) (tgt := 38) (by decide) (fun h4 => ?_) (fun h4 => ?_)
    · have _ := h4
      refine AW.iconst (dq rfl) ?_
      show AW l (pI pg 137) P kc ks 39 _ _ SHF _
      refine AW.istore (dq rfl) (by decide +kernel) ?_
      show AW l (pI pg 137) P kc ks 41 [(5, .int (Int32.ofInt 0)), (4, .int (nI k)), (3, .int (v)), (2, .int (y)), (1, .int (x)), (0, .ref 4)] [] SHF _
      refine AW.iload (dq rfl) rfl ?_
      show AW l (pI pg 137) P kc ks 43 _ _ SHF _
      refine AW.if_eq (dq rfl) (tgt := 70) (by decide) (fun h5 => ?_) (fun h5 => ?_)
      rotate_left
      · exact absurd h5 (by decide)
      refine AW.iinc (dq rfl) rfl (by decide +kernel) ?_
      show AW l (pI pg 137) P kc ks 73 [(4, .int ((nI k) + Int32.ofInt 1)), (5, .int (Int32.ofInt 0)), (3, .int (v)), (2, .int (y)), (1, .int (x)), (0, .ref 4)] [] SHF _
      refine AW.goto (dq rfl) (tgt := 5) (by decide) ?_
      refine AW.drop (lv' := [(4, .int ((nI k) + Int32.ofInt 1)), (3, .int (v)), (2, .int (y)), (1, .int (x)), (0, .ref 4)]) (List.forall_mem_cons.mpr ⟨List.mem_of_getElem? (i := 0) rfl, List.forall_mem_cons.mpr ⟨List.mem_of_getElem? (i := 2) rfl, List.forall_mem_cons.mpr ⟨List.mem_of_getElem? (i := 3) rfl, List.forall_mem_cons.mpr ⟨List.mem_of_getElem? (i := 4) rfl, List.forall_mem_cons.mpr ⟨List.mem_of_getElem? (i := 5) rfl, fun _ h => absurd h List.not_mem_nil⟩⟩⟩⟩⟩) ?_
      exact k6 h1 h4
    · have _ := h4
      refine AW.iload_n (dq rfl) rfl ?_
      show AW l (pI pg 137) P kc ks 26 _ _ SHF _
      refine AW.iload (dq rfl) rfl ?_
      show AW l (pI pg 137) P kc ks 28 _ _ SHF _
      refine AW.ishr (dq rfl) ?_
      show AW l (pI pg 137) P kc ks 29 _ _ SHF _
      refine AW.iconst (dq rfl) ?_
      show AW l (pI pg 137) P kc ks 30 _ _ SHF _
      refine AW.iand (dq rfl) ?_
      show AW l (pI pg 137) P kc ks 31 _ _ SHF _
      refine AW.if_ne (dq rfl) (tgt := 38) (by decide) (fun h7 => ?_) (fun h7 => ?_)
      · have _ := h7
        refine AW.iconst (dq rfl) ?_
        show AW l (pI pg 137) P kc ks 39 _ _ SHF _
        refine AW.istore (dq rfl) (by decide +kernel) ?_
        show AW l (pI pg 137) P kc ks 41 [(5, .int (Int32.ofInt 0)), (4, .int (nI k)), (3, .int (v)), (2, .int (y)), (1, .int (x)), (0, .ref 4)] [] SHF _
        refine AW.iload (dq rfl) rfl ?_
        show AW l (pI pg 137) P kc ks 43 _ _ SHF _
        refine AW.if_eq (dq rfl) (tgt := 70) (by decide) (fun h8 => ?_) (fun h8 => ?_)
        rotate_left
        · exact absurd h8 (by decide)
        refine AW.iinc (dq rfl) rfl (by decide +kernel) ?_
        show AW l (pI pg 137) P kc ks 73 [(4, .int ((nI k) + Int32.ofInt 1)), (5, .int (Int32.ofInt 0)), (3, .int (v)), (2, .int (y)), (1, .int (x)), (0, .ref 4)] [] SHF _
        refine AW.goto (dq rfl) (tgt := 5) (by decide) ?_
        refine AW.drop (lv' := [(4, .int ((nI k) + Int32.ofInt 1)), (3, .int (v)), (2, .int (y)), (1, .int (x)), (0, .ref 4)]) (List.forall_mem_cons.mpr ⟨List.mem_of_getElem? (i := 0) rfl, List.forall_mem_cons.mpr ⟨List.mem_of_getElem? (i := 2) rfl, List.forall_mem_cons.mpr ⟨List.mem_of_getElem? (i := 3) rfl, List.forall_mem_cons.mpr ⟨List.mem_of_getElem? (i := 4) rfl, List.forall_mem_cons.mpr ⟨List.mem_of_getElem? (i := 5) rfl, fun _ h => absurd h List.not_mem_nil⟩⟩⟩⟩⟩) ?_
        exact k9 h1 h4 h7
      · have _ := h7
        refine AW.iconst (dq rfl) ?_
        show AW l (pI pg 137) P kc ks 35 _ _ SHF _
        refine AW.goto (dq rfl) (tgt := 39) (by decide) ?_
        refine AW.istore (dq rfl) (by decide +kernel) ?_
        show AW l (pI pg 137) P kc ks 41 [(5, .int (Int32.ofInt 1)), (4, .int (nI k)), (3, .int (v)), (2, .int (y)), (1, .int (x)), (0, .ref 4)] [] SHF _
        refine AW.iload (dq rfl) rfl ?_
        show AW l (pI pg 137) P kc ks 43 _ _ SHF _
        refine AW.if_eq (dq rfl) (tgt := 70) (by decide) (fun h10 => ?_) (fun h10 => ?_)
        · exact absurd h10 (by decide)
        refine AW.iload_n (dq rfl) rfl ?_
        show AW l (pI pg 137) P kc ks 47 _ _ SHF _
        refine AW.iconst (dq rfl) ?_
        show AW l (pI pg 137) P kc ks 48 _ _ SHF _
        refine AW.icmp_eq (dq rfl) (tgt := 67) (by decide) (fun h11 => ?_) (fun h11 => ?_)
        · have _ := h11
          refine AW.iload (dq rfl) rfl ?_
          show AW l (pI pg 137) P kc ks 69 _ _ SHF _
          refine AW.istore_n (dq rfl) (by decide +kernel) ?_
          show AW l (pI pg 137) P kc ks 70 [(3, .int (nI k)), (5, .int (Int32.ofInt 1)), (4, .int (nI k)), (2, .int (y)), (1, .int (x)), (0, .ref 4)] [] SHF _
          refine AW.iinc (dq rfl) rfl (by decide +kernel) ?_
          show AW l (pI pg 137) P kc ks 73 [(4, .int ((nI k) + Int32.ofInt 1)), (3, .int (nI k)), (5, .int (Int32.ofInt 1)), (2, .int (y)), (1, .int (x)), (0, .ref 4)] [] SHF _
          refine AW.goto (dq rfl) (tgt := 5) (by decide) ?_
          refine AW.drop (lv' := [(4, .int ((nI k) + Int32.ofInt 1)), (3, .int (nI k)), (2, .int (y)), (1, .int (x)), (0, .ref 4)]) (List.forall_mem_cons.mpr ⟨List.mem_of_getElem? (i := 0) rfl, List.forall_mem_cons.mpr ⟨List.mem_of_getElem? (i := 1) rfl, List.forall_mem_cons.mpr ⟨List.mem_of_getElem? (i := 3) rfl, List.forall_mem_cons.mpr ⟨List.mem_of_getElem? (i := 4) rfl, List.forall_mem_cons.mpr ⟨List.mem_of_getElem? (i := 5) rfl, fun _ h => absurd h List.not_mem_nil⟩⟩⟩⟩⟩) ?_
          exact k12 h1 h4 h7 h11
        · have _ := h11
          refine AW.aload_n (dq rfl) rfl rfl ?_
          show AW l (pI pg 137) P kc ks 52 _ _ SHF _
          refine fw_get (dq rfl) (pg_ok.2.1 137 _ _ _ _ rfl) rfl (v := .ref 16) (isTA_ok rfl (rgR_ok hJ rfl)) ?_
          show AW l (pI pg 137) P kc ks 55 _ _ SHF _
          refine AW.iload (dq rfl) rfl ?_
          show AW l (pI pg 137) P kc ks 57 _ _ SHF _
          refine AW.iald (dq rfl) rfl (o3 h1) ?_
          show AW l (pI pg 137) P kc ks 58 _ _ SHF _
          refine AW.aload_n (dq rfl) rfl rfl ?_
          show AW l (pI pg 137) P kc ks 59 _ _ SHF _
          refine fw_get (dq rfl) (pg_ok.2.1 137 _ _ _ _ rfl) rfl (v := .ref 16) (isTA_ok rfl (rgR_ok hJ rfl)) ?_
          show AW l (pI pg 137) P kc ks 62 _ _ SHF _
          refine AW.iload_n (dq rfl) rfl ?_
          show AW l (pI pg 137) P kc ks 63 _ _ SHF _
          refine AW.iald (dq rfl) rfl (o13 h1 h4 h7 h11) ?_
          show AW l (pI pg 137) P kc ks 64 _ _ SHF _
          refine AW.icmp_ge (dq rfl) (tgt := 70) (by decide) (fun h14 => ?_) (fun h14 => ?_)
          · have _ := h14
            refine AW.iinc (dq rfl) rfl (by decide +kernel) ?_
            show AW l (pI pg 137) P kc ks 73 [(4, .int ((nI k) + Int32.ofInt 1)), (5, .int (Int32.ofInt 1)), (3, .int (v)), (2, .int (y)), (1, .int (x)), (0, .ref 4)] [] SHF _
            refine AW.goto (dq rfl) (tgt := 5) (by decide) ?_
            refine AW.drop (lv' := [(4, .int ((nI k) + Int32.ofInt 1)), (3, .int (v)), (2, .int (y)), (1, .int (x)), (0, .ref 4)]) (List.forall_mem_cons.mpr ⟨List.mem_of_getElem? (i := 0) rfl, List.forall_mem_cons.mpr ⟨List.mem_of_getElem? (i := 2) rfl, List.forall_mem_cons.mpr ⟨List.mem_of_getElem? (i := 3) rfl, List.forall_mem_cons.mpr ⟨List.mem_of_getElem? (i := 4) rfl, List.forall_mem_cons.mpr ⟨List.mem_of_getElem? (i := 5) rfl, fun _ h => absurd h List.not_mem_nil⟩⟩⟩⟩⟩) ?_
            exact k15 h1 h4 h7 h11 h14
          · have _ := h14
            refine AW.iload (dq rfl) rfl ?_
            show AW l (pI pg 137) P kc ks 69 _ _ SHF _
            refine AW.istore_n (dq rfl) (by decide +kernel) ?_
            show AW l (pI pg 137) P kc ks 70 [(3, .int (nI k)), (5, .int (Int32.ofInt 1)), (4, .int (nI k)), (2, .int (y)), (1, .int (x)), (0, .ref 4)] [] SHF _
            refine AW.iinc (dq rfl) rfl (by decide +kernel) ?_
            show AW l (pI pg 137) P kc ks 73 [(4, .int ((nI k) + Int32.ofInt 1)), (3, .int (nI k)), (5, .int (Int32.ofInt 1)), (2, .int (y)), (1, .int (x)), (0, .ref 4)] [] SHF _
            refine AW.goto (dq rfl) (tgt := 5) (by decide) ?_
            refine AW.drop (lv' := [(4, .int ((nI k) + Int32.ofInt 1)), (3, .int (nI k)), (2, .int (y)), (1, .int (x)), (0, .ref 4)]) (List.forall_mem_cons.mpr ⟨List.mem_of_getElem? (i := 0) rfl, List.forall_mem_cons.mpr ⟨List.mem_of_getElem? (i := 1) rfl, List.forall_mem_cons.mpr ⟨List.mem_of_getElem? (i := 3) rfl, List.forall_mem_cons.mpr ⟨List.mem_of_getElem? (i := 4) rfl, List.forall_mem_cons.mpr ⟨List.mem_of_getElem? (i := 5) rfl, fun _ h => absurd h List.not_mem_nil⟩⟩⟩⟩⟩) ?_
            exact k16 h1 h4 h7 h11 h14

theorem bnda_0 {l : aL} {P : aP} {kc ks : Nat} {m : Int32} {M : aM} (hJ : ∀ e ∈ RR.2, M.2.2 e.1 e.2.1 = e.2.2) (hl0 : l.1.stackTraces = false) (k1 : AW l (pI pg 136) P kc ks 5 [(4, .int (Int32.ofInt 0)), (3, .int (Int32.ofInt 0)), (2, .int (m)), (1, .ref 4)] [] SHF M) : AW l (pI pg 136) P kc ks 0 [(0, .ref 40), (1, .ref 4), (2, .int (m))] [] SHF M := by
  refine AW.iconst (dq rfl) ?_
  show AW l (pI pg 136) P kc ks 1 _ _ SHF _
  refine AW.istore_n (dq rfl) (by decide +kernel) ?_
  show AW l (pI pg 136) P kc ks 2 [(3, .int (Int32.ofInt 0)), (0, .ref 40), (1, .ref 4), (2, .int (m))] [] SHF _
  refine AW.iconst (dq rfl) ?_
  show AW l (pI pg 136) P kc ks 3 _ _ SHF _
  refine AW.istore (dq rfl) (by decide +kernel) ?_
  show AW l (pI pg 136) P kc ks 5 [(4, .int (Int32.ofInt 0)), (3, .int (Int32.ofInt 0)), (0, .ref 40), (1, .ref 4), (2, .int (m))] [] SHF _
  refine AW.drop (lv' := [(4, .int (Int32.ofInt 0)), (3, .int (Int32.ofInt 0)), (2, .int (m)), (1, .ref 4)]) (List.forall_mem_cons.mpr ⟨List.mem_of_getElem? (i := 0) rfl, List.forall_mem_cons.mpr ⟨List.mem_of_getElem? (i := 1) rfl, List.forall_mem_cons.mpr ⟨List.mem_of_getElem? (i := 4) rfl, List.forall_mem_cons.mpr ⟨List.mem_of_getElem? (i := 3) rfl, fun _ h => absurd h List.not_mem_nil⟩⟩⟩⟩) ?_
  exact k1

theorem bnda_5 {l : aL} {P : aP} {kc ks : Nat} {w : Nat} {v m : Int32} {M : aM} (hJ : ∀ e ∈ RR.2, M.2.2 e.1 e.2.1 = e.2.2) (hl0 : l.1.stackTraces = false) (r2 : ∀ (h1 : (M.1 4 1 : Int32) ≤ (nI w : Int32)), P (.inl (some (.int (v)))) SHF M) (o3 : ∀ (h1 : ¬ ((M.1 4 1 : Int32) ≤ (nI w : Int32))), vp_in (nI w) 8) (Q4 : Int32 → aM → Prop) (c5 : ∀ (h1 : ¬ ((M.1 4 1 : Int32) ≤ (nI w : Int32))), AC l (pI pg 21) (fcI M Q4) 0 0 [.int (M.1 11 (nI w).toNatClampNeg)] SHF M) (k6 : ∀ (h1 : ¬ ((M.1 4 1 : Int32) ≤ (nI w : Int32))), ∀ (y4 : Int32), ∀ (M4 : aM), ∀ (e4 : M4.2.2 = M.2.2), ∀ (q4 : Q4 y4 M4), AW l (pI pg 136) P kc ks 34 [(7, .int (Int32.ofInt 0)), (6, .int (Int32.ofInt 0)), (5, .int ((m) - (y4))), (4, .int (nI w)), (3, .int (v)), (2, .int (m)), (1, .ref 4)] [] SHF M4) : AW l (pI pg 136) P kc ks 5 [(4, .int (nI w)), (3, .int (v)), (2, .int (m)), (1, .ref 4)] [] SHF M := by
  refine AW.iload (dq rfl) rfl ?_
  show AW l (pI pg 136) P kc ks 7 _ _ SHF _
  refine AW.aload_n (dq rfl) rfl rfl ?_
  show AW l (pI pg 136) P kc ks 8 _ _ SHF _
  refine fw_get (dq rfl) (pg_ok.2.1 136 _ _ _ _ rfl) rfl (v := .int (M.1 4 1)) rfl ?_
  show AW l (pI pg 136) P kc ks 11 _ _ SHF _
  refine AW.icmp_ge (dq rfl) (tgt := 90) (by decide) (fun h1 => ?_) (fun h1 => ?_)
  · have _ := h1
    refine AW.iload_n (dq rfl) rfl ?_
    show AW l (pI pg 136) P kc ks 91 _ _ SHF _
    refine AW.iret (dq rfl) rfl ?_
    exact r2 h1
  · have _ := h1
    refine AW.iload_n (dq rfl) rfl ?_
    show AW l (pI pg 136) P kc ks 15 _ _ SHF _
    refine AW.aload_n (dq rfl) rfl rfl ?_
    show AW l (pI pg 136) P kc ks 16 _ _ SHF _
    refine fw_get (dq rfl) (pg_ok.2.1 136 _ _ _ _ rfl) rfl (v := .ref 11) (isTA_ok rfl (rgR_ok hJ rfl)) ?_
    show AW l (pI pg 136) P kc ks 19 _ _ SHF _
    refine AW.iload (dq rfl) rfl ?_
    show AW l (pI pg 136) P kc ks 21 _ _ SHF _
    refine AW.iald (dq rfl) rfl (o3 h1) ?_
    show AW l (pI pg 136) P kc ks 22 _ _ SHF _
    refine fw_callSI (as := [.int (M.1 11 (nI w).toNatClampNeg)]) (dq rfl) (pg_ok.2.2.1 136 _ _ _ _ rfl) (by decide +kernel) rfl rfl (c5 h1) (fun y4 M4 e4 q4 => ?_)
    have hJ4 : ∀ e ∈ RR.2, M4.2.2 e.1 e.2.1 = e.2.2 := fun e he => by rw [e4]; exact hJ e he
    show AW l (pI pg 136) P kc ks 25 [(4, .int (nI w)), (3, .int (v)), (2, .int (m)), (1, .ref 4)] [.int (y4), .int (m)] SHF _
    refine AW.isub (dq rfl) ?_
    show AW l (pI pg 136) P kc ks 26 _ _ SHF _
    refine AW.istore (dq rfl) (by decide +kernel) ?_
    show AW l (pI pg 136) P kc ks 28 [(5, .int ((m) - (y4))), (4, .int (nI w)), (3, .int (v)), (2, .int (m)), (1, .ref 4)] [] SHF _
    refine AW.iconst (dq rfl) ?_
    show AW l (pI pg 136) P kc ks 29 _ _ SHF _
    refine AW.istore (dq rfl) (by decide +kernel) ?_
    show AW l (pI pg 136) P kc ks 31 [(6, .int (Int32.ofInt 0)), (5, .int ((m) - (y4))), (4, .int (nI w)), (3, .int (v)), (2, .int (m)), (1, .ref 4)] [] SHF _
    refine AW.iconst (dq rfl) ?_
    show AW l (pI pg 136) P kc ks 32 _ _ SHF _
    refine AW.istore (dq rfl) (by decide +kernel) ?_
    show AW l (pI pg 136) P kc ks 34 [(7, .int (Int32.ofInt 0)), (6, .int (Int32.ofInt 0)), (5, .int ((m) - (y4))), (4, .int (nI w)), (3, .int (v)), (2, .int (m)), (1, .ref 4)] [] SHF _
    refine AW.drop (lv' := [(7, .int (Int32.ofInt 0)), (6, .int (Int32.ofInt 0)), (5, .int ((m) - (y4))), (4, .int (nI w)), (3, .int (v)), (2, .int (m)), (1, .ref 4)]) (List.forall_mem_cons.mpr ⟨List.mem_of_getElem? (i := 0) rfl, List.forall_mem_cons.mpr ⟨List.mem_of_getElem? (i := 1) rfl, List.forall_mem_cons.mpr ⟨List.mem_of_getElem? (i := 2) rfl, List.forall_mem_cons.mpr ⟨List.mem_of_getElem? (i := 3) rfl, List.forall_mem_cons.mpr ⟨List.mem_of_getElem? (i := 4) rfl, List.forall_mem_cons.mpr ⟨List.mem_of_getElem? (i := 5) rfl, List.forall_mem_cons.mpr ⟨List.mem_of_getElem? (i := 6) rfl, fun _ h => absurd h List.not_mem_nil⟩⟩⟩⟩⟩⟩⟩) ?_
    exact k6 h1 y4 M4 e4 q4

theorem bnda_34 {l : aL} {P : aP} {kc ks : Nat} {i w : Nat} {u c v m : Int32} {M : aM} (hJ : ∀ e ∈ RR.2, M.2.2 e.1 e.2.1 = e.2.2) (hl0 : l.1.stackTraces = false) (k2 : ∀ (h1 : (c : Int32) ≤ (nI i : Int32)), AW l (pI pg 136) P kc ks 5 [(4, .int ((nI w) + Int32.ofInt 1)), (3, .int (v)), (2, .int (m)), (1, .ref 4)] [] SHF M) (Q3 : Int32 → aM → Prop) (c4 : ∀ (h1 : ¬ ((c : Int32) ≤ (nI i : Int32))), AC l (pI pg 137) (fcI M Q3) 0 0 [.ref 4, .int (nI w), .int (u)] SHF M) (o6 : ∀ (h1 : ¬ ((c : Int32) ≤ (nI i : Int32))), ∀ (y3 : Int32), ∀ (M3 : aM), ∀ (e3 : M3.2.2 = M.2.2), ∀ (q3 : Q3 y3 M3), ∀ (h5 : ¬ (y3 : Int32) = (Int32.ofInt (-1) : Int32)), vp_in (y3) 8) (k7 : ∀ (h1 : ¬ ((c : Int32) ≤ (nI i : Int32))), ∀ (y3 : Int32), ∀ (M3 : aM), ∀ (e3 : M3.2.2 = M.2.2), ∀ (q3 : Q3 y3 M3), ∀ (h5 : ¬ (y3 : Int32) = (Int32.ofInt (-1) : Int32)), AW l (pI pg 136) P kc ks 34 [(7, .int ((nI i) + Int32.ofInt 1)), (6, .int ((u) ||| ((Int32.ofInt 1) <<< ((y3) &&& 31)))), (5, .int (c)), (4, .int (nI w)), (3, .int ((v) + (M3.1 16 (y3).toNatClampNeg))), (2, .int (m)), (1, .ref 4)] [] SHF M3) (r8 : ∀ (h1 : ¬ ((c : Int32) ≤ (nI i : Int32))), ∀ (y3 : Int32), ∀ (M3 : aM), ∀ (e3 : M3.2.2 = M.2.2), ∀ (q3 : Q3 y3 M3), ∀ (h5 : (y3 : Int32) = (Int32.ofInt (-1) : Int32)), P (.inl (some (.int (Int32.ofInt (-1))))) SHF M3) : AW l (pI pg 136) P kc ks 34 [(7, .int (nI i)), (6, .int (u)), (5, .int (c)), (4, .int (nI w)), (3, .int (v)), (2, .int (m)), (1, .ref 4)] [] SHF M := by
  refine AW.iload (dq rfl) rfl ?_
  show AW l (pI pg 136) P kc ks 36 _ _ SHF _
  refine AW.iload (dq rfl) rfl ?_
  show AW l (pI pg 136) P kc ks 38 _ _ SHF _
  refine AW.icmp_ge (dq rfl) (tgt := 84) (by decide) (fun h1 => ?_) (fun h1 => ?_)
  · have _ := h1
    refine AW.iinc (dq rfl) rfl (by decide +kernel) ?_
    show AW l (pI pg 136) P kc ks 87 [(4, .int ((nI w) + Int32.ofInt 1)), (7, .int (nI i)), (6, .int (u)), (5, .int (c)), (3, .int (v)), (2, .int (m)), (1, .ref 4)] [] SHF _
    refine AW.goto (dq rfl) (tgt := 5) (by decide) ?_
    refine AW.drop (lv' := [(4, .int ((nI w) + Int32.ofInt 1)), (3, .int (v)), (2, .int (m)), (1, .ref 4)]) (List.forall_mem_cons.mpr ⟨List.mem_of_getElem? (i := 0) rfl, List.forall_mem_cons.mpr ⟨List.mem_of_getElem? (i := 4) rfl, List.forall_mem_cons.mpr ⟨List.mem_of_getElem? (i := 5) rfl, List.forall_mem_cons.mpr ⟨List.mem_of_getElem? (i := 6) rfl, fun _ h => absurd h List.not_mem_nil⟩⟩⟩⟩) ?_
    exact k2 h1
  · have _ := h1
    refine AW.aload_n (dq rfl) rfl rfl ?_
    show AW l (pI pg 136) P kc ks 42 _ _ SHF _
    refine AW.iload (dq rfl) rfl ?_
    show AW l (pI pg 136) P kc ks 44 _ _ SHF _
    refine AW.iload (dq rfl) rfl ?_
    show AW l (pI pg 136) P kc ks 46 _ _ SHF _
    refine fw_callSI (as := [.ref 4, .int (nI w), .int (u)]) (dq rfl) (pg_ok.2.2.1 136 _ _ _ _ rfl) (by decide +kernel) rfl rfl (c4 h1) (fun y3 M3 e3 q3 => ?_)
    have hJ3 : ∀ e ∈ RR.2, M3.2.2 e.1 e.2.1 = e.2.2 := fun e he => by rw [e3]; exact hJ e he
    show AW l (pI pg 136) P kc ks 49 [(7, .int (nI i)), (6, .int (u)), (5, .int (c)), (4, .int (nI w)), (3, .int (v)), (2, .int (m)), (1, .ref 4)] [.int (y3)] SHF _
    refine AW.istore (dq rfl) (by decide +kernel) ?_
    show AW l (pI pg 136) P kc ks 51 [(8, .int (y3)), (7, .int (nI i)), (6, .int (u)), (5, .int (c)), (4, .int (nI w)), (3, .int (v)), (2, .int (m)), (1, .ref 4)] [] SHF _
    refine AW.iload (dq rfl) rfl ?_
    show AW l (pI pg 136) P kc ks 53 _ _ SHF _
    refine AW.iconst (dq rfl) ?_
    show AW l (pI pg 136) P kc ks 54 _ _ SHF _
    refine AW.icmp_ne (dq rfl) (tgt := 59) (by decide) (fun h5 => ?_) (fun h5 => ?_)
    · have _ := h5
      refine AW.iload (dq rfl) rfl ?_
      show AW l (pI pg 136) P kc ks 61 _ _ SHF _
      refine AW.iconst (dq rfl) ?_
      show AW l (pI pg 136) P kc ks 62 _ _ SHF _
      refine AW.iload (dq rfl) rfl ?_
      show AW l (pI pg 136) P kc ks 64 _ _ SHF _
      refine AW.ishl (dq rfl) ?_
      show AW l (pI pg 136) P kc ks 65 _ _ SHF _
      refine AW.ior (dq rfl) ?_
      show AW l (pI pg 136) P kc ks 66 _ _ SHF _
      refine AW.istore (dq rfl) (by decide +kernel) ?_
      show AW l (pI pg 136) P kc ks 68 [(6, .int ((u) ||| ((Int32.ofInt 1) <<< ((y3) &&& 31)))), (8, .int (y3)), (7, .int (nI i)), (5, .int (c)), (4, .int (nI w)), (3, .int (v)), (2, .int (m)), (1, .ref 4)] [] SHF _
      refine AW.iload_n (dq rfl) rfl ?_
      show AW l (pI pg 136) P kc ks 69 _ _ SHF _
      refine AW.aload_n (dq rfl) rfl rfl ?_
      show AW l (pI pg 136) P kc ks 70 _ _ SHF _
      refine fw_get (dq rfl) (pg_ok.2.1 136 _ _ _ _ rfl) rfl (v := .ref 16) (isTA_ok rfl (rgR_ok hJ3 rfl)) ?_
      show AW l (pI pg 136) P kc ks 73 _ _ SHF _
      refine AW.iload (dq rfl) rfl ?_
      show AW l (pI pg 136) P kc ks 75 _ _ SHF _
      refine AW.iald (dq rfl) rfl (o6 h1 y3 M3 e3 q3 h5) ?_
      show AW l (pI pg 136) P kc ks 76 _ _ SHF _
      refine AW.iadd (dq rfl) ?_
      show AW l (pI pg 136) P kc ks 77 _ _ SHF _
      refine AW.istore_n (dq rfl) (by decide +kernel) ?_
      show AW l (pI pg 136) P kc ks 78 [(3, .int ((v) + (M3.1 16 (y3).toNatClampNeg))), (6, .int ((u) ||| ((Int32.ofInt 1) <<< ((y3) &&& 31)))), (8, .int (y3)), (7, .int (nI i)), (5, .int (c)), (4, .int (nI w)), (2, .int (m)), (1, .ref 4)] [] SHF _
      refine AW.iinc (dq rfl) rfl (by decide +kernel) ?_
      show AW l (pI pg 136) P kc ks 81 [(7, .int ((nI i) + Int32.ofInt 1)), (3, .int ((v) + (M3.1 16 (y3).toNatClampNeg))), (6, .int ((u) ||| ((Int32.ofInt 1) <<< ((y3) &&& 31)))), (8, .int (y3)), (5, .int (c)), (4, .int (nI w)), (2, .int (m)), (1, .ref 4)] [] SHF _
      refine AW.goto (dq rfl) (tgt := 34) (by decide) ?_
      refine AW.drop (lv' := [(7, .int ((nI i) + Int32.ofInt 1)), (6, .int ((u) ||| ((Int32.ofInt 1) <<< ((y3) &&& 31)))), (5, .int (c)), (4, .int (nI w)), (3, .int ((v) + (M3.1 16 (y3).toNatClampNeg))), (2, .int (m)), (1, .ref 4)]) (List.forall_mem_cons.mpr ⟨List.mem_of_getElem? (i := 0) rfl, List.forall_mem_cons.mpr ⟨List.mem_of_getElem? (i := 2) rfl, List.forall_mem_cons.mpr ⟨List.mem_of_getElem? (i := 4) rfl, List.forall_mem_cons.mpr ⟨List.mem_of_getElem? (i := 5) rfl, List.forall_mem_cons.mpr ⟨List.mem_of_getElem? (i := 1) rfl, List.forall_mem_cons.mpr ⟨List.mem_of_getElem? (i := 6) rfl, List.forall_mem_cons.mpr ⟨List.mem_of_getElem? (i := 7) rfl, fun _ h => absurd h List.not_mem_nil⟩⟩⟩⟩⟩⟩⟩) ?_
      exact k7 h1 y3 M3 e3 q3 h5
    · have _ := h5
      refine AW.iconst (dq rfl) ?_
      show AW l (pI pg 136) P kc ks 58 _ _ SHF _
      refine AW.iret (dq rfl) rfl ?_
      exact r8 h1 y3 M3 e3 q3 h5

theorem lrna_0 {l : aL} {P : aP} {kc ks : Nat} {b x : Int32} {M : aM} (hJ : ∀ e ∈ RR.2, M.2.2 e.1 e.2.1 = e.2.2) (hl0 : l.1.stackTraces = false) (Q2 : Int32 → aM → Prop) (c3 : ∀ (h1 : (x : Int32) = Int32.ofInt 0), AC l (pI pg 130) (fcI M Q2) 0 0 [.ref 40, .ref 4, .ref 30, .int (b)] SHF M) (r4 : ∀ (h1 : (x : Int32) = Int32.ofInt 0), ∀ (y2 : Int32), ∀ (M2 : aM), ∀ (e2 : M2.2.2 = M.2.2), ∀ (q2 : Q2 y2 M2), P (.inl (some (.int (y2)))) SHF M2) (Q6 : Int32 → aM → Prop) (c7 : ∀ (h1 : ¬ (x : Int32) = Int32.ofInt 0), ∀ (h5 : (x : Int32) = Int32.ofInt 1), AC l (pI pg 131) (fcI M Q6) 0 0 [.ref 40, .ref 4, .ref 30, .int (b)] SHF M) (r8 : ∀ (h1 : ¬ (x : Int32) = Int32.ofInt 0), ∀ (h5 : (x : Int32) = Int32.ofInt 1), ∀ (y6 : Int32), ∀ (M6 : aM), ∀ (e6 : M6.2.2 = M.2.2), ∀ (q6 : Q6 y6 M6), P (.inl (some (.int (y6)))) SHF M6) (Q11 : Int32 → aM → Prop) (c12 : ∀ (h1 : ¬ (x : Int32) = Int32.ofInt 0), ∀ (h5 : ¬ (x : Int32) = Int32.ofInt 1), ∀ (h9 : (x : Int32) = Int32.ofInt 2), ∀ (h10 : (b : Int32) = 0), AC l (pI pg 136) (fcI M Q11) 0 0 [.ref 40, .ref 4, .int (Int32.ofInt 2)] SHF M) (r13 : ∀ (h1 : ¬ (x : Int32) = Int32.ofInt 0), ∀ (h5 : ¬ (x : Int32) = Int32.ofInt 1), ∀ (h9 : (x : Int32) = Int32.ofInt 2), ∀ (h10 : (b : Int32) = 0), ∀ (y11 : Int32), ∀ (M11 : aM), ∀ (e11 : M11.2.2 = M.2.2), ∀ (q11 : Q11 y11 M11), P (.inl (some (.int (y11)))) SHF M11) (Q14 : Int32 → aM → Prop) (c15 : ∀ (h1 : ¬ (x : Int32) = Int32.ofInt 0), ∀ (h5 : ¬ (x : Int32) = Int32.ofInt 1), ∀ (h9 : (x : Int32) = Int32.ofInt 2), ∀ (h10 : ¬ ((b : Int32) = 0)), AC l (pI pg 136) (fcI M Q14) 0 0 [.ref 40, .ref 4, .int (Int32.ofInt 3)] SHF M) (r16 : ∀ (h1 : ¬ (x : Int32) = Int32.ofInt 0), ∀ (h5 : ¬ (x : Int32) = Int32.ofInt 1), ∀ (h9 : (x : Int32) = Int32.ofInt 2), ∀ (h10 : ¬ ((b : Int32) = 0)), ∀ (y14 : Int32), ∀ (M14 : aM), ∀ (e14 : M14.2.2 = M.2.2), ∀ (q14 : Q14 y14 M14), P (.inl (some (.int (y14)))) SHF M14) (x17 : ∀ (h1 : ¬ (x : Int32) = Int32.ofInt 0), ∀ (h5 : ¬ (x : Int32) = Int32.ofInt 1), ∀ (h9 : ¬ (x : Int32) = Int32.ofInt 2), P (.inr "java/util/NoSuchElementException") SHF M) : AW l (pI pg 129) P (kc + 1) (ks + 6) 0 [(0, .ref 0), (1, .int (b)), (2, .int (x))] [] SHF M := by
  refine AW.iload_n (dq rfl) rfl ?_
  show AW l (pI pg 129) P (kc + 1) (ks + 6) 1 _ _ SHF _
  by_cases h1 : (x : Int32) = Int32.ofInt 0
  · refine AW.tableIn (dq rfl) (by rw [h1]; decide) (by rw [h1]; decide) (off := 27) (by rw [h1]; decide) (tgt := 28) (by decide) ?_
    show AW l (pI pg 129) P (kc + 1) (ks + 6) 28 [(0, .ref 0), (1, .int (b)), (2, .int (x))] [] SHF _
    refine AW.aload_n (dq rfl) rfl rfl ?_
    show AW l (pI pg 129) P (kc + 1) (ks + 6) 29 _ _ SHF _
    refine fw_get (dq rfl) (pg_ok.2.1 129 _ _ _ _ rfl) rfl (v := .ref 40) (isTA_ok rfl (rgR_ok hJ rfl)) ?_
    show AW l (pI pg 129) P (kc + 1) (ks + 6) 32 _ _ SHF _
    refine AW.aload_n (dq rfl) rfl rfl ?_
    show AW l (pI pg 129) P (kc + 1) (ks + 6) 33 _ _ SHF _
    refine fw_get (dq rfl) (pg_ok.2.1 129 _ _ _ _ rfl) rfl (v := .ref 4) (isTA_ok rfl (rgR_ok hJ rfl)) ?_
    show AW l (pI pg 129) P (kc + 1) (ks + 6) 36 _ _ SHF _
    refine AW.aload_n (dq rfl) rfl rfl ?_
    show AW l (pI pg 129) P (kc + 1) (ks + 6) 37 _ _ SHF _
    refine fw_get (dq rfl) (pg_ok.2.1 129 _ _ _ _ rfl) rfl (v := .ref 30) (isTA_ok rfl (rgR_ok hJ rfl)) ?_
    show AW l (pI pg 129) P (kc + 1) (ks + 6) 40 _ _ SHF _
    refine AW.iload_n (dq rfl) rfl ?_
    show AW l (pI pg 129) P (kc + 1) (ks + 6) 41 _ _ SHF _
    refine fw_callVI (as := [.ref 4, .ref 30, .int (b)]) (dq rfl) (pg_ok.2.2.1 129 _ _ _ _ rfl) rfl (by decide +kernel) rfl rfl (c3 h1) (fun y2 M2 e2 q2 => ?_)
    have hJ2 : ∀ e ∈ RR.2, M2.2.2 e.1 e.2.1 = e.2.2 := fun e he => by rw [e2]; exact hJ e he
    show AW l (pI pg 129) P (kc + 1) (ks + 6) 44 [(0, .ref 0), (1, .int (b)), (2, .int (x))] [.int (y2)] SHF _
    refine AW.iret (dq rfl) rfl ?_
    exact r4 h1 y2 M2 e2 q2
  by_cases h5 : (x : Int32) = Int32.ofInt 1
  · refine AW.tableIn (dq rfl) (by rw [h5]; decide) (by rw [h5]; decide) (off := 44) (by rw [h5]; decide) (tgt := 45) (by decide) ?_
    show AW l (pI pg 129) P (kc + 1) (ks + 6) 45 [(0, .ref 0), (1, .int (b)), (2, .int (x))] [] SHF _
    refine AW.aload_n (dq rfl) rfl rfl ?_
    show AW l (pI pg 129) P (kc + 1) (ks + 6) 46 _ _ SHF _
    refine fw_get (dq rfl) (pg_ok.2.1 129 _ _ _ _ rfl) rfl (v := .ref 40) (isTA_ok rfl (rgR_ok hJ rfl)) ?_
    show AW l (pI pg 129) P (kc + 1) (ks + 6) 49 _ _ SHF _
    refine AW.aload_n (dq rfl) rfl rfl ?_
    show AW l (pI pg 129) P (kc + 1) (ks + 6) 50 _ _ SHF _
    refine fw_get (dq rfl) (pg_ok.2.1 129 _ _ _ _ rfl) rfl (v := .ref 4) (isTA_ok rfl (rgR_ok hJ rfl)) ?_
    show AW l (pI pg 129) P (kc + 1) (ks + 6) 53 _ _ SHF _
    refine AW.aload_n (dq rfl) rfl rfl ?_
    show AW l (pI pg 129) P (kc + 1) (ks + 6) 54 _ _ SHF _
    refine fw_get (dq rfl) (pg_ok.2.1 129 _ _ _ _ rfl) rfl (v := .ref 30) (isTA_ok rfl (rgR_ok hJ rfl)) ?_
    show AW l (pI pg 129) P (kc + 1) (ks + 6) 57 _ _ SHF _
    refine AW.iload_n (dq rfl) rfl ?_
    show AW l (pI pg 129) P (kc + 1) (ks + 6) 58 _ _ SHF _
    refine fw_callVI (as := [.ref 4, .ref 30, .int (b)]) (dq rfl) (pg_ok.2.2.1 129 _ _ _ _ rfl) rfl (by decide +kernel) rfl rfl (c7 h1 h5) (fun y6 M6 e6 q6 => ?_)
    have hJ6 : ∀ e ∈ RR.2, M6.2.2 e.1 e.2.1 = e.2.2 := fun e he => by rw [e6]; exact hJ e he
    show AW l (pI pg 129) P (kc + 1) (ks + 6) 61 [(0, .ref 0), (1, .int (b)), (2, .int (x))] [.int (y6)] SHF _
    refine AW.iret (dq rfl) rfl ?_
    exact r8 h1 h5 y6 M6 e6 q6
  by_cases h9 : (x : Int32) = Int32.ofInt 2
  · refine AW.tableIn (dq rfl) (by rw [h9]; decide) (by rw [h9]; decide) (off := 61) (by rw [h9]; decide) (tgt := 62) (by decide) ?_
    show AW l (pI pg 129) P (kc + 1) (ks + 6) 62 [(0, .ref 0), (1, .int (b)), (2, .int (x))] [] SHF _
    refine AW.aload_n (dq rfl) rfl rfl ?_
    show AW l (pI pg 129) P (kc + 1) (ks + 6) 63 _ _ SHF _
    refine fw_get (dq rfl) (pg_ok.2.1 129 _ _ _ _ rfl) rfl (v := .ref 40) (isTA_ok rfl (rgR_ok hJ rfl)) ?_
    show AW l (pI pg 129) P (kc + 1) (ks + 6) 66 _ _ SHF _
    refine AW.aload_n (dq rfl) rfl rfl ?_
    show AW l (pI pg 129) P (kc + 1) (ks + 6) 67 _ _ SHF _
    refine fw_get (dq rfl) (pg_ok.2.1 129 _ _ _ _ rfl) rfl (v := .ref 4) (isTA_ok rfl (rgR_ok hJ rfl)) ?_
    show AW l (pI pg 129) P (kc + 1) (ks + 6) 70 _ _ SHF _
    refine AW.iload_n (dq rfl) rfl ?_
    show AW l (pI pg 129) P (kc + 1) (ks + 6) 71 _ _ SHF _
    refine AW.if_eq (dq rfl) (tgt := 78) (by decide) (fun h10 => ?_) (fun h10 => ?_)
    · have _ := h10
      refine AW.iconst (dq rfl) ?_
      show AW l (pI pg 129) P (kc + 1) (ks + 6) 79 _ _ SHF _
      refine fw_callVI (as := [.ref 4, .int (Int32.ofInt 2)]) (dq rfl) (pg_ok.2.2.1 129 _ _ _ _ rfl) rfl (by decide +kernel) rfl rfl (c12 h1 h5 h9 h10) (fun y11 M11 e11 q11 => ?_)
      have hJ11 : ∀ e ∈ RR.2, M11.2.2 e.1 e.2.1 = e.2.2 := fun e he => by rw [e11]; exact hJ e he
      show AW l (pI pg 129) P (kc + 1) (ks + 6) 82 [(0, .ref 0), (1, .int (b)), (2, .int (x))] [.int (y11)] SHF _
      refine AW.iret (dq rfl) rfl ?_
      exact r13 h1 h5 h9 h10 y11 M11 e11 q11
    · have _ := h10
      refine AW.iconst (dq rfl) ?_
      show AW l (pI pg 129) P (kc + 1) (ks + 6) 75 _ _ SHF _
      refine AW.goto (dq rfl) (tgt := 79) (by decide) ?_
      refine fw_callVI (as := [.ref 4, .int (Int32.ofInt 3)]) (dq rfl) (pg_ok.2.2.1 129 _ _ _ _ rfl) rfl (by decide +kernel) rfl rfl (c15 h1 h5 h9 h10) (fun y14 M14 e14 q14 => ?_)
      have hJ14 : ∀ e ∈ RR.2, M14.2.2 e.1 e.2.1 = e.2.2 := fun e he => by rw [e14]; exact hJ e he
      show AW l (pI pg 129) P (kc + 1) (ks + 6) 82 [(0, .ref 0), (1, .int (b)), (2, .int (x))] [.int (y14)] SHF _
      refine AW.iret (dq rfl) rfl ?_
      exact r16 h1 h5 h9 h10 y14 M14 e14 q14
  refine AW.tableOut (dq rfl) (tb_out2 h1 h5 h9) (tgt := 83) (by decide) ?_
  show AW l (pI pg 129) P (kc + 1) (ks + 6) 83 [(0, .ref 0), (1, .int (b)), (2, .int (x))] [] SHF _
  refine pg_ok.2.2.2.2.2.2.2.1 129 _ _ rfl _ _ _ _ _ _ _ ?_
  exact x17 h1 h5 h9

theorem fi4b_0 {l : aL} {P : aP} {kc ks : Nat} {M : aM} (hJ : ∀ e ∈ RRS.2, M.2.2 e.1 e.2.1 = e.2.2) (hl0 : l.1.stackTraces = false) (Q1 : aM → Prop) (c2 : AC l (pI pg 17) (fcV M Q1) 0 0 [.ref 42, .long (Int64.ofNat (0 : Fin 2))] SHF M) (o3 : ∀ (M1 : aM), ∀ (e1 : M1.2.2 = M.2.2), ∀ (q1 : Q1 M1), vp_in (Int32.ofInt 0) 256) (k4 : ∀ (M1 : aM), ∀ (e1 : M1.2.2 = M.2.2), ∀ (q1 : Q1 M1), AW l (pI pg 16) P kc ks 18 [(4, .int (Int32.ofInt 0)), (3, .ref 44), (2, .ref 30), (1, .ref 17), (0, .ref 41)] [] SHF (aset M1 42 (Int32.ofInt 0).toNatClampNeg (.long (Int64.ofNat (1 : Fin 2))))) : AW l (pI pg 16) P kc ks 0 [(0, .ref 41), (1, .ref 17), (2, .ref 30), (3, .ref 44)] [] SHF M := by
  refine AW.aload_n (dq rfl) rfl rfl ?_
  show AW l (pI pg 16) P kc ks 1 _ _ SHF _
  refine fw_get (dq rfl) (pg_ok.2.1 16 _ _ _ _ rfl) rfl (v := .ref 42) (isTA_ok rfl (rgR_ok hJ rfl)) ?_
  show AW l (pI pg 16) P kc ks 4 _ _ SHF _
  refine AW.lconst (dq rfl) ?_
  show AW l (pI pg 16) P kc ks 5 _ _ SHF _
  refine fw_callSV (as := [.ref 42, .long (Int64.ofNat (0 : Fin 2))]) (dq rfl) (pg_ok.2.2.1 16 _ _ _ _ rfl) (by decide +kernel) rfl rfl (c2) (fun M1 e1 q1 => ?_)
  have hJ1 : ∀ e ∈ RRS.2, M1.2.2 e.1 e.2.1 = e.2.2 := fun e he => by rw [e1]; exact hJ e he
  show AW l (pI pg 16) P kc ks 8 [(0, .ref 41), (1, .ref 17), (2, .ref 30), (3, .ref 44)] [] SHF _
  refine AW.aload_n (dq rfl) rfl rfl ?_
  show AW l (pI pg 16) P kc ks 9 _ _ SHF _
  refine fw_get (dq rfl) (pg_ok.2.1 16 _ _ _ _ rfl) rfl (v := .ref 42) (isTA_ok rfl (rgR_ok hJ1 rfl)) ?_
  show AW l (pI pg 16) P kc ks 12 _ _ SHF _
  refine AW.iconst (dq rfl) ?_
  show AW l (pI pg 16) P kc ks 13 _ _ SHF _
  refine AW.lconst (dq rfl) ?_
  show AW l (pI pg 16) P kc ks 14 _ _ SHF _
  refine AW.last (by decide) (dq rfl) rfl (o3 M1 e1 q1) ?_
  show AW l (pI pg 16) P kc ks 15 _ _ SHF _
  refine AW.iconst (dq rfl) ?_
  show AW l (pI pg 16) P kc ks 16 _ _ SHF _
  refine AW.istore (dq rfl) (by decide +kernel) ?_
  show AW l (pI pg 16) P kc ks 18 [(4, .int (Int32.ofInt 0)), (0, .ref 41), (1, .ref 17), (2, .ref 30), (3, .ref 44)] [] SHF _
  refine AW.drop (lv' := [(4, .int (Int32.ofInt 0)), (3, .ref 44), (2, .ref 30), (1, .ref 17), (0, .ref 41)]) (List.forall_mem_cons.mpr ⟨List.mem_of_getElem? (i := 0) rfl, List.forall_mem_cons.mpr ⟨List.mem_of_getElem? (i := 4) rfl, List.forall_mem_cons.mpr ⟨List.mem_of_getElem? (i := 3) rfl, List.forall_mem_cons.mpr ⟨List.mem_of_getElem? (i := 2) rfl, List.forall_mem_cons.mpr ⟨List.mem_of_getElem? (i := 1) rfl, fun _ h => absurd h List.not_mem_nil⟩⟩⟩⟩⟩) ?_
  exact k4 M1 e1 q1

theorem fi4b_18 {l : aL} {P : aP} {kc ks : Nat} {p : Nat} {M : aM} (hJ : ∀ e ∈ RRS.2, M.2.2 e.1 e.2.1 = e.2.2) (hl0 : l.1.stackTraces = false) (r2 : ∀ (h1 : (M.1 17 0 : Int32) ≤ (nI p : Int32)), P (.inl none) SHF M) (Q3 : Int32 → aM → Prop) (c4 : ∀ (h1 : ¬ ((M.1 17 0 : Int32) ≤ (nI p : Int32))), AC l (pI pg 18) (fcI M Q3) 0 0 [.ref 17] SHF M) (k5 : ∀ (h1 : ¬ ((M.1 17 0 : Int32) ≤ (nI p : Int32))), ∀ (y3 : Int32), ∀ (M3 : aM), ∀ (e3 : M3.2.2 = M.2.2), ∀ (q3 : Q3 y3 M3), AW l (pI pg 16) P kc ks 33 [(5, .int (y3)), (4, .int (nI p)), (3, .ref 44), (2, .ref 30), (1, .ref 17), (0, .ref 41)] [] SHF M3) : AW l (pI pg 16) P kc ks 18 [(4, .int (nI p)), (3, .ref 44), (2, .ref 30), (1, .ref 17), (0, .ref 41)] [] SHF M := by
  refine AW.iload (dq rfl) rfl ?_
  show AW l (pI pg 16) P kc ks 20 _ _ SHF _
  refine AW.aload_n (dq rfl) rfl rfl ?_
  show AW l (pI pg 16) P kc ks 21 _ _ SHF _
  refine fw_get (dq rfl) (pg_ok.2.1 16 _ _ _ _ rfl) rfl (v := .int (M.1 17 0)) rfl ?_
  show AW l (pI pg 16) P kc ks 24 _ _ SHF _
  refine AW.icmp_ge (dq rfl) (tgt := 87) (by decide) (fun h1 => ?_) (fun h1 => ?_)
  · have _ := h1
    refine AW.vret (dq rfl) rfl ?_
    exact r2 h1
  · have _ := h1
    refine AW.aload_n (dq rfl) rfl rfl ?_
    show AW l (pI pg 16) P kc ks 28 _ _ SHF _
    refine fw_callVI (as := []) (dq rfl) (pg_ok.2.2.1 16 _ _ _ _ rfl) rfl (by decide +kernel) rfl rfl (c4 h1) (fun y3 M3 e3 q3 => ?_)
    have hJ3 : ∀ e ∈ RRS.2, M3.2.2 e.1 e.2.1 = e.2.2 := fun e he => by rw [e3]; exact hJ e he
    show AW l (pI pg 16) P kc ks 31 [(4, .int (nI p)), (3, .ref 44), (2, .ref 30), (1, .ref 17), (0, .ref 41)] [.int (y3)] SHF _
    refine AW.istore (dq rfl) (by decide +kernel) ?_
    show AW l (pI pg 16) P kc ks 33 [(5, .int (y3)), (4, .int (nI p)), (3, .ref 44), (2, .ref 30), (1, .ref 17), (0, .ref 41)] [] SHF _
    refine AW.drop (lv' := [(5, .int (y3)), (4, .int (nI p)), (3, .ref 44), (2, .ref 30), (1, .ref 17), (0, .ref 41)]) (List.forall_mem_cons.mpr ⟨List.mem_of_getElem? (i := 0) rfl, List.forall_mem_cons.mpr ⟨List.mem_of_getElem? (i := 1) rfl, List.forall_mem_cons.mpr ⟨List.mem_of_getElem? (i := 2) rfl, List.forall_mem_cons.mpr ⟨List.mem_of_getElem? (i := 3) rfl, List.forall_mem_cons.mpr ⟨List.mem_of_getElem? (i := 4) rfl, List.forall_mem_cons.mpr ⟨List.mem_of_getElem? (i := 5) rfl, fun _ h => absurd h List.not_mem_nil⟩⟩⟩⟩⟩⟩) ?_
    exact k5 h1 y3 M3 e3 q3

theorem fi4b_33 {l : aL} {P : aP} {kc ks : Nat} {p : Nat} {s : Int32} {M : aM} (hJ : ∀ e ∈ RRS.2, M.2.2 e.1 e.2.1 = e.2.2) (hl0 : l.1.stackTraces = false) (k2 : ∀ (h1 : (s : Int32) < 0), AW l (pI pg 16) P kc ks 18 [(4, .int ((nI p) + Int32.ofInt 1)), (3, .ref 44), (2, .ref 30), (1, .ref 17), (0, .ref 41)] [] SHF M) (o3 : ∀ (h1 : ¬ ((s : Int32) < 0)), vp_in (nI p) 6) (Q4 : Int64 → aM → Prop) (c5 : ∀ (h1 : ¬ ((s : Int32) < 0)), AC l (pI pg 19) (fcJ M Q4) 0 0 [.ref 41, .ref 30, .int (s), .int (M.1 44 (nI p).toNatClampNeg), .int (M.1 18 (nI p).toNatClampNeg)] SHF M) (o6 : ∀ (h1 : ¬ ((s : Int32) < 0)), ∀ (y4 : Int64), ∀ (M4 : aM), ∀ (e4 : M4.2.2 = M.2.2), ∀ (q4 : Q4 y4 M4), vp_in (s) 256) (k7 : ∀ (h1 : ¬ ((s : Int32) < 0)), ∀ (y4 : Int64), ∀ (M4 : aM), ∀ (e4 : M4.2.2 = M.2.2), ∀ (q4 : Q4 y4 M4), AW l (pI pg 16) P kc ks 33 [(5, .int ((s) + Int32.ofInt (-1))), (4, .int (nI p)), (3, .ref 44), (2, .ref 30), (1, .ref 17), (0, .ref 41)] [] SHF (aset M4 42 (s).toNatClampNeg (.long ((M4.2.1 42 (s).toNatClampNeg) ||| ((y4) <<< (((Int32.ofInt 1) <<< ((nI p) &&& 31)).toInt64 &&& 63)))))) : AW l (pI pg 16) P kc ks 33 [(5, .int (s)), (4, .int (nI p)), (3, .ref 44), (2, .ref 30), (1, .ref 17), (0, .ref 41)] [] SHF M := by
  refine AW.iload (dq rfl) rfl ?_
  show AW l (pI pg 16) P kc ks 35 _ _ SHF _
  refine AW.if_lt (dq rfl) (tgt := 81) (by decide) (fun h1 => ?_) (fun h1 => ?_)
  · have _ := h1
    refine AW.iinc (dq rfl) rfl (by decide +kernel) ?_
    show AW l (pI pg 16) P kc ks 84 [(4, .int ((nI p) + Int32.ofInt 1)), (5, .int (s)), (3, .ref 44), (2, .ref 30), (1, .ref 17), (0, .ref 41)] [] SHF _
    refine AW.goto (dq rfl) (tgt := 18) (by decide) ?_
    refine AW.drop (lv' := [(4, .int ((nI p) + Int32.ofInt 1)), (3, .ref 44), (2, .ref 30), (1, .ref 17), (0, .ref 41)]) (List.forall_mem_cons.mpr ⟨List.mem_of_getElem? (i := 0) rfl, List.forall_mem_cons.mpr ⟨List.mem_of_getElem? (i := 2) rfl, List.forall_mem_cons.mpr ⟨List.mem_of_getElem? (i := 3) rfl, List.forall_mem_cons.mpr ⟨List.mem_of_getElem? (i := 4) rfl, List.forall_mem_cons.mpr ⟨List.mem_of_getElem? (i := 5) rfl, fun _ h => absurd h List.not_mem_nil⟩⟩⟩⟩⟩) ?_
    exact k2 h1
  · have _ := h1
    refine AW.aload_n (dq rfl) rfl rfl ?_
    show AW l (pI pg 16) P kc ks 39 _ _ SHF _
    refine AW.aload_n (dq rfl) rfl rfl ?_
    show AW l (pI pg 16) P kc ks 40 _ _ SHF _
    refine AW.iload (dq rfl) rfl ?_
    show AW l (pI pg 16) P kc ks 42 _ _ SHF _
    refine AW.aload_n (dq rfl) rfl rfl ?_
    show AW l (pI pg 16) P kc ks 43 _ _ SHF _
    refine AW.iload (dq rfl) rfl ?_
    show AW l (pI pg 16) P kc ks 45 _ _ SHF _
    refine AW.iald (dq rfl) rfl (o3 h1) ?_
    show AW l (pI pg 16) P kc ks 46 _ _ SHF _
    refine AW.aload_n (dq rfl) rfl rfl ?_
    show AW l (pI pg 16) P kc ks 47 _ _ SHF _
    refine fw_get (dq rfl) (pg_ok.2.1 16 _ _ _ _ rfl) rfl (v := .ref 18) (isTA_ok rfl (rgR_ok hJ rfl)) ?_
    show AW l (pI pg 16) P kc ks 50 _ _ SHF _
    refine AW.iload (dq rfl) rfl ?_
    show AW l (pI pg 16) P kc ks 52 _ _ SHF _
    refine AW.iald (dq rfl) rfl (o3 h1) ?_
    show AW l (pI pg 16) P kc ks 53 _ _ SHF _
    refine fw_callVJ (as := [.ref 30, .int (s), .int (M.1 44 (nI p).toNatClampNeg), .int (M.1 18 (nI p).toNatClampNeg)]) (dq rfl) (pg_ok.2.2.1 16 _ _ _ _ rfl) rfl (by decide +kernel) rfl rfl (c5 h1) (fun y4 M4 e4 q4 => ?_)
    have hJ4 : ∀ e ∈ RRS.2, M4.2.2 e.1 e.2.1 = e.2.2 := fun e he => by rw [e4]; exact hJ e he
    show AW l (pI pg 16) P kc ks 56 [(5, .int (s)), (4, .int (nI p)), (3, .ref 44), (2, .ref 30), (1, .ref 17), (0, .ref 41)] [.long (y4)] SHF _
    refine AW.lstore (dq rfl) (by decide +kernel) ?_
    show AW l (pI pg 16) P kc ks 58 [(6, .long (y4)), (5, .int (s)), (4, .int (nI p)), (3, .ref 44), (2, .ref 30), (1, .ref 17), (0, .ref 41)] [] SHF _
    refine AW.aload_n (dq rfl) rfl rfl ?_
    show AW l (pI pg 16) P kc ks 59 _ _ SHF _
    refine fw_get (dq rfl) (pg_ok.2.1 16 _ _ _ _ rfl) rfl (v := .ref 42) (isTA_ok rfl (rgR_ok hJ4 rfl)) ?_
    show AW l (pI pg 16) P kc ks 62 _ _ SHF _
    refine AW.iload (dq rfl) rfl ?_
    show AW l (pI pg 16) P kc ks 64 _ _ SHF _
    refine AW.dup2_11 (dq rfl) rfl rfl ?_
    show AW l (pI pg 16) P kc ks 65 _ _ SHF _
    refine AW.lald (by decide) (dq rfl) rfl (o6 h1 y4 M4 e4 q4) ?_
    show AW l (pI pg 16) P kc ks 66 _ _ SHF _
    refine AW.lload (dq rfl) rfl ?_
    show AW l (pI pg 16) P kc ks 68 _ _ SHF _
    refine AW.iconst (dq rfl) ?_
    show AW l (pI pg 16) P kc ks 69 _ _ SHF _
    refine AW.iload (dq rfl) rfl ?_
    show AW l (pI pg 16) P kc ks 71 _ _ SHF _
    refine AW.ishl (dq rfl) ?_
    show AW l (pI pg 16) P kc ks 72 _ _ SHF _
    refine AW.lshl (dq rfl) ?_
    show AW l (pI pg 16) P kc ks 73 _ _ SHF _
    refine AW.lor (dq rfl) ?_
    show AW l (pI pg 16) P kc ks 74 _ _ SHF _
    refine AW.last (by decide) (dq rfl) rfl (o6 h1 y4 M4 e4 q4) ?_
    show AW l (pI pg 16) P kc ks 75 _ _ SHF _
    refine AW.iinc (dq rfl) rfl (by decide +kernel) ?_
    show AW l (pI pg 16) P kc ks 78 [(5, .int ((s) + Int32.ofInt (-1))), (6, .long (y4)), (4, .int (nI p)), (3, .ref 44), (2, .ref 30), (1, .ref 17), (0, .ref 41)] [] SHF _
    refine AW.goto (dq rfl) (tgt := 33) (by decide) ?_
    refine AW.drop (lv' := [(5, .int ((s) + Int32.ofInt (-1))), (4, .int (nI p)), (3, .ref 44), (2, .ref 30), (1, .ref 17), (0, .ref 41)]) (List.forall_mem_cons.mpr ⟨List.mem_of_getElem? (i := 0) rfl, List.forall_mem_cons.mpr ⟨List.mem_of_getElem? (i := 2) rfl, List.forall_mem_cons.mpr ⟨List.mem_of_getElem? (i := 3) rfl, List.forall_mem_cons.mpr ⟨List.mem_of_getElem? (i := 4) rfl, List.forall_mem_cons.mpr ⟨List.mem_of_getElem? (i := 5) rfl, List.forall_mem_cons.mpr ⟨List.mem_of_getElem? (i := 6) rfl, fun _ h => absurd h List.not_mem_nil⟩⟩⟩⟩⟩⟩) ?_
    exact k7 h1 y4 M4 e4 q4

theorem hwib_0 {l : aL} {P : aP} {kc ks : Nat} {x : Int32} {f : Int64} {M : aM} (hJ : ∀ e ∈ RRS.2, M.2.2 e.1 e.2.1 = e.2.2) (hl0 : l.1.stackTraces = false) (k1 : AW l (pI pg 134) P kc ks 18 [(6, .int (Int32.ofInt 0)), (4, .long (f)), (3, .int (x)), (2, .ref 30), (1, .ref 17), (0, .ref 40)] [] SHF (acpy M 20 44 (Int32.ofInt 0).toNatClampNeg (Int32.ofInt 0).toNatClampNeg ((Int8.ofInt 6).toInt32).toNatClampNeg)) : AW l (pI pg 134) P kc ks 0 [(0, .ref 40), (1, .ref 17), (2, .ref 30), (3, .int (x)), (4, .long (f))] [] SHF M := by
  refine AW.aload_n (dq rfl) rfl rfl ?_
  show AW l (pI pg 134) P kc ks 1 _ _ SHF _
  refine fw_get (dq rfl) (pg_ok.2.1 134 _ _ _ _ rfl) rfl (v := .ref 20) (isTA_ok rfl (rgR_ok hJ rfl)) ?_
  show AW l (pI pg 134) P kc ks 4 _ _ SHF _
  refine AW.iconst (dq rfl) ?_
  show AW l (pI pg 134) P kc ks 5 _ _ SHF _
  refine AW.aload_n (dq rfl) rfl rfl ?_
  show AW l (pI pg 134) P kc ks 6 _ _ SHF _
  refine fw_get (dq rfl) (pg_ok.2.1 134 _ _ _ _ rfl) rfl (v := .ref 44) (isTA_ok rfl (rgR_ok hJ rfl)) ?_
  show AW l (pI pg 134) P kc ks 9 _ _ SHF _
  refine AW.iconst (dq rfl) ?_
  show AW l (pI pg 134) P kc ks 10 _ _ SHF _
  refine AW.bipush (dq rfl) ?_
  show AW l (pI pg 134) P kc ks 12 _ _ SHF _
  refine AW.copyi (i := 20) (j := 44) (n0 := 6) (n1 := 6) (sp := Int32.ofInt 0) (dp := Int32.ofInt 0) (k := (Int8.ofInt 6).toInt32) (dq rfl) ((pg_ok.2.2.1 134 _ _ _ _ rfl).2.2.2.2.2.1 rfl) rfl rfl (by decide) (by decide) (by decide) (by decide) (by decide) (by decide +kernel) (by decide +kernel) ?_
  show AW l (pI pg 134) P kc ks 15 [(0, .ref 40), (1, .ref 17), (2, .ref 30), (3, .int (x)), (4, .long (f))] [] SHF _
  refine AW.iconst (dq rfl) ?_
  show AW l (pI pg 134) P kc ks 16 _ _ SHF _
  refine AW.istore (dq rfl) (by decide +kernel) ?_
  show AW l (pI pg 134) P kc ks 18 [(6, .int (Int32.ofInt 0)), (0, .ref 40), (1, .ref 17), (2, .ref 30), (3, .int (x)), (4, .long (f))] [] SHF _
  refine AW.drop (lv' := [(6, .int (Int32.ofInt 0)), (4, .long (f)), (3, .int (x)), (2, .ref 30), (1, .ref 17), (0, .ref 40)]) (List.forall_mem_cons.mpr ⟨List.mem_of_getElem? (i := 0) rfl, List.forall_mem_cons.mpr ⟨List.mem_of_getElem? (i := 5) rfl, List.forall_mem_cons.mpr ⟨List.mem_of_getElem? (i := 4) rfl, List.forall_mem_cons.mpr ⟨List.mem_of_getElem? (i := 3) rfl, List.forall_mem_cons.mpr ⟨List.mem_of_getElem? (i := 2) rfl, List.forall_mem_cons.mpr ⟨List.mem_of_getElem? (i := 1) rfl, fun _ h => absurd h List.not_mem_nil⟩⟩⟩⟩⟩⟩) ?_
  exact k1

theorem hwib_18 {l : aL} {P : aP} {kc ks : Nat} {k : Nat} {x : Int32} {f : Int64} {M : aM} (hJ : ∀ e ∈ RRS.2, M.2.2 e.1 e.2.1 = e.2.2) (hl0 : l.1.stackTraces = false) (Q2 : aM → Prop) (c3 : ∀ (h1 : (M.1 17 2 : Int32) ≤ (nI k : Int32)), AC l (pI pg 16) (fcV M Q2) 0 0 [.ref 41, .ref 17, .ref 30, .ref 44] SHF M) (Q4 : aM → Int32 → aM → Prop) (c5 : ∀ (h1 : (M.1 17 2 : Int32) ≤ (nI k : Int32)), ∀ (M2 : aM), ∀ (e2 : M2.2.2 = M.2.2), ∀ (q2 : Q2 M2), AC l (pI pg 18) (fcI M2 (Q4 M2)) 0 0 [.ref 17] SHF M2) (Q6 : aM → Int32 → aM → Int32 → aM → Prop) (c7 : ∀ (h1 : (M.1 17 2 : Int32) ≤ (nI k : Int32)), ∀ (M2 : aM), ∀ (e2 : M2.2.2 = M.2.2), ∀ (q2 : Q2 M2), ∀ (y4 : Int32), ∀ (M4 : aM), ∀ (e4 : M4.2.2 = M2.2.2), ∀ (q4 : (Q4 M2) y4 M4), AC l (pI pg 119) (fcI M4 (Q6 M2 y4 M4)) 0 0 [.ref 41, .int (y4), .long (f)] SHF M4) (z8 : ∀ (h1 : (M.1 17 2 : Int32) ≤ (nI k : Int32)), ∀ (M2 : aM), ∀ (e2 : M2.2.2 = M.2.2), ∀ (q2 : Q2 M2), ∀ (y4 : Int32), ∀ (M4 : aM), ∀ (e4 : M4.2.2 = M2.2.2), ∀ (q4 : (Q4 M2) y4 M4), ∀ (y6 : Int32), ∀ (M6 : aM), ∀ (e6 : M6.2.2 = M4.2.2), ∀ (q6 : (Q6 M2 y4 M4) y6 M6), narrow (.boolean) (.int (y6)) = .int (y6)) (r9 : ∀ (h1 : (M.1 17 2 : Int32) ≤ (nI k : Int32)), ∀ (M2 : aM), ∀ (e2 : M2.2.2 = M.2.2), ∀ (q2 : Q2 M2), ∀ (y4 : Int32), ∀ (M4 : aM), ∀ (e4 : M4.2.2 = M2.2.2), ∀ (q4 : (Q4 M2) y4 M4), ∀ (y6 : Int32), ∀ (M6 : aM), ∀ (e6 : M6.2.2 = M4.2.2), ∀ (q6 : (Q6 M2 y4 M4) y6 M6), P (.inl (some (.int (y6)))) SHF M6) (o10 : ∀ (h1 : ¬ ((M.1 17 2 : Int32) ≤ (nI k : Int32))), vp_in (nI k) 8) (k12 : ∀ (h1 : ¬ ((M.1 17 2 : Int32) ≤ (nI k : Int32))), ∀ (h11 : (((x) >>> ((nI k) &&& 31)) &&& (Int32.ofInt 1) : Int32) = 0), AW l (pI pg 134) P kc ks 18 [(6, .int ((nI k) + Int32.ofInt 1)), (4, .long (f)), (3, .int (x)), (2, .ref 30), (1, .ref 17), (0, .ref 40)] [] SHF M) (k15 : ∀ (h1 : ¬ ((M.1 17 2 : Int32) ≤ (nI k : Int32))), ∀ (h11 : ¬ ((((x) >>> ((nI k) &&& 31)) &&& (Int32.ofInt 1) : Int32) = 0)), ∀ (h14 : (hpV (M.1 17 0) (M.1 26 (nI k).toNatClampNeg) : Int32) = 0), AW l (pI pg 134) P kc ks 18 [(6, .int ((nI k) + Int32.ofInt 1)), (4, .long (f)), (3, .int (x)), (2, .ref 30), (1, .ref 17), (0, .ref 40)] [] SHF M) (o16 : ∀ (h1 : ¬ ((M.1 17 2 : Int32) ≤ (nI k : Int32))), ∀ (h11 : ¬ ((((x) >>> ((nI k) &&& 31)) &&& (Int32.ofInt 1) : Int32) = 0)), ∀ (h14 : ¬ ((hpV (M.1 17 0) (M.1 26 (nI k).toNatClampNeg) : Int32) = 0)), vp_in (M.1 26 (nI k).toNatClampNeg) 6) (k17 : ∀ (h1 : ¬ ((M.1 17 2 : Int32) ≤ (nI k : Int32))), ∀ (h11 : ¬ ((((x) >>> ((nI k) &&& 31)) &&& (Int32.ofInt 1) : Int32) = 0)), ∀ (h14 : ¬ ((hpV (M.1 17 0) (M.1 26 (nI k).toNatClampNeg) : Int32) = 0)), AW l (pI pg 134) P kc ks 18 [(6, .int ((nI k) + Int32.ofInt 1)), (4, .long (f)), (3, .int (x)), (2, .ref 30), (1, .ref 17), (0, .ref 40)] [] SHF (aset M 44 (M.1 26 (nI k).toNatClampNeg).toNatClampNeg (.int ((M.1 44 (M.1 26 (nI k).toNatClampNeg).toNatClampNeg) ||| ((Int32.ofInt 1) <<< ((M.1 27 (nI k).toNatClampNeg) &&& 31)))))) : AW l (pI pg 134) P kc ks 18 [(6, .int (nI k)), (4, .long (f)), (3, .int (x)), (2, .ref 30), (1, .ref 17), (0, .ref 40)] [] SHF M := by
  refine AW.iload (dq rfl) rfl ?_
  show AW l (pI pg 134) P kc ks 20 _ _ SHF _
  refine AW.aload_n (dq rfl) rfl rfl ?_
  show AW l (pI pg 134) P kc ks 21 _ _ SHF _
  refine fw_get (dq rfl) (pg_ok.2.1 134 _ _ _ _ rfl) rfl (v := .int (M.1 17 2)) rfl ?_
  show AW l (pI pg 134) P kc ks 24 _ _ SHF _
  refine AW.icmp_ge (dq rfl) (tgt := 79) (by decide) (fun h1 => ?_) (fun h1 => ?_)
  · have _ := h1
    refine AW.aload_n (dq rfl) rfl rfl ?_
    show AW l (pI pg 134) P kc ks 80 _ _ SHF _
    refine fw_get (dq rfl) (pg_ok.2.1 134 _ _ _ _ rfl) rfl (v := .ref 41) (isTA_ok rfl (rgR_ok hJ rfl)) ?_
    show AW l (pI pg 134) P kc ks 83 _ _ SHF _
    refine AW.aload_n (dq rfl) rfl rfl ?_
    show AW l (pI pg 134) P kc ks 84 _ _ SHF _
    refine AW.aload_n (dq rfl) rfl rfl ?_
    show AW l (pI pg 134) P kc ks 85 _ _ SHF _
    refine AW.aload_n (dq rfl) rfl rfl ?_
    show AW l (pI pg 134) P kc ks 86 _ _ SHF _
    refine fw_get (dq rfl) (pg_ok.2.1 134 _ _ _ _ rfl) rfl (v := .ref 44) (isTA_ok rfl (rgR_ok hJ rfl)) ?_
    show AW l (pI pg 134) P kc ks 89 _ _ SHF _
    refine fw_callVV (as := [.ref 17, .ref 30, .ref 44]) (dq rfl) (pg_ok.2.2.1 134 _ _ _ _ rfl) rfl (by decide +kernel) rfl rfl (c3 h1) (fun M2 e2 q2 => ?_)
    have hJ2 : ∀ e ∈ RRS.2, M2.2.2 e.1 e.2.1 = e.2.2 := fun e he => by rw [e2]; exact hJ e he
    show AW l (pI pg 134) P kc ks 92 [(6, .int (nI k)), (4, .long (f)), (3, .int (x)), (2, .ref 30), (1, .ref 17), (0, .ref 40)] [] SHF _
    refine AW.aload_n (dq rfl) rfl rfl ?_
    show AW l (pI pg 134) P kc ks 93 _ _ SHF _
    refine fw_get (dq rfl) (pg_ok.2.1 134 _ _ _ _ rfl) rfl (v := .ref 41) (isTA_ok rfl (rgR_ok hJ2 rfl)) ?_
    show AW l (pI pg 134) P kc ks 96 _ _ SHF _
    refine AW.aload_n (dq rfl) rfl rfl ?_
    show AW l (pI pg 134) P kc ks 97 _ _ SHF _
    refine fw_callVI (as := []) (dq rfl) (pg_ok.2.2.1 134 _ _ _ _ rfl) rfl (by decide +kernel) rfl rfl (c5 h1 M2 e2 q2) (fun y4 M4 e4 q4 => ?_)
    have hJ4 : ∀ e ∈ RRS.2, M4.2.2 e.1 e.2.1 = e.2.2 := fun e he => by rw [e4]; exact hJ2 e he
    show AW l (pI pg 134) P kc ks 100 [(6, .int (nI k)), (4, .long (f)), (3, .int (x)), (2, .ref 30), (1, .ref 17), (0, .ref 40)] [.int (y4), .ref 41] SHF _
    refine AW.lload (dq rfl) rfl ?_
    show AW l (pI pg 134) P kc ks 102 _ _ SHF _
    refine fw_callVI (as := [.int (y4), .long (f)]) (dq rfl) (pg_ok.2.2.1 134 _ _ _ _ rfl) rfl (by decide +kernel) rfl rfl (c7 h1 M2 e2 q2 y4 M4 e4 q4) (fun y6 M6 e6 q6 => ?_)
    have hJ6 : ∀ e ∈ RRS.2, M6.2.2 e.1 e.2.1 = e.2.2 := fun e he => by rw [e6]; exact hJ4 e he
    show AW l (pI pg 134) P kc ks 105 [(6, .int (nI k)), (4, .long (f)), (3, .int (x)), (2, .ref 30), (1, .ref 17), (0, .ref 40)] [.int (y6)] SHF _
    refine AW.zret (dq rfl) rfl (z8 h1 M2 e2 q2 y4 M4 e4 q4 y6 M6 e6 q6) ?_
    exact r9 h1 M2 e2 q2 y4 M4 e4 q4 y6 M6 e6 q6
  · have _ := h1
    refine AW.aload_n (dq rfl) rfl rfl ?_
    show AW l (pI pg 134) P kc ks 28 _ _ SHF _
    refine fw_get (dq rfl) (pg_ok.2.1 134 _ _ _ _ rfl) rfl (v := .ref 26) (isTA_ok rfl (rgR_ok hJ rfl)) ?_
    show AW l (pI pg 134) P kc ks 31 _ _ SHF _
    refine AW.iload (dq rfl) rfl ?_
    show AW l (pI pg 134) P kc ks 33 _ _ SHF _
    refine AW.iald (dq rfl) rfl (o10 h1) ?_
    show AW l (pI pg 134) P kc ks 34 _ _ SHF _
    refine AW.istore (dq rfl) (by decide +kernel) ?_
    show AW l (pI pg 134) P kc ks 36 [(7, .int (M.1 26 (nI k).toNatClampNeg)), (6, .int (nI k)), (4, .long (f)), (3, .int (x)), (2, .ref 30), (1, .ref 17), (0, .ref 40)] [] SHF _
    refine AW.iload_n (dq rfl) rfl ?_
    show AW l (pI pg 134) P kc ks 37 _ _ SHF _
    refine AW.iload (dq rfl) rfl ?_
    show AW l (pI pg 134) P kc ks 39 _ _ SHF _
    refine AW.ishr (dq rfl) ?_
    show AW l (pI pg 134) P kc ks 40 _ _ SHF _
    refine AW.iconst (dq rfl) ?_
    show AW l (pI pg 134) P kc ks 41 _ _ SHF _
    refine AW.iand (dq rfl) ?_
    show AW l (pI pg 134) P kc ks 42 _ _ SHF _
    refine AW.if_eq (dq rfl) (tgt := 73) (by decide) (fun h11 => ?_) (fun h11 => ?_)
    · have _ := h11
      refine AW.iinc (dq rfl) rfl (by decide +kernel) ?_
      show AW l (pI pg 134) P kc ks 76 [(6, .int ((nI k) + Int32.ofInt 1)), (7, .int (M.1 26 (nI k).toNatClampNeg)), (4, .long (f)), (3, .int (x)), (2, .ref 30), (1, .ref 17), (0, .ref 40)] [] SHF _
      refine AW.goto (dq rfl) (tgt := 18) (by decide) ?_
      refine AW.drop (lv' := [(6, .int ((nI k) + Int32.ofInt 1)), (4, .long (f)), (3, .int (x)), (2, .ref 30), (1, .ref 17), (0, .ref 40)]) (List.forall_mem_cons.mpr ⟨List.mem_of_getElem? (i := 0) rfl, List.forall_mem_cons.mpr ⟨List.mem_of_getElem? (i := 2) rfl, List.forall_mem_cons.mpr ⟨List.mem_of_getElem? (i := 3) rfl, List.forall_mem_cons.mpr ⟨List.mem_of_getElem? (i := 4) rfl, List.forall_mem_cons.mpr ⟨List.mem_of_getElem? (i := 5) rfl, List.forall_mem_cons.mpr ⟨List.mem_of_getElem? (i := 6) rfl, fun _ h => absurd h List.not_mem_nil⟩⟩⟩⟩⟩⟩) ?_
      exact k12 h1 h11
    · have _ := h11
      refine AW.aload_n (dq rfl) rfl rfl ?_
      show AW l (pI pg 134) P kc ks 46 _ _ SHF _
      refine AW.iload (dq rfl) rfl ?_
      show AW l (pI pg 134) P kc ks 48 _ _ SHF _
      refine fw_callVI (as := [.int (M.1 26 (nI k).toNatClampNeg)]) (dq rfl) (pg_ok.2.2.1 134 _ _ _ _ rfl) rfl (by decide +kernel) rfl rfl (hpeB_c hl0 (fun e he => (fun e he => hJ e he) e (rk_RRS e he))) (fun y13 M13 e13 q13 => ?_)
      obtain ⟨rfl, rfl⟩ := q13
      show AW l (pI pg 134) P kc ks 51 [(7, .int (M.1 26 (nI k).toNatClampNeg)), (6, .int (nI k)), (4, .long (f)), (3, .int (x)), (2, .ref 30), (1, .ref 17), (0, .ref 40)] [.int (hpV (M.1 17 0) (M.1 26 (nI k).toNatClampNeg))] SHF _
      refine AW.if_eq (dq rfl) (tgt := 73) (by decide) (fun h14 => ?_) (fun h14 => ?_)
      · have _ := h14
        refine AW.iinc (dq rfl) rfl (by decide +kernel) ?_
        show AW l (pI pg 134) P kc ks 76 [(6, .int ((nI k) + Int32.ofInt 1)), (7, .int (M.1 26 (nI k).toNatClampNeg)), (4, .long (f)), (3, .int (x)), (2, .ref 30), (1, .ref 17), (0, .ref 40)] [] SHF _
        refine AW.goto (dq rfl) (tgt := 18) (by decide) ?_
        refine AW.drop (lv' := [(6, .int ((nI k) + Int32.ofInt 1)), (4, .long (f)), (3, .int (x)), (2, .ref 30), (1, .ref 17), (0, .ref 40)]) (List.forall_mem_cons.mpr ⟨List.mem_of_getElem? (i := 0) rfl, List.forall_mem_cons.mpr ⟨List.mem_of_getElem? (i := 2) rfl, List.forall_mem_cons.mpr ⟨List.mem_of_getElem? (i := 3) rfl, List.forall_mem_cons.mpr ⟨List.mem_of_getElem? (i := 4) rfl, List.forall_mem_cons.mpr ⟨List.mem_of_getElem? (i := 5) rfl, List.forall_mem_cons.mpr ⟨List.mem_of_getElem? (i := 6) rfl, fun _ h => absurd h List.not_mem_nil⟩⟩⟩⟩⟩⟩) ?_
        exact k15 h1 h11 h14
      · have _ := h14
        refine AW.aload_n (dq rfl) rfl rfl ?_
        show AW l (pI pg 134) P kc ks 55 _ _ SHF _
        refine fw_get (dq rfl) (pg_ok.2.1 134 _ _ _ _ rfl) rfl (v := .ref 44) (isTA_ok rfl (rgR_ok hJ rfl)) ?_
        show AW l (pI pg 134) P kc ks 58 _ _ SHF _
        refine AW.iload (dq rfl) rfl ?_
        show AW l (pI pg 134) P kc ks 60 _ _ SHF _
        refine AW.dup2_11 (dq rfl) rfl rfl ?_
        show AW l (pI pg 134) P kc ks 61 _ _ SHF _
        refine AW.iald (dq rfl) rfl (o16 h1 h11 h14) ?_
        show AW l (pI pg 134) P kc ks 62 _ _ SHF _
        refine AW.iconst (dq rfl) ?_
        show AW l (pI pg 134) P kc ks 63 _ _ SHF _
        refine AW.aload_n (dq rfl) rfl rfl ?_
        show AW l (pI pg 134) P kc ks 64 _ _ SHF _
        refine fw_get (dq rfl) (pg_ok.2.1 134 _ _ _ _ rfl) rfl (v := .ref 27) (isTA_ok rfl (rgR_ok hJ rfl)) ?_
        show AW l (pI pg 134) P kc ks 67 _ _ SHF _
        refine AW.iload (dq rfl) rfl ?_
        show AW l (pI pg 134) P kc ks 69 _ _ SHF _
        refine AW.iald (dq rfl) rfl (o10 h1) ?_
        show AW l (pI pg 134) P kc ks 70 _ _ SHF _
        refine AW.ishl (dq rfl) ?_
        show AW l (pI pg 134) P kc ks 71 _ _ SHF _
        refine AW.ior (dq rfl) ?_
        show AW l (pI pg 134) P kc ks 72 _ _ SHF _
        refine AW.iast (dq rfl) rfl (o16 h1 h11 h14) ?_
        show AW l (pI pg 134) P kc ks 73 _ _ SHF _
        refine AW.iinc (dq rfl) rfl (by decide +kernel) ?_
        show AW l (pI pg 134) P kc ks 76 [(6, .int ((nI k) + Int32.ofInt 1)), (7, .int (M.1 26 (nI k).toNatClampNeg)), (4, .long (f)), (3, .int (x)), (2, .ref 30), (1, .ref 17), (0, .ref 40)] [] SHF _
        refine AW.goto (dq rfl) (tgt := 18) (by decide) ?_
        refine AW.drop (lv' := [(6, .int ((nI k) + Int32.ofInt 1)), (4, .long (f)), (3, .int (x)), (2, .ref 30), (1, .ref 17), (0, .ref 40)]) (List.forall_mem_cons.mpr ⟨List.mem_of_getElem? (i := 0) rfl, List.forall_mem_cons.mpr ⟨List.mem_of_getElem? (i := 2) rfl, List.forall_mem_cons.mpr ⟨List.mem_of_getElem? (i := 3) rfl, List.forall_mem_cons.mpr ⟨List.mem_of_getElem? (i := 4) rfl, List.forall_mem_cons.mpr ⟨List.mem_of_getElem? (i := 5) rfl, List.forall_mem_cons.mpr ⟨List.mem_of_getElem? (i := 6) rfl, fun _ h => absurd h List.not_mem_nil⟩⟩⟩⟩⟩⟩) ?_
        exact k17 h1 h11 h14

theorem psob_0 {l : aL} {P : aP} {kc ks : Nat} {x : Int32} {M : aM} (hJ : ∀ e ∈ RRS.2, M.2.2 e.1 e.2.1 = e.2.2) (hl0 : l.1.stackTraces = false) (k1 : AW l (pI pg 135) P kc ks 4 [(3, .int (Int32.ofInt 0)), (2, .int (Int32.ofInt 0)), (1, .int (x)), (0, .ref 17)] [] SHF M) : AW l (pI pg 135) P kc ks 0 [(0, .ref 17), (1, .int (x))] [] SHF M := by
  refine AW.iconst (dq rfl) ?_
  show AW l (pI pg 135) P kc ks 1 _ _ SHF _
  refine AW.istore_n (dq rfl) (by decide +kernel) ?_
  show AW l (pI pg 135) P kc ks 2 [(2, .int (Int32.ofInt 0)), (0, .ref 17), (1, .int (x))] [] SHF _
  refine AW.iconst (dq rfl) ?_
  show AW l (pI pg 135) P kc ks 3 _ _ SHF _
  refine AW.istore_n (dq rfl) (by decide +kernel) ?_
  show AW l (pI pg 135) P kc ks 4 [(3, .int (Int32.ofInt 0)), (2, .int (Int32.ofInt 0)), (0, .ref 17), (1, .int (x))] [] SHF _
  refine AW.drop (lv' := [(3, .int (Int32.ofInt 0)), (2, .int (Int32.ofInt 0)), (1, .int (x)), (0, .ref 17)]) (List.forall_mem_cons.mpr ⟨List.mem_of_getElem? (i := 0) rfl, List.forall_mem_cons.mpr ⟨List.mem_of_getElem? (i := 1) rfl, List.forall_mem_cons.mpr ⟨List.mem_of_getElem? (i := 3) rfl, List.forall_mem_cons.mpr ⟨List.mem_of_getElem? (i := 2) rfl, fun _ h => absurd h List.not_mem_nil⟩⟩⟩⟩) ?_
  exact k1

theorem psob_4 {l : aL} {P : aP} {kc ks : Nat} {k : Nat} {v x : Int32} {M : aM} (hJ : ∀ e ∈ RRS.2, M.2.2 e.1 e.2.1 = e.2.2) (hl0 : l.1.stackTraces = false) (r2 : ∀ (h1 : (M.1 17 2 : Int32) ≤ (nI k : Int32)), P (.inl (some (.int (v)))) SHF M) (k4 : ∀ (h1 : ¬ ((M.1 17 2 : Int32) ≤ (nI k : Int32))), ∀ (h3 : (((x) >>> ((nI k) &&& 31)) &&& (Int32.ofInt 1) : Int32) = 0), AW l (pI pg 135) P kc ks 4 [(3, .int ((nI k) + Int32.ofInt 1)), (2, .int (v)), (1, .int (x)), (0, .ref 17)] [] SHF M) (o5 : ∀ (h1 : ¬ ((M.1 17 2 : Int32) ≤ (nI k : Int32))), ∀ (h3 : ¬ ((((x) >>> ((nI k) &&& 31)) &&& (Int32.ofInt 1) : Int32) = 0)), vp_in (nI k) 8) (k6 : ∀ (h1 : ¬ ((M.1 17 2 : Int32) ≤ (nI k : Int32))), ∀ (h3 : ¬ ((((x) >>> ((nI k) &&& 31)) &&& (Int32.ofInt 1) : Int32) = 0)), AW l (pI pg 135) P kc ks 4 [(3, .int ((nI k) + Int32.ofInt 1)), (2, .int ((v) + (M.1 29 (nI k).toNatClampNeg))), (1, .int (x)), (0, .ref 17)] [] SHF M) : AW l (pI pg 135) P kc ks 4 [(3, .int (nI k)), (2, .int (v)), (1, .int (x)), (0, .ref 17)] [] SHF M := by
  refine AW.iload_n (dq rfl) rfl ?_
  show AW l (pI pg 135) P kc ks 5 _ _ SHF _
  refine AW.aload_n (dq rfl) rfl rfl ?_
  show AW l (pI pg 135) P kc ks 6 _ _ SHF _
  refine fw_get (dq rfl) (pg_ok.2.1 135 _ _ _ _ rfl) rfl (v := .int (M.1 17 2)) rfl ?_
  show AW l (pI pg 135) P kc ks 9 _ _ SHF _
  refine AW.icmp_ge (dq rfl) (tgt := 35) (by decide) (fun h1 => ?_) (fun h1 => ?_)
  · have _ := h1
    refine AW.iload_n (dq rfl) rfl ?_
    show AW l (pI pg 135) P kc ks 36 _ _ SHF _
    refine AW.iret (dq rfl) rfl ?_
    exact r2 h1
  · have _ := h1
    refine AW.iload_n (dq rfl) rfl ?_
    show AW l (pI pg 135) P kc ks 13 _ _ SHF _
    refine AW.iload_n (dq rfl) rfl ?_
    show AW l (pI pg 135) P kc ks 14 _ _ SHF _
    refine AW.ishr (dq rfl) ?_
    show AW l (pI pg 135) P kc ks 15 _ _ SHF _
    refine AW.iconst (dq rfl) ?_
    show AW l (pI pg 135) P kc ks 16 _ _ SHF _
    refine AW.iand (dq rfl) ?_
    show AW l (pI pg 135) P kc ks 17 _ _ SHF _
    refine AW.if_eq (dq rfl) (tgt := 29) (by decide) (fun h3 => ?_) (fun h3 => ?_)
    · have _ := h3
      refine AW.iinc (dq rfl) rfl (by decide +kernel) ?_
      show AW l (pI pg 135) P kc ks 32 [(3, .int ((nI k) + Int32.ofInt 1)), (2, .int (v)), (1, .int (x)), (0, .ref 17)] [] SHF _
      refine AW.goto (dq rfl) (tgt := 4) (by decide) ?_
      refine AW.drop (lv' := [(3, .int ((nI k) + Int32.ofInt 1)), (2, .int (v)), (1, .int (x)), (0, .ref 17)]) (List.forall_mem_cons.mpr ⟨List.mem_of_getElem? (i := 0) rfl, List.forall_mem_cons.mpr ⟨List.mem_of_getElem? (i := 1) rfl, List.forall_mem_cons.mpr ⟨List.mem_of_getElem? (i := 2) rfl, List.forall_mem_cons.mpr ⟨List.mem_of_getElem? (i := 3) rfl, fun _ h => absurd h List.not_mem_nil⟩⟩⟩⟩) ?_
      exact k4 h1 h3
    · have _ := h3
      refine AW.iload_n (dq rfl) rfl ?_
      show AW l (pI pg 135) P kc ks 21 _ _ SHF _
      refine AW.aload_n (dq rfl) rfl rfl ?_
      show AW l (pI pg 135) P kc ks 22 _ _ SHF _
      refine fw_get (dq rfl) (pg_ok.2.1 135 _ _ _ _ rfl) rfl (v := .ref 29) (isTA_ok rfl (rgR_ok hJ rfl)) ?_
      show AW l (pI pg 135) P kc ks 25 _ _ SHF _
      refine AW.iload_n (dq rfl) rfl ?_
      show AW l (pI pg 135) P kc ks 26 _ _ SHF _
      refine AW.iald (dq rfl) rfl (o5 h1 h3) ?_
      show AW l (pI pg 135) P kc ks 27 _ _ SHF _
      refine AW.iadd (dq rfl) ?_
      show AW l (pI pg 135) P kc ks 28 _ _ SHF _
      refine AW.istore_n (dq rfl) (by decide +kernel) ?_
      show AW l (pI pg 135) P kc ks 29 [(2, .int ((v) + (M.1 29 (nI k).toNatClampNeg))), (3, .int (nI k)), (1, .int (x)), (0, .ref 17)] [] SHF _
      refine AW.iinc (dq rfl) rfl (by decide +kernel) ?_
      show AW l (pI pg 135) P kc ks 32 [(3, .int ((nI k) + Int32.ofInt 1)), (2, .int ((v) + (M.1 29 (nI k).toNatClampNeg))), (1, .int (x)), (0, .ref 17)] [] SHF _
      refine AW.goto (dq rfl) (tgt := 4) (by decide) ?_
      refine AW.drop (lv' := [(3, .int ((nI k) + Int32.ofInt 1)), (2, .int ((v) + (M.1 29 (nI k).toNatClampNeg))), (1, .int (x)), (0, .ref 17)]) (List.forall_mem_cons.mpr ⟨List.mem_of_getElem? (i := 0) rfl, List.forall_mem_cons.mpr ⟨List.mem_of_getElem? (i := 1) rfl, List.forall_mem_cons.mpr ⟨List.mem_of_getElem? (i := 2) rfl, List.forall_mem_cons.mpr ⟨List.mem_of_getElem? (i := 3) rfl, fun _ h => absurd h List.not_mem_nil⟩⟩⟩⟩) ?_
      exact k6 h1 h3

theorem atcb_0 {l : aL} {P : aP} {kc ks : Nat} {M : aM}  (hl0 : l.1.stackTraces = false) (r1 : P (.inl (some (.int (((Int32.ofInt 1) <<< ((M.1 17 2) &&& 31)) - (Int32.ofInt 1))))) SHF M) : AW l (pI pg 133) P kc ks 0 [(0, .ref 17)] [] SHF M := by
  refine AW.iconst (dq rfl) ?_
  show AW l (pI pg 133) P kc ks 1 _ _ SHF _
  refine AW.aload_n (dq rfl) rfl rfl ?_
  show AW l (pI pg 133) P kc ks 2 _ _ SHF _
  refine fw_get (dq rfl) (pg_ok.2.1 133 _ _ _ _ rfl) rfl (v := .int (M.1 17 2)) rfl ?_
  show AW l (pI pg 133) P kc ks 5 _ _ SHF _
  refine AW.ishl (dq rfl) ?_
  show AW l (pI pg 133) P kc ks 6 _ _ SHF _
  refine AW.iconst (dq rfl) ?_
  show AW l (pI pg 133) P kc ks 7 _ _ SHF _
  refine AW.isub (dq rfl) ?_
  show AW l (pI pg 133) P kc ks 8 _ _ SHF _
  refine AW.iret (dq rfl) rfl ?_
  exact r1

theorem sekb_0 {l : aL} {P : aP} {kc ks : Nat} {f : Int64} {M : aM} (hJ : ∀ e ∈ RRS.2, M.2.2 e.1 e.2.1 = e.2.2) (hl0 : l.1.stackTraces = false) (Q1 : Int32 → aM → Prop) (c2 : AC l (pI pg 133) (fcI M Q1) 0 0 [.ref 17] SHF M) (Q3 : Int32 → aM → Int32 → aM → Prop) (c4 : ∀ (y1 : Int32), ∀ (M1 : aM), ∀ (e1 : M1.2.2 = M.2.2), ∀ (q1 : Q1 y1 M1), AC l (pI pg 134) (fcI M1 (Q3 y1 M1)) 0 0 [.ref 40, .ref 17, .ref 30, .int (y1), .long (f)] SHF M1) (k6 : ∀ (y1 : Int32), ∀ (M1 : aM), ∀ (e1 : M1.2.2 = M.2.2), ∀ (q1 : Q1 y1 M1), ∀ (y3 : Int32), ∀ (M3 : aM), ∀ (e3 : M3.2.2 = M1.2.2), ∀ (q3 : (Q3 y1 M1) y3 M3), ∀ (h5 : ¬ (y3 : Int32) = 0), AW l (pI pg 132) P kc ks 26 [(7, .int (Int32.ofInt 0)), (6, .int (Int32.ofInt 0)), (5, .int (y1)), (3, .long (f)), (2, .ref 30), (1, .ref 17), (0, .ref 40)] [] SHF M3) (r7 : ∀ (y1 : Int32), ∀ (M1 : aM), ∀ (e1 : M1.2.2 = M.2.2), ∀ (q1 : Q1 y1 M1), ∀ (y3 : Int32), ∀ (M3 : aM), ∀ (e3 : M3.2.2 = M1.2.2), ∀ (q3 : (Q3 y1 M1) y3 M3), ∀ (h5 : (y3 : Int32) = 0), P (.inl (some (.int (Int32.ofInt (-1))))) SHF M3) : AW l (pI pg 132) P kc ks 0 [(0, .ref 40), (1, .ref 17), (2, .ref 30), (3, .long (f))] [] SHF M := by
  refine AW.aload_n (dq rfl) rfl rfl ?_
  show AW l (pI pg 132) P kc ks 1 _ _ SHF _
  refine fw_callVI (as := []) (dq rfl) (pg_ok.2.2.1 132 _ _ _ _ rfl) rfl (by decide +kernel) rfl rfl (c2) (fun y1 M1 e1 q1 => ?_)
  have hJ1 : ∀ e ∈ RRS.2, M1.2.2 e.1 e.2.1 = e.2.2 := fun e he => by rw [e1]; exact hJ e he
  show AW l (pI pg 132) P kc ks 4 [(0, .ref 40), (1, .ref 17), (2, .ref 30), (3, .long (f))] [.int (y1)] SHF _
  refine AW.istore (dq rfl) (by decide +kernel) ?_
  show AW l (pI pg 132) P kc ks 6 [(5, .int (y1)), (0, .ref 40), (1, .ref 17), (2, .ref 30), (3, .long (f))] [] SHF _
  refine AW.aload_n (dq rfl) rfl rfl ?_
  show AW l (pI pg 132) P kc ks 7 _ _ SHF _
  refine AW.aload_n (dq rfl) rfl rfl ?_
  show AW l (pI pg 132) P kc ks 8 _ _ SHF _
  refine AW.aload_n (dq rfl) rfl rfl ?_
  show AW l (pI pg 132) P kc ks 9 _ _ SHF _
  refine AW.iload (dq rfl) rfl ?_
  show AW l (pI pg 132) P kc ks 11 _ _ SHF _
  refine AW.lload_n (dq rfl) rfl ?_
  show AW l (pI pg 132) P kc ks 12 _ _ SHF _
  refine fw_callVI (as := [.ref 17, .ref 30, .int (y1), .long (f)]) (dq rfl) (pg_ok.2.2.1 132 _ _ _ _ rfl) rfl (by decide +kernel) rfl rfl (c4 y1 M1 e1 q1) (fun y3 M3 e3 q3 => ?_)
  have hJ3 : ∀ e ∈ RRS.2, M3.2.2 e.1 e.2.1 = e.2.2 := fun e he => by rw [e3]; exact hJ1 e he
  show AW l (pI pg 132) P kc ks 15 [(5, .int (y1)), (0, .ref 40), (1, .ref 17), (2, .ref 30), (3, .long (f))] [.int (y3)] SHF _
  refine AW.if_ne (dq rfl) (tgt := 20) (by decide) (fun h5 => ?_) (fun h5 => ?_)
  · have _ := h5
    refine AW.iconst (dq rfl) ?_
    show AW l (pI pg 132) P kc ks 21 _ _ SHF _
    refine AW.istore (dq rfl) (by decide +kernel) ?_
    show AW l (pI pg 132) P kc ks 23 [(6, .int (Int32.ofInt 0)), (5, .int (y1)), (0, .ref 40), (1, .ref 17), (2, .ref 30), (3, .long (f))] [] SHF _
    refine AW.iconst (dq rfl) ?_
    show AW l (pI pg 132) P kc ks 24 _ _ SHF _
    refine AW.istore (dq rfl) (by decide +kernel) ?_
    show AW l (pI pg 132) P kc ks 26 [(7, .int (Int32.ofInt 0)), (6, .int (Int32.ofInt 0)), (5, .int (y1)), (0, .ref 40), (1, .ref 17), (2, .ref 30), (3, .long (f))] [] SHF _
    refine AW.drop (lv' := [(7, .int (Int32.ofInt 0)), (6, .int (Int32.ofInt 0)), (5, .int (y1)), (3, .long (f)), (2, .ref 30), (1, .ref 17), (0, .ref 40)]) (List.forall_mem_cons.mpr ⟨List.mem_of_getElem? (i := 0) rfl, List.forall_mem_cons.mpr ⟨List.mem_of_getElem? (i := 1) rfl, List.forall_mem_cons.mpr ⟨List.mem_of_getElem? (i := 2) rfl, List.forall_mem_cons.mpr ⟨List.mem_of_getElem? (i := 6) rfl, List.forall_mem_cons.mpr ⟨List.mem_of_getElem? (i := 5) rfl, List.forall_mem_cons.mpr ⟨List.mem_of_getElem? (i := 4) rfl, List.forall_mem_cons.mpr ⟨List.mem_of_getElem? (i := 3) rfl, fun _ h => absurd h List.not_mem_nil⟩⟩⟩⟩⟩⟩⟩) ?_
    exact k6 y1 M1 e1 q1 y3 M3 e3 q3 h5
  · have _ := h5
    refine AW.iconst (dq rfl) ?_
    show AW l (pI pg 132) P kc ks 19 _ _ SHF _
    refine AW.iret (dq rfl) rfl ?_
    exact r7 y1 M1 e1 q1 y3 M3 e3 q3 h5

theorem sekb_26 {l : aL} {P : aP} {kc ks : Nat} {k : Nat} {v e : Int32} {f : Int64} {M : aM} (hJ : ∀ e ∈ RRS.2, M.2.2 e.1 e.2.1 = e.2.2) (hl0 : l.1.stackTraces = false) (k2 : ∀ (h1 : (M.1 17 2 : Int32) ≤ (nI k : Int32)), AW l (pI pg 132) P kc ks 78 [(9, .int (Int32.ofInt 0)), (8, .int (2147483647)), (7, .int (e)), (6, .int (v)), (5, .int (e)), (3, .long (f)), (2, .ref 30), (1, .ref 17), (0, .ref 40)] [] SHF M) (Q3 : Int32 → aM → Prop) (c4 : ∀ (h1 : ¬ ((M.1 17 2 : Int32) ≤ (nI k : Int32))), AC l (pI pg 134) (fcI M Q3) 0 0 [.ref 40, .ref 17, .ref 30, .int ((e) ^^^ ((Int32.ofInt 1) <<< ((nI k) &&& 31))), .long (f)] SHF M) (k6 : ∀ (h1 : ¬ ((M.1 17 2 : Int32) ≤ (nI k : Int32))), ∀ (y3 : Int32), ∀ (M3 : aM), ∀ (e3 : M3.2.2 = M.2.2), ∀ (q3 : Q3 y3 M3), ∀ (h5 : ¬ (y3 : Int32) = 0), AW l (pI pg 132) P kc ks 26 [(7, .int ((nI k) + Int32.ofInt 1)), (6, .int (v)), (5, .int (e)), (3, .long (f)), (2, .ref 30), (1, .ref 17), (0, .ref 40)] [] SHF M3) (k7 : ∀ (h1 : ¬ ((M.1 17 2 : Int32) ≤ (nI k : Int32))), ∀ (y3 : Int32), ∀ (M3 : aM), ∀ (e3 : M3.2.2 = M.2.2), ∀ (q3 : Q3 y3 M3), ∀ (h5 : (y3 : Int32) = 0), AW l (pI pg 132) P kc ks 26 [(7, .int ((nI k) + Int32.ofInt 1)), (6, .int ((v) ||| ((Int32.ofInt 1) <<< ((nI k) &&& 31)))), (5, .int (e)), (3, .long (f)), (2, .ref 30), (1, .ref 17), (0, .ref 40)] [] SHF M3) : AW l (pI pg 132) P kc ks 26 [(7, .int (nI k)), (6, .int (v)), (5, .int (e)), (3, .long (f)), (2, .ref 30), (1, .ref 17), (0, .ref 40)] [] SHF M := by
  refine AW.iload (dq rfl) rfl ?_
  show AW l (pI pg 132) P kc ks 28 _ _ SHF _
  refine AW.aload_n (dq rfl) rfl rfl ?_
  show AW l (pI pg 132) P kc ks 29 _ _ SHF _
  refine fw_get (dq rfl) (pg_ok.2.1 132 _ _ _ _ rfl) rfl (v := .int (M.1 17 2)) rfl ?_
  show AW l (pI pg 132) P kc ks 32 _ _ SHF _
  refine AW.icmp_ge (dq rfl) (tgt := 67) (by decide) (fun h1 => ?_) (fun h1 => ?_)
  · have _ := h1
    refine AW.iload (dq rfl) rfl ?_
    show AW l (pI pg 132) P kc ks 69 _ _ SHF _
    refine AW.istore (dq rfl) (by decide +kernel) ?_
    show AW l (pI pg 132) P kc ks 71 [(7, .int (e)), (6, .int (v)), (5, .int (e)), (3, .long (f)), (2, .ref 30), (1, .ref 17), (0, .ref 40)] [] SHF _
    refine AW.ldc (dq rfl) (pg_ok.2.2.2.2.1 132 _ 2147483647 rfl) ?_
    show AW l (pI pg 132) P kc ks 73 _ _ SHF _
    refine AW.istore (dq rfl) (by decide +kernel) ?_
    show AW l (pI pg 132) P kc ks 75 [(8, .int (2147483647)), (7, .int (e)), (6, .int (v)), (5, .int (e)), (3, .long (f)), (2, .ref 30), (1, .ref 17), (0, .ref 40)] [] SHF _
    refine AW.iconst (dq rfl) ?_
    show AW l (pI pg 132) P kc ks 76 _ _ SHF _
    refine AW.istore (dq rfl) (by decide +kernel) ?_
    show AW l (pI pg 132) P kc ks 78 [(9, .int (Int32.ofInt 0)), (8, .int (2147483647)), (7, .int (e)), (6, .int (v)), (5, .int (e)), (3, .long (f)), (2, .ref 30), (1, .ref 17), (0, .ref 40)] [] SHF _
    refine AW.drop (lv' := [(9, .int (Int32.ofInt 0)), (8, .int (2147483647)), (7, .int (e)), (6, .int (v)), (5, .int (e)), (3, .long (f)), (2, .ref 30), (1, .ref 17), (0, .ref 40)]) (List.forall_mem_cons.mpr ⟨List.mem_of_getElem? (i := 0) rfl, List.forall_mem_cons.mpr ⟨List.mem_of_getElem? (i := 1) rfl, List.forall_mem_cons.mpr ⟨List.mem_of_getElem? (i := 2) rfl, List.forall_mem_cons.mpr ⟨List.mem_of_getElem? (i := 3) rfl, List.forall_mem_cons.mpr ⟨List.mem_of_getElem? (i := 4) rfl, List.forall_mem_cons.mpr ⟨List.mem_of_getElem? (i := 5) rfl, List.forall_mem_cons.mpr ⟨List.mem_of_getElem? (i := 6) rfl, List.forall_mem_cons.mpr ⟨List.mem_of_getElem? (i := 7) rfl, List.forall_mem_cons.mpr ⟨List.mem_of_getElem? (i := 8) rfl, fun _ h => absurd h List.not_mem_nil⟩⟩⟩⟩⟩⟩⟩⟩⟩) ?_
    exact k2 h1
  · have _ := h1
    refine AW.aload_n (dq rfl) rfl rfl ?_
    show AW l (pI pg 132) P kc ks 36 _ _ SHF _
    refine AW.aload_n (dq rfl) rfl rfl ?_
    show AW l (pI pg 132) P kc ks 37 _ _ SHF _
    refine AW.aload_n (dq rfl) rfl rfl ?_
    show AW l (pI pg 132) P kc ks 38 _ _ SHF _
    refine AW.iload (dq rfl) rfl ?_
    show AW l (pI pg 132) P kc ks 40 _ _ SHF _
    refine AW.iconst (dq rfl) ?_
    show AW l (pI pg 132) P kc ks 41 _ _ SHF _
    refine AW.iload (dq rfl) rfl ?_
    show AW l (pI pg 132) P kc ks 43 _ _ SHF _
    refine AW.ishl (dq rfl) ?_
    show AW l (pI pg 132) P kc ks 44 _ _ SHF _
    refine AW.ixor (dq rfl) ?_
    show AW l (pI pg 132) P kc ks 45 _ _ SHF _
    refine AW.lload_n (dq rfl) rfl ?_
    show AW l (pI pg 132) P kc ks 46 _ _ SHF _
    refine fw_callVI (as := [.ref 17, .ref 30, .int ((e) ^^^ ((Int32.ofInt 1) <<< ((nI k) &&& 31))), .long (f)]) (dq rfl) (pg_ok.2.2.1 132 _ _ _ _ rfl) rfl (by decide +kernel) rfl rfl (c4 h1) (fun y3 M3 e3 q3 => ?_)
    have hJ3 : ∀ e ∈ RRS.2, M3.2.2 e.1 e.2.1 = e.2.2 := fun e he => by rw [e3]; exact hJ e he
    show AW l (pI pg 132) P kc ks 49 [(7, .int (nI k)), (6, .int (v)), (5, .int (e)), (3, .long (f)), (2, .ref 30), (1, .ref 17), (0, .ref 40)] [.int (y3)] SHF _
    refine AW.if_ne (dq rfl) (tgt := 61) (by decide) (fun h5 => ?_) (fun h5 => ?_)
    · have _ := h5
      refine AW.iinc (dq rfl) rfl (by decide +kernel) ?_
      show AW l (pI pg 132) P kc ks 64 [(7, .int ((nI k) + Int32.ofInt 1)), (6, .int (v)), (5, .int (e)), (3, .long (f)), (2, .ref 30), (1, .ref 17), (0, .ref 40)] [] SHF _
      refine AW.goto (dq rfl) (tgt := 26) (by decide) ?_
      refine AW.drop (lv' := [(7, .int ((nI k) + Int32.ofInt 1)), (6, .int (v)), (5, .int (e)), (3, .long (f)), (2, .ref 30), (1, .ref 17), (0, .ref 40)]) (List.forall_mem_cons.mpr ⟨List.mem_of_getElem? (i := 0) rfl, List.forall_mem_cons.mpr ⟨List.mem_of_getElem? (i := 1) rfl, List.forall_mem_cons.mpr ⟨List.mem_of_getElem? (i := 2) rfl, List.forall_mem_cons.mpr ⟨List.mem_of_getElem? (i := 3) rfl, List.forall_mem_cons.mpr ⟨List.mem_of_getElem? (i := 4) rfl, List.forall_mem_cons.mpr ⟨List.mem_of_getElem? (i := 5) rfl, List.forall_mem_cons.mpr ⟨List.mem_of_getElem? (i := 6) rfl, fun _ h => absurd h List.not_mem_nil⟩⟩⟩⟩⟩⟩⟩) ?_
      exact k6 h1 y3 M3 e3 q3 h5
    · have _ := h5
      refine AW.iload (dq rfl) rfl ?_
      show AW l (pI pg 132) P kc ks 54 _ _ SHF _
      refine AW.iconst (dq rfl) ?_
      show AW l (pI pg 132) P kc ks 55 _ _ SHF _
      refine AW.iload (dq rfl) rfl ?_
      show AW l (pI pg 132) P kc ks 57 _ _ SHF _
      refine AW.ishl (dq rfl) ?_
      show AW l (pI pg 132) P kc ks 58 _ _ SHF _
      refine AW.ior (dq rfl) ?_
      show AW l (pI pg 132) P kc ks 59 _ _ SHF _
      refine AW.istore (dq rfl) (by decide +kernel) ?_
      show AW l (pI pg 132) P kc ks 61 [(6, .int ((v) ||| ((Int32.ofInt 1) <<< ((nI k) &&& 31)))), (7, .int (nI k)), (5, .int (e)), (3, .long (f)), (2, .ref 30), (1, .ref 17), (0, .ref 40)] [] SHF _
      refine AW.iinc (dq rfl) rfl (by decide +kernel) ?_
      show AW l (pI pg 132) P kc ks 64 [(7, .int ((nI k) + Int32.ofInt 1)), (6, .int ((v) ||| ((Int32.ofInt 1) <<< ((nI k) &&& 31)))), (5, .int (e)), (3, .long (f)), (2, .ref 30), (1, .ref 17), (0, .ref 40)] [] SHF _
      refine AW.goto (dq rfl) (tgt := 26) (by decide) ?_
      refine AW.drop (lv' := [(7, .int ((nI k) + Int32.ofInt 1)), (6, .int ((v) ||| ((Int32.ofInt 1) <<< ((nI k) &&& 31)))), (5, .int (e)), (3, .long (f)), (2, .ref 30), (1, .ref 17), (0, .ref 40)]) (List.forall_mem_cons.mpr ⟨List.mem_of_getElem? (i := 0) rfl, List.forall_mem_cons.mpr ⟨List.mem_of_getElem? (i := 1) rfl, List.forall_mem_cons.mpr ⟨List.mem_of_getElem? (i := 2) rfl, List.forall_mem_cons.mpr ⟨List.mem_of_getElem? (i := 3) rfl, List.forall_mem_cons.mpr ⟨List.mem_of_getElem? (i := 4) rfl, List.forall_mem_cons.mpr ⟨List.mem_of_getElem? (i := 5) rfl, List.forall_mem_cons.mpr ⟨List.mem_of_getElem? (i := 6) rfl, fun _ h => absurd h List.not_mem_nil⟩⟩⟩⟩⟩⟩⟩) ?_
      exact k7 h1 y3 M3 e3 q3 h5

theorem sekb_78 {l : aL} {P : aP} {kc ks : Nat} {s : Nat} {p g v e : Int32} {f : Int64} {M : aM} (hJ : ∀ e ∈ RRS.2, M.2.2 e.1 e.2.1 = e.2.2) (hl0 : l.1.stackTraces = false) (r2 : ∀ (h1 : (e : Int32) < (nI s : Int32)), P (.inl (some (.int (g)))) SHF M) (Q3 : Int32 → aM → Prop) (c4 : ∀ (h1 : ¬ ((e : Int32) < (nI s : Int32))), AC l (pI pg 135) (fcI M Q3) 0 0 [.ref 17, .int (nI s)] SHF M) (k6 : ∀ (h1 : ¬ ((e : Int32) < (nI s : Int32))), ∀ (y3 : Int32), ∀ (M3 : aM), ∀ (e3 : M3.2.2 = M.2.2), ∀ (q3 : Q3 y3 M3), ∀ (h5 : ¬ ((v) &&& ((nI s) ^^^ (Int32.ofInt (-1))) : Int32) = 0), AW l (pI pg 132) P kc ks 78 [(9, .int ((nI s) + Int32.ofInt 1)), (8, .int (p)), (7, .int (g)), (6, .int (v)), (5, .int (e)), (3, .long (f)), (2, .ref 30), (1, .ref 17), (0, .ref 40)] [] SHF M3) (k8 : ∀ (h1 : ¬ ((e : Int32) < (nI s : Int32))), ∀ (y3 : Int32), ∀ (M3 : aM), ∀ (e3 : M3.2.2 = M.2.2), ∀ (q3 : Q3 y3 M3), ∀ (h5 : ((v) &&& ((nI s) ^^^ (Int32.ofInt (-1))) : Int32) = 0), ∀ (h7 : (p : Int32) ≤ (y3 : Int32)), AW l (pI pg 132) P kc ks 78 [(9, .int ((nI s) + Int32.ofInt 1)), (8, .int (p)), (7, .int (g)), (6, .int (v)), (5, .int (e)), (3, .long (f)), (2, .ref 30), (1, .ref 17), (0, .ref 40)] [] SHF M3) (Q9 : Int32 → aM → Int32 → aM → Prop) (c10 : ∀ (h1 : ¬ ((e : Int32) < (nI s : Int32))), ∀ (y3 : Int32), ∀ (M3 : aM), ∀ (e3 : M3.2.2 = M.2.2), ∀ (q3 : Q3 y3 M3), ∀ (h5 : ((v) &&& ((nI s) ^^^ (Int32.ofInt (-1))) : Int32) = 0), ∀ (h7 : ¬ ((p : Int32) ≤ (y3 : Int32))), AC l (pI pg 134) (fcI M3 (Q9 y3 M3)) 0 0 [.ref 40, .ref 17, .ref 30, .int (nI s), .long (f)] SHF M3) (k12 : ∀ (h1 : ¬ ((e : Int32) < (nI s : Int32))), ∀ (y3 : Int32), ∀ (M3 : aM), ∀ (e3 : M3.2.2 = M.2.2), ∀ (q3 : Q3 y3 M3), ∀ (h5 : ((v) &&& ((nI s) ^^^ (Int32.ofInt (-1))) : Int32) = 0), ∀ (h7 : ¬ ((p : Int32) ≤ (y3 : Int32))), ∀ (y9 : Int32), ∀ (M9 : aM), ∀ (e9 : M9.2.2 = M3.2.2), ∀ (q9 : (Q9 y3 M3) y9 M9), ∀ (h11 : (y9 : Int32) = 0), AW l (pI pg 132) P kc ks 78 [(9, .int ((nI s) + Int32.ofInt 1)), (8, .int (p)), (7, .int (g)), (6, .int (v)), (5, .int (e)), (3, .long (f)), (2, .ref 30), (1, .ref 17), (0, .ref 40)] [] SHF M9) (k13 : ∀ (h1 : ¬ ((e : Int32) < (nI s : Int32))), ∀ (y3 : Int32), ∀ (M3 : aM), ∀ (e3 : M3.2.2 = M.2.2), ∀ (q3 : Q3 y3 M3), ∀ (h5 : ((v) &&& ((nI s) ^^^ (Int32.ofInt (-1))) : Int32) = 0), ∀ (h7 : ¬ ((p : Int32) ≤ (y3 : Int32))), ∀ (y9 : Int32), ∀ (M9 : aM), ∀ (e9 : M9.2.2 = M3.2.2), ∀ (q9 : (Q9 y3 M3) y9 M9), ∀ (h11 : ¬ ((y9 : Int32) = 0)), AW l (pI pg 132) P kc ks 78 [(9, .int ((nI s) + Int32.ofInt 1)), (8, .int (y3)), (7, .int (nI s)), (6, .int (v)), (5, .int (e)), (3, .long (f)), (2, .ref 30), (1, .ref 17), (0, .ref 40)] [] SHF M9) : AW l (pI pg 132) P kc ks 78 [(9, .int (nI s)), (8, .int (p)), (7, .int (g)), (6, .int (v)), (5, .int (e)), (3, .long (f)), (2, .ref 30), (1, .ref 17), (0, .ref 40)] [] SHF M := by
  refine AW.iload (dq rfl) rfl ?_
  show AW l (pI pg 132) P kc ks 80 _ _ SHF _
  refine AW.iload (dq rfl) rfl ?_
  show AW l (pI pg 132) P kc ks 82 _ _ SHF _
  refine AW.icmp_gt (dq rfl) (tgt := 136) (by decide) (fun h1 => ?_) (fun h1 => ?_)
  · have _ := h1
    refine AW.iload (dq rfl) rfl ?_
    show AW l (pI pg 132) P kc ks 138 _ _ SHF _
    refine AW.iret (dq rfl) rfl ?_
    exact r2 h1
  · have _ := h1
    refine AW.aload_n (dq rfl) rfl rfl ?_
    show AW l (pI pg 132) P kc ks 86 _ _ SHF _
    refine AW.iload (dq rfl) rfl ?_
    show AW l (pI pg 132) P kc ks 88 _ _ SHF _
    refine fw_callVI (as := [.int (nI s)]) (dq rfl) (pg_ok.2.2.1 132 _ _ _ _ rfl) rfl (by decide +kernel) rfl rfl (c4 h1) (fun y3 M3 e3 q3 => ?_)
    have hJ3 : ∀ e ∈ RRS.2, M3.2.2 e.1 e.2.1 = e.2.2 := fun e he => by rw [e3]; exact hJ e he
    show AW l (pI pg 132) P kc ks 91 [(9, .int (nI s)), (8, .int (p)), (7, .int (g)), (6, .int (v)), (5, .int (e)), (3, .long (f)), (2, .ref 30), (1, .ref 17), (0, .ref 40)] [.int (y3)] SHF _
    refine AW.istore (dq rfl) (by decide +kernel) ?_
    show AW l (pI pg 132) P kc ks 93 [(10, .int (y3)), (9, .int (nI s)), (8, .int (p)), (7, .int (g)), (6, .int (v)), (5, .int (e)), (3, .long (f)), (2, .ref 30), (1, .ref 17), (0, .ref 40)] [] SHF _
    refine AW.iload (dq rfl) rfl ?_
    show AW l (pI pg 132) P kc ks 95 _ _ SHF _
    refine AW.iload (dq rfl) rfl ?_
    show AW l (pI pg 132) P kc ks 97 _ _ SHF _
    refine AW.iconst (dq rfl) ?_
    show AW l (pI pg 132) P kc ks 98 _ _ SHF _
    refine AW.ixor (dq rfl) ?_
    show AW l (pI pg 132) P kc ks 99 _ _ SHF _
    refine AW.iand (dq rfl) ?_
    show AW l (pI pg 132) P kc ks 100 _ _ SHF _
    refine AW.if_ne (dq rfl) (tgt := 130) (by decide) (fun h5 => ?_) (fun h5 => ?_)
    · have _ := h5
      refine AW.iinc (dq rfl) rfl (by decide +kernel) ?_
      show AW l (pI pg 132) P kc ks 133 [(9, .int ((nI s) + Int32.ofInt 1)), (10, .int (y3)), (8, .int (p)), (7, .int (g)), (6, .int (v)), (5, .int (e)), (3, .long (f)), (2, .ref 30), (1, .ref 17), (0, .ref 40)] [] SHF _
      refine AW.goto (dq rfl) (tgt := 78) (by decide) ?_
      refine AW.drop (lv' := [(9, .int ((nI s) + Int32.ofInt 1)), (8, .int (p)), (7, .int (g)), (6, .int (v)), (5, .int (e)), (3, .long (f)), (2, .ref 30), (1, .ref 17), (0, .ref 40)]) (List.forall_mem_cons.mpr ⟨List.mem_of_getElem? (i := 0) rfl, List.forall_mem_cons.mpr ⟨List.mem_of_getElem? (i := 2) rfl, List.forall_mem_cons.mpr ⟨List.mem_of_getElem? (i := 3) rfl, List.forall_mem_cons.mpr ⟨List.mem_of_getElem? (i := 4) rfl, List.forall_mem_cons.mpr ⟨List.mem_of_getElem? (i := 5) rfl, List.forall_mem_cons.mpr ⟨List.mem_of_getElem? (i := 6) rfl, List.forall_mem_cons.mpr ⟨List.mem_of_getElem? (i := 7) rfl, List.forall_mem_cons.mpr ⟨List.mem_of_getElem? (i := 8) rfl, List.forall_mem_cons.mpr ⟨List.mem_of_getElem? (i := 9) rfl, fun _ h => absurd h List.not_mem_nil⟩⟩⟩⟩⟩⟩⟩⟩⟩) ?_
      exact k6 h1 y3 M3 e3 q3 h5
    · have _ := h5
      refine AW.iload (dq rfl) rfl ?_
      show AW l (pI pg 132) P kc ks 105 _ _ SHF _
      refine AW.iload (dq rfl) rfl ?_
      show AW l (pI pg 132) P kc ks 107 _ _ SHF _
      refine AW.icmp_ge (dq rfl) (tgt := 130) (by decide) (fun h7 => ?_) (fun h7 => ?_)
      · have _ := h7
        refine AW.iinc (dq rfl) rfl (by decide +kernel) ?_
        show AW l (pI pg 132) P kc ks 133 [(9, .int ((nI s) + Int32.ofInt 1)), (10, .int (y3)), (8, .int (p)), (7, .int (g)), (6, .int (v)), (5, .int (e)), (3, .long (f)), (2, .ref 30), (1, .ref 17), (0, .ref 40)] [] SHF _
        refine AW.goto (dq rfl) (tgt := 78) (by decide) ?_
        refine AW.drop (lv' := [(9, .int ((nI s) + Int32.ofInt 1)), (8, .int (p)), (7, .int (g)), (6, .int (v)), (5, .int (e)), (3, .long (f)), (2, .ref 30), (1, .ref 17), (0, .ref 40)]) (List.forall_mem_cons.mpr ⟨List.mem_of_getElem? (i := 0) rfl, List.forall_mem_cons.mpr ⟨List.mem_of_getElem? (i := 2) rfl, List.forall_mem_cons.mpr ⟨List.mem_of_getElem? (i := 3) rfl, List.forall_mem_cons.mpr ⟨List.mem_of_getElem? (i := 4) rfl, List.forall_mem_cons.mpr ⟨List.mem_of_getElem? (i := 5) rfl, List.forall_mem_cons.mpr ⟨List.mem_of_getElem? (i := 6) rfl, List.forall_mem_cons.mpr ⟨List.mem_of_getElem? (i := 7) rfl, List.forall_mem_cons.mpr ⟨List.mem_of_getElem? (i := 8) rfl, List.forall_mem_cons.mpr ⟨List.mem_of_getElem? (i := 9) rfl, fun _ h => absurd h List.not_mem_nil⟩⟩⟩⟩⟩⟩⟩⟩⟩) ?_
        exact k8 h1 y3 M3 e3 q3 h5 h7
      · have _ := h7
        refine AW.aload_n (dq rfl) rfl rfl ?_
        show AW l (pI pg 132) P kc ks 111 _ _ SHF _
        refine AW.aload_n (dq rfl) rfl rfl ?_
        show AW l (pI pg 132) P kc ks 112 _ _ SHF _
        refine AW.aload_n (dq rfl) rfl rfl ?_
        show AW l (pI pg 132) P kc ks 113 _ _ SHF _
        refine AW.iload (dq rfl) rfl ?_
        show AW l (pI pg 132) P kc ks 115 _ _ SHF _
        refine AW.lload_n (dq rfl) rfl ?_
        show AW l (pI pg 132) P kc ks 116 _ _ SHF _
        refine fw_callVI (as := [.ref 17, .ref 30, .int (nI s), .long (f)]) (dq rfl) (pg_ok.2.2.1 132 _ _ _ _ rfl) rfl (by decide +kernel) rfl rfl (c10 h1 y3 M3 e3 q3 h5 h7) (fun y9 M9 e9 q9 => ?_)
        have hJ9 : ∀ e ∈ RRS.2, M9.2.2 e.1 e.2.1 = e.2.2 := fun e he => by rw [e9]; exact hJ3 e he
        show AW l (pI pg 132) P kc ks 119 [(10, .int (y3)), (9, .int (nI s)), (8, .int (p)), (7, .int (g)), (6, .int (v)), (5, .int (e)), (3, .long (f)), (2, .ref 30), (1, .ref 17), (0, .ref 40)] [.int (y9)] SHF _
        refine AW.if_eq (dq rfl) (tgt := 130) (by decide) (fun h11 => ?_) (fun h11 => ?_)
        · have _ := h11
          refine AW.iinc (dq rfl) rfl (by decide +kernel) ?_
          show AW l (pI pg 132) P kc ks 133 [(9, .int ((nI s) + Int32.ofInt 1)), (10, .int (y3)), (8, .int (p)), (7, .int (g)), (6, .int (v)), (5, .int (e)), (3, .long (f)), (2, .ref 30), (1, .ref 17), (0, .ref 40)] [] SHF _
          refine AW.goto (dq rfl) (tgt := 78) (by decide) ?_
          refine AW.drop (lv' := [(9, .int ((nI s) + Int32.ofInt 1)), (8, .int (p)), (7, .int (g)), (6, .int (v)), (5, .int (e)), (3, .long (f)), (2, .ref 30), (1, .ref 17), (0, .ref 40)]) (List.forall_mem_cons.mpr ⟨List.mem_of_getElem? (i := 0) rfl, List.forall_mem_cons.mpr ⟨List.mem_of_getElem? (i := 2) rfl, List.forall_mem_cons.mpr ⟨List.mem_of_getElem? (i := 3) rfl, List.forall_mem_cons.mpr ⟨List.mem_of_getElem? (i := 4) rfl, List.forall_mem_cons.mpr ⟨List.mem_of_getElem? (i := 5) rfl, List.forall_mem_cons.mpr ⟨List.mem_of_getElem? (i := 6) rfl, List.forall_mem_cons.mpr ⟨List.mem_of_getElem? (i := 7) rfl, List.forall_mem_cons.mpr ⟨List.mem_of_getElem? (i := 8) rfl, List.forall_mem_cons.mpr ⟨List.mem_of_getElem? (i := 9) rfl, fun _ h => absurd h List.not_mem_nil⟩⟩⟩⟩⟩⟩⟩⟩⟩) ?_
          exact k12 h1 y3 M3 e3 q3 h5 h7 y9 M9 e9 q9 h11
        · have _ := h11
          refine AW.iload (dq rfl) rfl ?_
          show AW l (pI pg 132) P kc ks 124 _ _ SHF _
          refine AW.istore (dq rfl) (by decide +kernel) ?_
          show AW l (pI pg 132) P kc ks 126 [(7, .int (nI s)), (10, .int (y3)), (9, .int (nI s)), (8, .int (p)), (6, .int (v)), (5, .int (e)), (3, .long (f)), (2, .ref 30), (1, .ref 17), (0, .ref 40)] [] SHF _
          refine AW.iload (dq rfl) rfl ?_
          show AW l (pI pg 132) P kc ks 128 _ _ SHF _
          refine AW.istore (dq rfl) (by decide +kernel) ?_
          show AW l (pI pg 132) P kc ks 130 [(8, .int (y3)), (7, .int (nI s)), (10, .int (y3)), (9, .int (nI s)), (6, .int (v)), (5, .int (e)), (3, .long (f)), (2, .ref 30), (1, .ref 17), (0, .ref 40)] [] SHF _
          refine AW.iinc (dq rfl) rfl (by decide +kernel) ?_
          show AW l (pI pg 132) P kc ks 133 [(9, .int ((nI s) + Int32.ofInt 1)), (8, .int (y3)), (7, .int (nI s)), (10, .int (y3)), (6, .int (v)), (5, .int (e)), (3, .long (f)), (2, .ref 30), (1, .ref 17), (0, .ref 40)] [] SHF _
          refine AW.goto (dq rfl) (tgt := 78) (by decide) ?_
          refine AW.drop (lv' := [(9, .int ((nI s) + Int32.ofInt 1)), (8, .int (y3)), (7, .int (nI s)), (6, .int (v)), (5, .int (e)), (3, .long (f)), (2, .ref 30), (1, .ref 17), (0, .ref 40)]) (List.forall_mem_cons.mpr ⟨List.mem_of_getElem? (i := 0) rfl, List.forall_mem_cons.mpr ⟨List.mem_of_getElem? (i := 1) rfl, List.forall_mem_cons.mpr ⟨List.mem_of_getElem? (i := 2) rfl, List.forall_mem_cons.mpr ⟨List.mem_of_getElem? (i := 4) rfl, List.forall_mem_cons.mpr ⟨List.mem_of_getElem? (i := 5) rfl, List.forall_mem_cons.mpr ⟨List.mem_of_getElem? (i := 6) rfl, List.forall_mem_cons.mpr ⟨List.mem_of_getElem? (i := 7) rfl, List.forall_mem_cons.mpr ⟨List.mem_of_getElem? (i := 8) rfl, List.forall_mem_cons.mpr ⟨List.mem_of_getElem? (i := 9) rfl, fun _ h => absurd h List.not_mem_nil⟩⟩⟩⟩⟩⟩⟩⟩⟩) ?_
          exact k13 h1 y3 M3 e3 q3 h5 h7 y9 M9 e9 q9 h11

theorem chsb_0 {l : aL} {P : aP} {kc ks : Nat} {b : Int32} {M : aM} (hJ : ∀ e ∈ RRS.2, M.2.2 e.1 e.2.1 = e.2.2) (hl0 : l.1.stackTraces = false) (r3 : ∀ (h1 : (b : Int32) = 0), ∀ (h2 : ¬ (M.1 40 2 : Int32) = ((Int8.ofInt (-2)).toInt32 : Int32)), P (.inl (some (.int (M.1 40 2)))) SHF M) (Q4 : Int64 → aM → Prop) (c5 : ∀ (h1 : (b : Int32) = 0), ∀ (h2 : (M.1 40 2 : Int32) = ((Int8.ofInt (-2)).toInt32 : Int32)), AC l (pI pg 31) (fcJ M Q4) 0 0 [.ref 17] SHF M) (Q6 : Int64 → aM → Int32 → aM → Prop) (c7 : ∀ (h1 : (b : Int32) = 0), ∀ (h2 : (M.1 40 2 : Int32) = ((Int8.ofInt (-2)).toInt32 : Int32)), ∀ (y4 : Int64), ∀ (M4 : aM), ∀ (e4 : M4.2.2 = M.2.2), ∀ (q4 : Q4 y4 M4), AC l (pI pg 132) (fcI M4 (Q6 y4 M4)) 0 0 [.ref 40, .ref 17, .ref 30, .long (y4)] SHF M4) (r8 : ∀ (h1 : (b : Int32) = 0), ∀ (h2 : (M.1 40 2 : Int32) = ((Int8.ofInt (-2)).toInt32 : Int32)), ∀ (y4 : Int64), ∀ (M4 : aM), ∀ (e4 : M4.2.2 = M.2.2), ∀ (q4 : Q4 y4 M4), ∀ (y6 : Int32), ∀ (M6 : aM), ∀ (e6 : M6.2.2 = M4.2.2), ∀ (q6 : (Q6 y4 M4) y6 M6), P (.inl (some (.int ((aset M6 40 2 (.int (y6))).1 40 2)))) SHF (aset M6 40 2 (.int (y6)))) (r10 : ∀ (h1 : ¬ ((b : Int32) = 0)), ∀ (h9 : ¬ (M.1 40 3 : Int32) = ((Int8.ofInt (-2)).toInt32 : Int32)), P (.inl (some (.int (M.1 40 3)))) SHF M) (Q11 : Int64 → aM → Prop) (c12 : ∀ (h1 : ¬ ((b : Int32) = 0)), ∀ (h9 : (M.1 40 3 : Int32) = ((Int8.ofInt (-2)).toInt32 : Int32)), AC l (pI pg 127) (fcJ M Q11) 0 0 [.ref 17] SHF M) (Q13 : Int64 → aM → Int32 → aM → Prop) (c14 : ∀ (h1 : ¬ ((b : Int32) = 0)), ∀ (h9 : (M.1 40 3 : Int32) = ((Int8.ofInt (-2)).toInt32 : Int32)), ∀ (y11 : Int64), ∀ (M11 : aM), ∀ (e11 : M11.2.2 = M.2.2), ∀ (q11 : Q11 y11 M11), AC l (pI pg 132) (fcI M11 (Q13 y11 M11)) 0 0 [.ref 40, .ref 17, .ref 30, .long (y11)] SHF M11) (r15 : ∀ (h1 : ¬ ((b : Int32) = 0)), ∀ (h9 : (M.1 40 3 : Int32) = ((Int8.ofInt (-2)).toInt32 : Int32)), ∀ (y11 : Int64), ∀ (M11 : aM), ∀ (e11 : M11.2.2 = M.2.2), ∀ (q11 : Q11 y11 M11), ∀ (y13 : Int32), ∀ (M13 : aM), ∀ (e13 : M13.2.2 = M11.2.2), ∀ (q13 : (Q13 y11 M11) y13 M13), P (.inl (some (.int ((aset M13 40 3 (.int (y13))).1 40 3)))) SHF (aset M13 40 3 (.int (y13)))) : AW l (pI pg 131) P kc ks 0 [(0, .ref 40), (1, .ref 17), (2, .ref 30), (3, .int (b))] [] SHF M := by
  refine AW.iload_n (dq rfl) rfl ?_
  show AW l (pI pg 131) P kc ks 1 _ _ SHF _
  refine AW.if_eq (dq rfl) (tgt := 32) (by decide) (fun h1 => ?_) (fun h1 => ?_)
  · have _ := h1
    refine AW.aload_n (dq rfl) rfl rfl ?_
    show AW l (pI pg 131) P kc ks 33 _ _ SHF _
    refine fw_get (dq rfl) (pg_ok.2.1 131 _ _ _ _ rfl) rfl (v := .int (M.1 40 2)) rfl ?_
    show AW l (pI pg 131) P kc ks 36 _ _ SHF _
    refine AW.bipush (dq rfl) ?_
    show AW l (pI pg 131) P kc ks 38 _ _ SHF _
    refine AW.icmp_ne (dq rfl) (tgt := 55) (by decide) (fun h2 => ?_) (fun h2 => ?_)
    · have _ := h2
      refine AW.aload_n (dq rfl) rfl rfl ?_
      show AW l (pI pg 131) P kc ks 56 _ _ SHF _
      refine fw_get (dq rfl) (pg_ok.2.1 131 _ _ _ _ rfl) rfl (v := .int (M.1 40 2)) rfl ?_
      show AW l (pI pg 131) P kc ks 59 _ _ SHF _
      refine AW.iret (dq rfl) rfl ?_
      exact r3 h1 h2
    · have _ := h2
      refine AW.aload_n (dq rfl) rfl rfl ?_
      show AW l (pI pg 131) P kc ks 42 _ _ SHF _
      refine AW.aload_n (dq rfl) rfl rfl ?_
      show AW l (pI pg 131) P kc ks 43 _ _ SHF _
      refine AW.aload_n (dq rfl) rfl rfl ?_
      show AW l (pI pg 131) P kc ks 44 _ _ SHF _
      refine AW.aload_n (dq rfl) rfl rfl ?_
      show AW l (pI pg 131) P kc ks 45 _ _ SHF _
      refine AW.aload_n (dq rfl) rfl rfl ?_
      show AW l (pI pg 131) P kc ks 46 _ _ SHF _
      refine fw_callVJ (as := []) (dq rfl) (pg_ok.2.2.1 131 _ _ _ _ rfl) rfl (by decide +kernel) rfl rfl (c5 h1 h2) (fun y4 M4 e4 q4 => ?_)
      have hJ4 : ∀ e ∈ RRS.2, M4.2.2 e.1 e.2.1 = e.2.2 := fun e he => by rw [e4]; exact hJ e he
      show AW l (pI pg 131) P kc ks 49 [(0, .ref 40), (1, .ref 17), (2, .ref 30), (3, .int (b))] [.long (y4), .ref 30, .ref 17, .ref 40, .ref 40] SHF _
      refine fw_callVI (as := [.ref 17, .ref 30, .long (y4)]) (dq rfl) (pg_ok.2.2.1 131 _ _ _ _ rfl) rfl (by decide +kernel) rfl rfl (c7 h1 h2 y4 M4 e4 q4) (fun y6 M6 e6 q6 => ?_)
      have hJ6 : ∀ e ∈ RRS.2, M6.2.2 e.1 e.2.1 = e.2.2 := fun e he => by rw [e6]; exact hJ4 e he
      show AW l (pI pg 131) P kc ks 52 [(0, .ref 40), (1, .ref 17), (2, .ref 30), (3, .int (b))] [.int (y6), .ref 40] SHF _
      refine fw_putI (dq rfl) (pg_ok.2.1 131 _ _ _ _ rfl) rfl rfl rfl ?_
      show AW l (pI pg 131) P kc ks 55 _ _ SHF _
      refine AW.aload_n (dq rfl) rfl rfl ?_
      show AW l (pI pg 131) P kc ks 56 _ _ SHF _
      refine fw_get (dq rfl) (pg_ok.2.1 131 _ _ _ _ rfl) rfl (v := .int ((aset M6 40 2 (.int (y6))).1 40 2)) rfl ?_
      show AW l (pI pg 131) P kc ks 59 _ _ SHF _
      refine AW.iret (dq rfl) rfl ?_
      exact r8 h1 h2 y4 M4 e4 q4 y6 M6 e6 q6
  · have _ := h1
    refine AW.aload_n (dq rfl) rfl rfl ?_
    show AW l (pI pg 131) P kc ks 5 _ _ SHF _
    refine fw_get (dq rfl) (pg_ok.2.1 131 _ _ _ _ rfl) rfl (v := .int (M.1 40 3)) rfl ?_
    show AW l (pI pg 131) P kc ks 8 _ _ SHF _
    refine AW.bipush (dq rfl) ?_
    show AW l (pI pg 131) P kc ks 10 _ _ SHF _
    refine AW.icmp_ne (dq rfl) (tgt := 27) (by decide) (fun h9 => ?_) (fun h9 => ?_)
    · have _ := h9
      refine AW.aload_n (dq rfl) rfl rfl ?_
      show AW l (pI pg 131) P kc ks 28 _ _ SHF _
      refine fw_get (dq rfl) (pg_ok.2.1 131 _ _ _ _ rfl) rfl (v := .int (M.1 40 3)) rfl ?_
      show AW l (pI pg 131) P kc ks 31 _ _ SHF _
      refine AW.iret (dq rfl) rfl ?_
      exact r10 h1 h9
    · have _ := h9
      refine AW.aload_n (dq rfl) rfl rfl ?_
      show AW l (pI pg 131) P kc ks 14 _ _ SHF _
      refine AW.aload_n (dq rfl) rfl rfl ?_
      show AW l (pI pg 131) P kc ks 15 _ _ SHF _
      refine AW.aload_n (dq rfl) rfl rfl ?_
      show AW l (pI pg 131) P kc ks 16 _ _ SHF _
      refine AW.aload_n (dq rfl) rfl rfl ?_
      show AW l (pI pg 131) P kc ks 17 _ _ SHF _
      refine AW.aload_n (dq rfl) rfl rfl ?_
      show AW l (pI pg 131) P kc ks 18 _ _ SHF _
      refine fw_callVJ (as := []) (dq rfl) (pg_ok.2.2.1 131 _ _ _ _ rfl) rfl (by decide +kernel) rfl rfl (c12 h1 h9) (fun y11 M11 e11 q11 => ?_)
      have hJ11 : ∀ e ∈ RRS.2, M11.2.2 e.1 e.2.1 = e.2.2 := fun e he => by rw [e11]; exact hJ e he
      show AW l (pI pg 131) P kc ks 21 [(0, .ref 40), (1, .ref 17), (2, .ref 30), (3, .int (b))] [.long (y11), .ref 30, .ref 17, .ref 40, .ref 40] SHF _
      refine fw_callVI (as := [.ref 17, .ref 30, .long (y11)]) (dq rfl) (pg_ok.2.2.1 131 _ _ _ _ rfl) rfl (by decide +kernel) rfl rfl (c14 h1 h9 y11 M11 e11 q11) (fun y13 M13 e13 q13 => ?_)
      have hJ13 : ∀ e ∈ RRS.2, M13.2.2 e.1 e.2.1 = e.2.2 := fun e he => by rw [e13]; exact hJ11 e he
      show AW l (pI pg 131) P kc ks 24 [(0, .ref 40), (1, .ref 17), (2, .ref 30), (3, .int (b))] [.int (y13), .ref 40] SHF _
      refine fw_putI (dq rfl) (pg_ok.2.1 131 _ _ _ _ rfl) rfl rfl rfl ?_
      show AW l (pI pg 131) P kc ks 27 _ _ SHF _
      refine AW.aload_n (dq rfl) rfl rfl ?_
      show AW l (pI pg 131) P kc ks 28 _ _ SHF _
      refine fw_get (dq rfl) (pg_ok.2.1 131 _ _ _ _ rfl) rfl (v := .int ((aset M13 40 3 (.int (y13))).1 40 3)) rfl ?_
      show AW l (pI pg 131) P kc ks 31 _ _ SHF _
      refine AW.iret (dq rfl) rfl ?_
      exact r15 h1 h9 y11 M11 e11 q11 y13 M13 e13 q13

theorem lspb_0 {l : aL} {P : aP} {kc ks : Nat} {b : Int32} {M : aM} (hJ : ∀ e ∈ RRS.2, M.2.2 e.1 e.2.1 = e.2.2) (hl0 : l.1.stackTraces = false) (Q1 : Int32 → aM → Prop) (c2 : AC l (pI pg 131) (fcI M Q1) 0 0 [.ref 40, .ref 17, .ref 30, .int (b)] SHF M) (Q4 : Int32 → aM → Int32 → aM → Prop) (c5 : ∀ (y1 : Int32), ∀ (M1 : aM), ∀ (e1 : M1.2.2 = M.2.2), ∀ (q1 : Q1 y1 M1), ∀ (h3 : ¬ (y1 : Int32) = (Int32.ofInt (-1) : Int32)), AC l (pI pg 135) (fcI M1 (Q4 y1 M1)) 0 0 [.ref 17, .int (y1)] SHF M1) (r6 : ∀ (y1 : Int32), ∀ (M1 : aM), ∀ (e1 : M1.2.2 = M.2.2), ∀ (q1 : Q1 y1 M1), ∀ (h3 : ¬ (y1 : Int32) = (Int32.ofInt (-1) : Int32)), ∀ (y4 : Int32), ∀ (M4 : aM), ∀ (e4 : M4.2.2 = M1.2.2), ∀ (q4 : (Q4 y1 M1) y4 M4), P (.inl (some (.int (y4)))) SHF M4) (r7 : ∀ (y1 : Int32), ∀ (M1 : aM), ∀ (e1 : M1.2.2 = M.2.2), ∀ (q1 : Q1 y1 M1), ∀ (h3 : (y1 : Int32) = (Int32.ofInt (-1) : Int32)), P (.inl (some (.int (Int32.ofInt (-1))))) SHF M1) : AW l (pI pg 130) P kc ks 0 [(0, .ref 40), (1, .ref 17), (2, .ref 30), (3, .int (b))] [] SHF M := by
  refine AW.aload_n (dq rfl) rfl rfl ?_
  show AW l (pI pg 130) P kc ks 1 _ _ SHF _
  refine AW.aload_n (dq rfl) rfl rfl ?_
  show AW l (pI pg 130) P kc ks 2 _ _ SHF _
  refine AW.aload_n (dq rfl) rfl rfl ?_
  show AW l (pI pg 130) P kc ks 3 _ _ SHF _
  refine AW.iload_n (dq rfl) rfl ?_
  show AW l (pI pg 130) P kc ks 4 _ _ SHF _
  refine fw_callVI (as := [.ref 17, .ref 30, .int (b)]) (dq rfl) (pg_ok.2.2.1 130 _ _ _ _ rfl) rfl (by decide +kernel) rfl rfl (c2) (fun y1 M1 e1 q1 => ?_)
  have hJ1 : ∀ e ∈ RRS.2, M1.2.2 e.1 e.2.1 = e.2.2 := fun e he => by rw [e1]; exact hJ e he
  show AW l (pI pg 130) P kc ks 7 [(0, .ref 40), (1, .ref 17), (2, .ref 30), (3, .int (b))] [.int (y1)] SHF _
  refine AW.istore (dq rfl) (by decide +kernel) ?_
  show AW l (pI pg 130) P kc ks 9 [(4, .int (y1)), (0, .ref 40), (1, .ref 17), (2, .ref 30), (3, .int (b))] [] SHF _
  refine AW.iload (dq rfl) rfl ?_
  show AW l (pI pg 130) P kc ks 11 _ _ SHF _
  refine AW.iconst (dq rfl) ?_
  show AW l (pI pg 130) P kc ks 12 _ _ SHF _
  refine AW.icmp_ne (dq rfl) (tgt := 19) (by decide) (fun h3 => ?_) (fun h3 => ?_)
  · have _ := h3
    refine AW.aload_n (dq rfl) rfl rfl ?_
    show AW l (pI pg 130) P kc ks 20 _ _ SHF _
    refine AW.iload (dq rfl) rfl ?_
    show AW l (pI pg 130) P kc ks 22 _ _ SHF _
    refine fw_callVI (as := [.int (y1)]) (dq rfl) (pg_ok.2.2.1 130 _ _ _ _ rfl) rfl (by decide +kernel) rfl rfl (c5 y1 M1 e1 q1 h3) (fun y4 M4 e4 q4 => ?_)
    have hJ4 : ∀ e ∈ RRS.2, M4.2.2 e.1 e.2.1 = e.2.2 := fun e he => by rw [e4]; exact hJ1 e he
    show AW l (pI pg 130) P kc ks 25 [(4, .int (y1)), (0, .ref 40), (1, .ref 17), (2, .ref 30), (3, .int (b))] [.int (y4)] SHF _
    refine AW.iret (dq rfl) rfl ?_
    exact r6 y1 M1 e1 q1 h3 y4 M4 e4 q4
  · have _ := h3
    refine AW.iconst (dq rfl) ?_
    show AW l (pI pg 130) P kc ks 16 _ _ SHF _
    refine AW.goto (dq rfl) (tgt := 25) (by decide) ?_
    refine AW.iret (dq rfl) rfl ?_
    exact r7 y1 M1 e1 q1 h3

theorem chob_0 {l : aL} {P : aP} {kc ks : Nat} {x y : Int32} {M : aM} (hJ : ∀ e ∈ RRS.2, M.2.2 e.1 e.2.1 = e.2.2) (hl0 : l.1.stackTraces = false) (k1 : AW l (pI pg 137) P kc ks 5 [(4, .int (Int32.ofInt 0)), (3, .int (Int32.ofInt (-1))), (2, .int (y)), (1, .int (x)), (0, .ref 17)] [] SHF M) : AW l (pI pg 137) P kc ks 0 [(0, .ref 17), (1, .int (x)), (2, .int (y))] [] SHF M := by
  refine AW.iconst (dq rfl) ?_
  show AW l (pI pg 137) P kc ks 1 _ _ SHF _
  refine AW.istore_n (dq rfl) (by decide +kernel) ?_
  show AW l (pI pg 137) P kc ks 2 [(3, .int (Int32.ofInt (-1))), (0, .ref 17), (1, .int (x)), (2, .int (y))] [] SHF _
  refine AW.iconst (dq rfl) ?_
  show AW l (pI pg 137) P kc ks 3 _ _ SHF _
  refine AW.istore (dq rfl) (by decide +kernel) ?_
  show AW l (pI pg 137) P kc ks 5 [(4, .int (Int32.ofInt 0)), (3, .int (Int32.ofInt (-1))), (0, .ref 17), (1, .int (x)), (2, .int (y))] [] SHF _
  refine AW.drop (lv' := [(4, .int (Int32.ofInt 0)), (3, .int (Int32.ofInt (-1))), (2, .int (y)), (1, .int (x)), (0, .ref 17)]) (List.forall_mem_cons.mpr ⟨List.mem_of_getElem? (i := 0) rfl, List.forall_mem_cons.mpr ⟨List.mem_of_getElem? (i := 1) rfl, List.forall_mem_cons.mpr ⟨List.mem_of_getElem? (i := 4) rfl, List.forall_mem_cons.mpr ⟨List.mem_of_getElem? (i := 3) rfl, List.forall_mem_cons.mpr ⟨List.mem_of_getElem? (i := 2) rfl, fun _ h => absurd h List.not_mem_nil⟩⟩⟩⟩⟩) ?_
  exact k1

theorem chob_5 {l : aL} {P : aP} {kc ks : Nat} {k : Nat} {v x y : Int32} {M : aM} (hJ : ∀ e ∈ RRS.2, M.2.2 e.1 e.2.1 = e.2.2) (hl0 : l.1.stackTraces = false) (r2 : ∀ (h1 : (M.1 17 2 : Int32) ≤ (nI k : Int32)), P (.inl (some (.int (v)))) SHF M) (o3 : ∀ (h1 : ¬ ((M.1 17 2 : Int32) ≤ (nI k : Int32))), vp_in (nI k) 8) (k6 : ∀ (h1 : ¬ ((M.1 17 2 : Int32) ≤ (nI k : Int32))), ∀ (h4 : ¬ (M.1 27 (nI k).toNatClampNeg : Int32) = (x : Int32)), AW l (pI pg 137) P kc ks 5 [(4, .int ((nI k) + Int32.ofInt 1)), (3, .int (v)), (2, .int (y)), (1, .int (x)), (0, .ref 17)] [] SHF M) (k9 : ∀ (h1 : ¬ ((M.1 17 2 : Int32) ≤ (nI k : Int32))), ∀ (h4 : (M.1 27 (nI k).toNatClampNeg : Int32) = (x : Int32)), ∀ (h7 : ¬ (((y) >>> ((nI k) &&& 31)) &&& (Int32.ofInt 1) : Int32) = 0), AW l (pI pg 137) P kc ks 5 [(4, .int ((nI k) + Int32.ofInt 1)), (3, .int (v)), (2, .int (y)), (1, .int (x)), (0, .ref 17)] [] SHF M) (k12 : ∀ (h1 : ¬ ((M.1 17 2 : Int32) ≤ (nI k : Int32))), ∀ (h4 : (M.1 27 (nI k).toNatClampNeg : Int32) = (x : Int32)), ∀ (h7 : (((y) >>> ((nI k) &&& 31)) &&& (Int32.ofInt 1) : Int32) = 0), ∀ (h11 : (v : Int32) = (Int32.ofInt (-1) : Int32)), AW l (pI pg 137) P kc ks 5 [(4, .int ((nI k) + Int32.ofInt 1)), (3, .int (nI k)), (2, .int (y)), (1, .int (x)), (0, .ref 17)] [] SHF M) (o13 : ∀ (h1 : ¬ ((M.1 17 2 : Int32) ≤ (nI k : Int32))), ∀ (h4 : (M.1 27 (nI k).toNatClampNeg : Int32) = (x : Int32)), ∀ (h7 : (((y) >>> ((nI k) &&& 31)) &&& (Int32.ofInt 1) : Int32) = 0), ∀ (h11 : ¬ ((v : Int32) = (Int32.ofInt (-1) : Int32))), vp_in (v) 8) (k15 : ∀ (h1 : ¬ ((M.1 17 2 : Int32) ≤ (nI k : Int32))), ∀ (h4 : (M.1 27 (nI k).toNatClampNeg : Int32) = (x : Int32)), ∀ (h7 : (((y) >>> ((nI k) &&& 31)) &&& (Int32.ofInt 1) : Int32) = 0), ∀ (h11 : ¬ ((v : Int32) = (Int32.ofInt (-1) : Int32))), ∀ (h14 : (M.1 29 (v).toNatClampNeg : Int32) ≤ (M.1 29 (nI k).toNatClampNeg : Int32)), AW l (pI pg 137) P kc ks 5 [(4, .int ((nI k) + Int32.ofInt 1)), (3, .int (v)), (2, .int (y)), (1, .int (x)), (0, .ref 17)] [] SHF M) (k16 : ∀ (h1 : ¬ ((M.1 17 2 : Int32) ≤ (nI k : Int32))), ∀ (h4 : (M.1 27 (nI k).toNatClampNeg : Int32) = (x : Int32)), ∀ (h7 : (((y) >>> ((nI k) &&& 31)) &&& (Int32.ofInt 1) : Int32) = 0), ∀ (h11 : ¬ ((v : Int32) = (Int32.ofInt (-1) : Int32))), ∀ (h14 : ¬ ((M.1 29 (v).toNatClampNeg : Int32) ≤ (M.1 29 (nI k).toNatClampNeg : Int32))), AW l (pI pg 137) P kc ks 5 [(4, .int ((nI k) + Int32.ofInt 1)), (3, .int (nI k)), (2, .int (y)), (1, .int (x)), (0, .ref 17)] [] SHF M) : AW l (pI pg 137) P kc ks 5 [(4, .int (nI k)), (3, .int (v)), (2, .int (y)), (1, .int (x)), (0, .ref 17)] [] SHF M := by
  refine AW.iload (dq rfl) rfl ?_
  show AW l (pI pg 137) P kc ks 7 _ _ SHF _
  refine AW.aload_n (dq rfl) rfl rfl ?_
  show AW l (pI pg 137) P kc ks 8 _ _ SHF _
  refine fw_get (dq rfl) (pg_ok.2.1 137 _ _ _ _ rfl) rfl (v := .int (M.1 17 2)) rfl ?_
  show AW l (pI pg 137) P kc ks 11 _ _ SHF _
  refine AW.icmp_ge (dq rfl) (tgt := 76) (by decide) (fun h1 => ?_) (fun h1 => ?_)
  · have _ := h1
    refine AW.iload_n (dq rfl) rfl ?_
    show AW l (pI pg 137) P kc ks 77 _ _ SHF _
    refine AW.iret (dq rfl) rfl ?_
    exact r2 h1
  · have _ := h1
    refine AW.aload_n (dq rfl) rfl rfl ?_
    show AW l (pI pg 137) P kc ks 15 _ _ SHF _
    refine fw_get (dq rfl) (pg_ok.2.1 137 _ _ _ _ rfl) rfl (v := .ref 27) (isTA_ok rfl (rgR_ok hJ rfl)) ?_
    show AW l (pI pg 137) P kc ks 18 _ _ SHF _
    refine AW.iload (dq rfl) rfl ?_
    show AW l (pI pg 137) P kc ks 20 _ _ SHF _
    refine AW.iald (dq rfl) rfl (o3 h1) ?_
    show AW l (pI pg 137) P kc ks 21 _ _ SHF _
    refine AW.iload_n (dq rfl) rfl ?_
    show AW l (pI pg 137) P kc ks 22 _ _ SHF _
    refine AW.icmp_ne (dq rfl) (tgt := 38) (by decide) (fun h4 => ?_) (fun h4 => ?_)
    · have _ := h4
      refine AW.iconst (dq rfl) ?_
      show AW l (pI pg 137) P kc ks 39 _ _ SHF _
      refine AW.istore (dq rfl) (by decide +kernel) ?_
      show AW l (pI pg 137) P kc ks 41 [(5, .int (Int32.ofInt 0)), (4, .int (nI k)), (3, .int (v)), (2, .int (y)), (1, .int (x)), (0, .ref 17)] [] SHF _
      refine AW.iload (dq rfl) rfl ?_
      show AW l (pI pg 137) P kc ks 43 _ _ SHF _
      refine AW.if_eq (dq rfl) (tgt := 70) (by decide) (fun h5 => ?_) (fun h5 => ?_)
      rotate_left
      · exact absurd h5 (by decide)
      refine AW.iinc (dq rfl) rfl (by decide +kernel) ?_
      show AW l (pI pg 137) P kc ks 73 [(4, .int ((nI k) + Int32.ofInt 1)), (5, .int (Int32.ofInt 0)), (3, .int (v)), (2, .int (y)), (1, .int (x)), (0, .ref 17)] [] SHF _
      refine AW.goto (dq rfl) (tgt := 5) (by decide) ?_
      refine AW.drop (lv' := [(4, .int ((nI k) + Int32.ofInt 1)), (3, .int (v)), (2, .int (y)), (1, .int (x)), (0, .ref 17)]) (List.forall_mem_cons.mpr ⟨List.mem_of_getElem? (i := 0) rfl, List.forall_mem_cons.mpr ⟨List.mem_of_getElem? (i := 2) rfl, List.forall_mem_cons.mpr ⟨List.mem_of_getElem? (i := 3) rfl, List.forall_mem_cons.mpr ⟨List.mem_of_getElem? (i := 4) rfl, List.forall_mem_cons.mpr ⟨List.mem_of_getElem? (i := 5) rfl, fun _ h => absurd h List.not_mem_nil⟩⟩⟩⟩⟩) ?_
      exact k6 h1 h4
    · have _ := h4
      refine AW.iload_n (dq rfl) rfl ?_
      show AW l (pI pg 137) P kc ks 26 _ _ SHF _
      refine AW.iload (dq rfl) rfl ?_
      show AW l (pI pg 137) P kc ks 28 _ _ SHF _
      refine AW.ishr (dq rfl) ?_
      show AW l (pI pg 137) P kc ks 29 _ _ SHF _
      refine AW.iconst (dq rfl) ?_
      show AW l (pI pg 137) P kc ks 30 _ _ SHF _
      refine AW.iand (dq rfl) ?_
      show AW l (pI pg 137) P kc ks 31 _ _ SHF _
      refine AW.if_ne (dq rfl) (tgt := 38) (by decide) (fun h7 => ?_) (fun h7 => ?_)
      · have _ := h7
        refine AW.iconst (dq rfl) ?_
        show AW l (pI pg 137) P kc ks 39 _ _ SHF _
        refine AW.istore (dq rfl) (by decide +kernel) ?_
        show AW l (pI pg 137) P kc ks 41 [(5, .int (Int32.ofInt 0)), (4, .int (nI k)), (3, .int (v)), (2, .int (y)), (1, .int (x)), (0, .ref 17)] [] SHF _
        refine AW.iload (dq rfl) rfl ?_
        show AW l (pI pg 137) P kc ks 43 _ _ SHF _
        refine AW.if_eq (dq rfl) (tgt := 70) (by decide) (fun h8 => ?_) (fun h8 => ?_)
        rotate_left
        · exact absurd h8 (by decide)
        refine AW.iinc (dq rfl) rfl (by decide +kernel) ?_
        show AW l (pI pg 137) P kc ks 73 [(4, .int ((nI k) + Int32.ofInt 1)), (5, .int (Int32.ofInt 0)), (3, .int (v)), (2, .int (y)), (1, .int (x)), (0, .ref 17)] [] SHF _
        refine AW.goto (dq rfl) (tgt := 5) (by decide) ?_
        refine AW.drop (lv' := [(4, .int ((nI k) + Int32.ofInt 1)), (3, .int (v)), (2, .int (y)), (1, .int (x)), (0, .ref 17)]) (List.forall_mem_cons.mpr ⟨List.mem_of_getElem? (i := 0) rfl, List.forall_mem_cons.mpr ⟨List.mem_of_getElem? (i := 2) rfl, List.forall_mem_cons.mpr ⟨List.mem_of_getElem? (i := 3) rfl, List.forall_mem_cons.mpr ⟨List.mem_of_getElem? (i := 4) rfl, List.forall_mem_cons.mpr ⟨List.mem_of_getElem? (i := 5) rfl, fun _ h => absurd h List.not_mem_nil⟩⟩⟩⟩⟩) ?_
        exact k9 h1 h4 h7
      · have _ := h7
        refine AW.iconst (dq rfl) ?_
        show AW l (pI pg 137) P kc ks 35 _ _ SHF _
        refine AW.goto (dq rfl) (tgt := 39) (by decide) ?_
        refine AW.istore (dq rfl) (by decide +kernel) ?_
        show AW l (pI pg 137) P kc ks 41 [(5, .int (Int32.ofInt 1)), (4, .int (nI k)), (3, .int (v)), (2, .int (y)), (1, .int (x)), (0, .ref 17)] [] SHF _
        refine AW.iload (dq rfl) rfl ?_
        show AW l (pI pg 137) P kc ks 43 _ _ SHF _
        refine AW.if_eq (dq rfl) (tgt := 70) (by decide) (fun h10 => ?_) (fun h10 => ?_)
        · exact absurd h10 (by decide)
        refine AW.iload_n (dq rfl) rfl ?_
        show AW l (pI pg 137) P kc ks 47 _ _ SHF _
        refine AW.iconst (dq rfl) ?_
        show AW l (pI pg 137) P kc ks 48 _ _ SHF _
        refine AW.icmp_eq (dq rfl) (tgt := 67) (by decide) (fun h11 => ?_) (fun h11 => ?_)
        · have _ := h11
          refine AW.iload (dq rfl) rfl ?_
          show AW l (pI pg 137) P kc ks 69 _ _ SHF _
          refine AW.istore_n (dq rfl) (by decide +kernel) ?_
          show AW l (pI pg 137) P kc ks 70 [(3, .int (nI k)), (5, .int (Int32.ofInt 1)), (4, .int (nI k)), (2, .int (y)), (1, .int (x)), (0, .ref 17)] [] SHF _
          refine AW.iinc (dq rfl) rfl (by decide +kernel) ?_
          show AW l (pI pg 137) P kc ks 73 [(4, .int ((nI k) + Int32.ofInt 1)), (3, .int (nI k)), (5, .int (Int32.ofInt 1)), (2, .int (y)), (1, .int (x)), (0, .ref 17)] [] SHF _
          refine AW.goto (dq rfl) (tgt := 5) (by decide) ?_
          refine AW.drop (lv' := [(4, .int ((nI k) + Int32.ofInt 1)), (3, .int (nI k)), (2, .int (y)), (1, .int (x)), (0, .ref 17)]) (List.forall_mem_cons.mpr ⟨List.mem_of_getElem? (i := 0) rfl, List.forall_mem_cons.mpr ⟨List.mem_of_getElem? (i := 1) rfl, List.forall_mem_cons.mpr ⟨List.mem_of_getElem? (i := 3) rfl, List.forall_mem_cons.mpr ⟨List.mem_of_getElem? (i := 4) rfl, List.forall_mem_cons.mpr ⟨List.mem_of_getElem? (i := 5) rfl, fun _ h => absurd h List.not_mem_nil⟩⟩⟩⟩⟩) ?_
          exact k12 h1 h4 h7 h11
        · have _ := h11
          refine AW.aload_n (dq rfl) rfl rfl ?_
          show AW l (pI pg 137) P kc ks 52 _ _ SHF _
          refine fw_get (dq rfl) (pg_ok.2.1 137 _ _ _ _ rfl) rfl (v := .ref 29) (isTA_ok rfl (rgR_ok hJ rfl)) ?_
          show AW l (pI pg 137) P kc ks 55 _ _ SHF _
          refine AW.iload (dq rfl) rfl ?_
          show AW l (pI pg 137) P kc ks 57 _ _ SHF _
          refine AW.iald (dq rfl) rfl (o3 h1) ?_
          show AW l (pI pg 137) P kc ks 58 _ _ SHF _
          refine AW.aload_n (dq rfl) rfl rfl ?_
          show AW l (pI pg 137) P kc ks 59 _ _ SHF _
          refine fw_get (dq rfl) (pg_ok.2.1 137 _ _ _ _ rfl) rfl (v := .ref 29) (isTA_ok rfl (rgR_ok hJ rfl)) ?_
          show AW l (pI pg 137) P kc ks 62 _ _ SHF _
          refine AW.iload_n (dq rfl) rfl ?_
          show AW l (pI pg 137) P kc ks 63 _ _ SHF _
          refine AW.iald (dq rfl) rfl (o13 h1 h4 h7 h11) ?_
          show AW l (pI pg 137) P kc ks 64 _ _ SHF _
          refine AW.icmp_ge (dq rfl) (tgt := 70) (by decide) (fun h14 => ?_) (fun h14 => ?_)
          · have _ := h14
            refine AW.iinc (dq rfl) rfl (by decide +kernel) ?_
            show AW l (pI pg 137) P kc ks 73 [(4, .int ((nI k) + Int32.ofInt 1)), (5, .int (Int32.ofInt 1)), (3, .int (v)), (2, .int (y)), (1, .int (x)), (0, .ref 17)] [] SHF _
            refine AW.goto (dq rfl) (tgt := 5) (by decide) ?_
            refine AW.drop (lv' := [(4, .int ((nI k) + Int32.ofInt 1)), (3, .int (v)), (2, .int (y)), (1, .int (x)), (0, .ref 17)]) (List.forall_mem_cons.mpr ⟨List.mem_of_getElem? (i := 0) rfl, List.forall_mem_cons.mpr ⟨List.mem_of_getElem? (i := 2) rfl, List.forall_mem_cons.mpr ⟨List.mem_of_getElem? (i := 3) rfl, List.forall_mem_cons.mpr ⟨List.mem_of_getElem? (i := 4) rfl, List.forall_mem_cons.mpr ⟨List.mem_of_getElem? (i := 5) rfl, fun _ h => absurd h List.not_mem_nil⟩⟩⟩⟩⟩) ?_
            exact k15 h1 h4 h7 h11 h14
          · have _ := h14
            refine AW.iload (dq rfl) rfl ?_
            show AW l (pI pg 137) P kc ks 69 _ _ SHF _
            refine AW.istore_n (dq rfl) (by decide +kernel) ?_
            show AW l (pI pg 137) P kc ks 70 [(3, .int (nI k)), (5, .int (Int32.ofInt 1)), (4, .int (nI k)), (2, .int (y)), (1, .int (x)), (0, .ref 17)] [] SHF _
            refine AW.iinc (dq rfl) rfl (by decide +kernel) ?_
            show AW l (pI pg 137) P kc ks 73 [(4, .int ((nI k) + Int32.ofInt 1)), (3, .int (nI k)), (5, .int (Int32.ofInt 1)), (2, .int (y)), (1, .int (x)), (0, .ref 17)] [] SHF _
            refine AW.goto (dq rfl) (tgt := 5) (by decide) ?_
            refine AW.drop (lv' := [(4, .int ((nI k) + Int32.ofInt 1)), (3, .int (nI k)), (2, .int (y)), (1, .int (x)), (0, .ref 17)]) (List.forall_mem_cons.mpr ⟨List.mem_of_getElem? (i := 0) rfl, List.forall_mem_cons.mpr ⟨List.mem_of_getElem? (i := 1) rfl, List.forall_mem_cons.mpr ⟨List.mem_of_getElem? (i := 3) rfl, List.forall_mem_cons.mpr ⟨List.mem_of_getElem? (i := 4) rfl, List.forall_mem_cons.mpr ⟨List.mem_of_getElem? (i := 5) rfl, fun _ h => absurd h List.not_mem_nil⟩⟩⟩⟩⟩) ?_
            exact k16 h1 h4 h7 h11 h14

theorem bndb_0 {l : aL} {P : aP} {kc ks : Nat} {m : Int32} {M : aM} (hJ : ∀ e ∈ RRS.2, M.2.2 e.1 e.2.1 = e.2.2) (hl0 : l.1.stackTraces = false) (k1 : AW l (pI pg 136) P kc ks 5 [(4, .int (Int32.ofInt 0)), (3, .int (Int32.ofInt 0)), (2, .int (m)), (1, .ref 17)] [] SHF M) : AW l (pI pg 136) P kc ks 0 [(0, .ref 40), (1, .ref 17), (2, .int (m))] [] SHF M := by
  refine AW.iconst (dq rfl) ?_
  show AW l (pI pg 136) P kc ks 1 _ _ SHF _
  refine AW.istore_n (dq rfl) (by decide +kernel) ?_
  show AW l (pI pg 136) P kc ks 2 [(3, .int (Int32.ofInt 0)), (0, .ref 40), (1, .ref 17), (2, .int (m))] [] SHF _
  refine AW.iconst (dq rfl) ?_
  show AW l (pI pg 136) P kc ks 3 _ _ SHF _
  refine AW.istore (dq rfl) (by decide +kernel) ?_
  show AW l (pI pg 136) P kc ks 5 [(4, .int (Int32.ofInt 0)), (3, .int (Int32.ofInt 0)), (0, .ref 40), (1, .ref 17), (2, .int (m))] [] SHF _
  refine AW.drop (lv' := [(4, .int (Int32.ofInt 0)), (3, .int (Int32.ofInt 0)), (2, .int (m)), (1, .ref 17)]) (List.forall_mem_cons.mpr ⟨List.mem_of_getElem? (i := 0) rfl, List.forall_mem_cons.mpr ⟨List.mem_of_getElem? (i := 1) rfl, List.forall_mem_cons.mpr ⟨List.mem_of_getElem? (i := 4) rfl, List.forall_mem_cons.mpr ⟨List.mem_of_getElem? (i := 3) rfl, fun _ h => absurd h List.not_mem_nil⟩⟩⟩⟩) ?_
  exact k1

theorem bndb_5 {l : aL} {P : aP} {kc ks : Nat} {w : Nat} {v m : Int32} {M : aM} (hJ : ∀ e ∈ RRS.2, M.2.2 e.1 e.2.1 = e.2.2) (hl0 : l.1.stackTraces = false) (r2 : ∀ (h1 : (M.1 17 1 : Int32) ≤ (nI w : Int32)), P (.inl (some (.int (v)))) SHF M) (o3 : ∀ (h1 : ¬ ((M.1 17 1 : Int32) ≤ (nI w : Int32))), vp_in (nI w) 8) (Q4 : Int32 → aM → Prop) (c5 : ∀ (h1 : ¬ ((M.1 17 1 : Int32) ≤ (nI w : Int32))), AC l (pI pg 21) (fcI M Q4) 0 0 [.int (M.1 24 (nI w).toNatClampNeg)] SHF M) (k6 : ∀ (h1 : ¬ ((M.1 17 1 : Int32) ≤ (nI w : Int32))), ∀ (y4 : Int32), ∀ (M4 : aM), ∀ (e4 : M4.2.2 = M.2.2), ∀ (q4 : Q4 y4 M4), AW l (pI pg 136) P kc ks 34 [(7, .int (Int32.ofInt 0)), (6, .int (Int32.ofInt 0)), (5, .int ((m) - (y4))), (4, .int (nI w)), (3, .int (v)), (2, .int (m)), (1, .ref 17)] [] SHF M4) : AW l (pI pg 136) P kc ks 5 [(4, .int (nI w)), (3, .int (v)), (2, .int (m)), (1, .ref 17)] [] SHF M := by
  refine AW.iload (dq rfl) rfl ?_
  show AW l (pI pg 136) P kc ks 7 _ _ SHF _
  refine AW.aload_n (dq rfl) rfl rfl ?_
  show AW l (pI pg 136) P kc ks 8 _ _ SHF _
  refine fw_get (dq rfl) (pg_ok.2.1 136 _ _ _ _ rfl) rfl (v := .int (M.1 17 1)) rfl ?_
  show AW l (pI pg 136) P kc ks 11 _ _ SHF _
  refine AW.icmp_ge (dq rfl) (tgt := 90) (by decide) (fun h1 => ?_) (fun h1 => ?_)
  · have _ := h1
    refine AW.iload_n (dq rfl) rfl ?_
    show AW l (pI pg 136) P kc ks 91 _ _ SHF _
    refine AW.iret (dq rfl) rfl ?_
    exact r2 h1
  · have _ := h1
    refine AW.iload_n (dq rfl) rfl ?_
    show AW l (pI pg 136) P kc ks 15 _ _ SHF _
    refine AW.aload_n (dq rfl) rfl rfl ?_
    show AW l (pI pg 136) P kc ks 16 _ _ SHF _
    refine fw_get (dq rfl) (pg_ok.2.1 136 _ _ _ _ rfl) rfl (v := .ref 24) (isTA_ok rfl (rgR_ok hJ rfl)) ?_
    show AW l (pI pg 136) P kc ks 19 _ _ SHF _
    refine AW.iload (dq rfl) rfl ?_
    show AW l (pI pg 136) P kc ks 21 _ _ SHF _
    refine AW.iald (dq rfl) rfl (o3 h1) ?_
    show AW l (pI pg 136) P kc ks 22 _ _ SHF _
    refine fw_callSI (as := [.int (M.1 24 (nI w).toNatClampNeg)]) (dq rfl) (pg_ok.2.2.1 136 _ _ _ _ rfl) (by decide +kernel) rfl rfl (c5 h1) (fun y4 M4 e4 q4 => ?_)
    have hJ4 : ∀ e ∈ RRS.2, M4.2.2 e.1 e.2.1 = e.2.2 := fun e he => by rw [e4]; exact hJ e he
    show AW l (pI pg 136) P kc ks 25 [(4, .int (nI w)), (3, .int (v)), (2, .int (m)), (1, .ref 17)] [.int (y4), .int (m)] SHF _
    refine AW.isub (dq rfl) ?_
    show AW l (pI pg 136) P kc ks 26 _ _ SHF _
    refine AW.istore (dq rfl) (by decide +kernel) ?_
    show AW l (pI pg 136) P kc ks 28 [(5, .int ((m) - (y4))), (4, .int (nI w)), (3, .int (v)), (2, .int (m)), (1, .ref 17)] [] SHF _
    refine AW.iconst (dq rfl) ?_
    show AW l (pI pg 136) P kc ks 29 _ _ SHF _
    refine AW.istore (dq rfl) (by decide +kernel) ?_
    show AW l (pI pg 136) P kc ks 31 [(6, .int (Int32.ofInt 0)), (5, .int ((m) - (y4))), (4, .int (nI w)), (3, .int (v)), (2, .int (m)), (1, .ref 17)] [] SHF _
    refine AW.iconst (dq rfl) ?_
    show AW l (pI pg 136) P kc ks 32 _ _ SHF _
    refine AW.istore (dq rfl) (by decide +kernel) ?_
    show AW l (pI pg 136) P kc ks 34 [(7, .int (Int32.ofInt 0)), (6, .int (Int32.ofInt 0)), (5, .int ((m) - (y4))), (4, .int (nI w)), (3, .int (v)), (2, .int (m)), (1, .ref 17)] [] SHF _
    refine AW.drop (lv' := [(7, .int (Int32.ofInt 0)), (6, .int (Int32.ofInt 0)), (5, .int ((m) - (y4))), (4, .int (nI w)), (3, .int (v)), (2, .int (m)), (1, .ref 17)]) (List.forall_mem_cons.mpr ⟨List.mem_of_getElem? (i := 0) rfl, List.forall_mem_cons.mpr ⟨List.mem_of_getElem? (i := 1) rfl, List.forall_mem_cons.mpr ⟨List.mem_of_getElem? (i := 2) rfl, List.forall_mem_cons.mpr ⟨List.mem_of_getElem? (i := 3) rfl, List.forall_mem_cons.mpr ⟨List.mem_of_getElem? (i := 4) rfl, List.forall_mem_cons.mpr ⟨List.mem_of_getElem? (i := 5) rfl, List.forall_mem_cons.mpr ⟨List.mem_of_getElem? (i := 6) rfl, fun _ h => absurd h List.not_mem_nil⟩⟩⟩⟩⟩⟩⟩) ?_
    exact k6 h1 y4 M4 e4 q4

theorem bndb_34 {l : aL} {P : aP} {kc ks : Nat} {i w : Nat} {u c v m : Int32} {M : aM} (hJ : ∀ e ∈ RRS.2, M.2.2 e.1 e.2.1 = e.2.2) (hl0 : l.1.stackTraces = false) (k2 : ∀ (h1 : (c : Int32) ≤ (nI i : Int32)), AW l (pI pg 136) P kc ks 5 [(4, .int ((nI w) + Int32.ofInt 1)), (3, .int (v)), (2, .int (m)), (1, .ref 17)] [] SHF M) (Q3 : Int32 → aM → Prop) (c4 : ∀ (h1 : ¬ ((c : Int32) ≤ (nI i : Int32))), AC l (pI pg 137) (fcI M Q3) 0 0 [.ref 17, .int (nI w), .int (u)] SHF M) (o6 : ∀ (h1 : ¬ ((c : Int32) ≤ (nI i : Int32))), ∀ (y3 : Int32), ∀ (M3 : aM), ∀ (e3 : M3.2.2 = M.2.2), ∀ (q3 : Q3 y3 M3), ∀ (h5 : ¬ (y3 : Int32) = (Int32.ofInt (-1) : Int32)), vp_in (y3) 8) (k7 : ∀ (h1 : ¬ ((c : Int32) ≤ (nI i : Int32))), ∀ (y3 : Int32), ∀ (M3 : aM), ∀ (e3 : M3.2.2 = M.2.2), ∀ (q3 : Q3 y3 M3), ∀ (h5 : ¬ (y3 : Int32) = (Int32.ofInt (-1) : Int32)), AW l (pI pg 136) P kc ks 34 [(7, .int ((nI i) + Int32.ofInt 1)), (6, .int ((u) ||| ((Int32.ofInt 1) <<< ((y3) &&& 31)))), (5, .int (c)), (4, .int (nI w)), (3, .int ((v) + (M3.1 29 (y3).toNatClampNeg))), (2, .int (m)), (1, .ref 17)] [] SHF M3) (r8 : ∀ (h1 : ¬ ((c : Int32) ≤ (nI i : Int32))), ∀ (y3 : Int32), ∀ (M3 : aM), ∀ (e3 : M3.2.2 = M.2.2), ∀ (q3 : Q3 y3 M3), ∀ (h5 : (y3 : Int32) = (Int32.ofInt (-1) : Int32)), P (.inl (some (.int (Int32.ofInt (-1))))) SHF M3) : AW l (pI pg 136) P kc ks 34 [(7, .int (nI i)), (6, .int (u)), (5, .int (c)), (4, .int (nI w)), (3, .int (v)), (2, .int (m)), (1, .ref 17)] [] SHF M := by
  refine AW.iload (dq rfl) rfl ?_
  show AW l (pI pg 136) P kc ks 36 _ _ SHF _
  refine AW.iload (dq rfl) rfl ?_
  show AW l (pI pg 136) P kc ks 38 _ _ SHF _
  refine AW.icmp_ge (dq rfl) (tgt := 84) (by decide) (fun h1 => ?_) (fun h1 => ?_)
  · have _ := h1
    refine AW.iinc (dq rfl) rfl (by decide +kernel) ?_
    show AW l (pI pg 136) P kc ks 87 [(4, .int ((nI w) + Int32.ofInt 1)), (7, .int (nI i)), (6, .int (u)), (5, .int (c)), (3, .int (v)), (2, .int (m)), (1, .ref 17)] [] SHF _
    refine AW.goto (dq rfl) (tgt := 5) (by decide) ?_
    refine AW.drop (lv' := [(4, .int ((nI w) + Int32.ofInt 1)), (3, .int (v)), (2, .int (m)), (1, .ref 17)]) (List.forall_mem_cons.mpr ⟨List.mem_of_getElem? (i := 0) rfl, List.forall_mem_cons.mpr ⟨List.mem_of_getElem? (i := 4) rfl, List.forall_mem_cons.mpr ⟨List.mem_of_getElem? (i := 5) rfl, List.forall_mem_cons.mpr ⟨List.mem_of_getElem? (i := 6) rfl, fun _ h => absurd h List.not_mem_nil⟩⟩⟩⟩) ?_
    exact k2 h1
  · have _ := h1
    refine AW.aload_n (dq rfl) rfl rfl ?_
    show AW l (pI pg 136) P kc ks 42 _ _ SHF _
    refine AW.iload (dq rfl) rfl ?_
    show AW l (pI pg 136) P kc ks 44 _ _ SHF _
    refine AW.iload (dq rfl) rfl ?_
    show AW l (pI pg 136) P kc ks 46 _ _ SHF _
    refine fw_callSI (as := [.ref 17, .int (nI w), .int (u)]) (dq rfl) (pg_ok.2.2.1 136 _ _ _ _ rfl) (by decide +kernel) rfl rfl (c4 h1) (fun y3 M3 e3 q3 => ?_)
    have hJ3 : ∀ e ∈ RRS.2, M3.2.2 e.1 e.2.1 = e.2.2 := fun e he => by rw [e3]; exact hJ e he
    show AW l (pI pg 136) P kc ks 49 [(7, .int (nI i)), (6, .int (u)), (5, .int (c)), (4, .int (nI w)), (3, .int (v)), (2, .int (m)), (1, .ref 17)] [.int (y3)] SHF _
    refine AW.istore (dq rfl) (by decide +kernel) ?_
    show AW l (pI pg 136) P kc ks 51 [(8, .int (y3)), (7, .int (nI i)), (6, .int (u)), (5, .int (c)), (4, .int (nI w)), (3, .int (v)), (2, .int (m)), (1, .ref 17)] [] SHF _
    refine AW.iload (dq rfl) rfl ?_
    show AW l (pI pg 136) P kc ks 53 _ _ SHF _
    refine AW.iconst (dq rfl) ?_
    show AW l (pI pg 136) P kc ks 54 _ _ SHF _
    refine AW.icmp_ne (dq rfl) (tgt := 59) (by decide) (fun h5 => ?_) (fun h5 => ?_)
    · have _ := h5
      refine AW.iload (dq rfl) rfl ?_
      show AW l (pI pg 136) P kc ks 61 _ _ SHF _
      refine AW.iconst (dq rfl) ?_
      show AW l (pI pg 136) P kc ks 62 _ _ SHF _
      refine AW.iload (dq rfl) rfl ?_
      show AW l (pI pg 136) P kc ks 64 _ _ SHF _
      refine AW.ishl (dq rfl) ?_
      show AW l (pI pg 136) P kc ks 65 _ _ SHF _
      refine AW.ior (dq rfl) ?_
      show AW l (pI pg 136) P kc ks 66 _ _ SHF _
      refine AW.istore (dq rfl) (by decide +kernel) ?_
      show AW l (pI pg 136) P kc ks 68 [(6, .int ((u) ||| ((Int32.ofInt 1) <<< ((y3) &&& 31)))), (8, .int (y3)), (7, .int (nI i)), (5, .int (c)), (4, .int (nI w)), (3, .int (v)), (2, .int (m)), (1, .ref 17)] [] SHF _
      refine AW.iload_n (dq rfl) rfl ?_
      show AW l (pI pg 136) P kc ks 69 _ _ SHF _
      refine AW.aload_n (dq rfl) rfl rfl ?_
      show AW l (pI pg 136) P kc ks 70 _ _ SHF _
      refine fw_get (dq rfl) (pg_ok.2.1 136 _ _ _ _ rfl) rfl (v := .ref 29) (isTA_ok rfl (rgR_ok hJ3 rfl)) ?_
      show AW l (pI pg 136) P kc ks 73 _ _ SHF _
      refine AW.iload (dq rfl) rfl ?_
      show AW l (pI pg 136) P kc ks 75 _ _ SHF _
      refine AW.iald (dq rfl) rfl (o6 h1 y3 M3 e3 q3 h5) ?_
      show AW l (pI pg 136) P kc ks 76 _ _ SHF _
      refine AW.iadd (dq rfl) ?_
      show AW l (pI pg 136) P kc ks 77 _ _ SHF _
      refine AW.istore_n (dq rfl) (by decide +kernel) ?_
      show AW l (pI pg 136) P kc ks 78 [(3, .int ((v) + (M3.1 29 (y3).toNatClampNeg))), (6, .int ((u) ||| ((Int32.ofInt 1) <<< ((y3) &&& 31)))), (8, .int (y3)), (7, .int (nI i)), (5, .int (c)), (4, .int (nI w)), (2, .int (m)), (1, .ref 17)] [] SHF _
      refine AW.iinc (dq rfl) rfl (by decide +kernel) ?_
      show AW l (pI pg 136) P kc ks 81 [(7, .int ((nI i) + Int32.ofInt 1)), (3, .int ((v) + (M3.1 29 (y3).toNatClampNeg))), (6, .int ((u) ||| ((Int32.ofInt 1) <<< ((y3) &&& 31)))), (8, .int (y3)), (5, .int (c)), (4, .int (nI w)), (2, .int (m)), (1, .ref 17)] [] SHF _
      refine AW.goto (dq rfl) (tgt := 34) (by decide) ?_
      refine AW.drop (lv' := [(7, .int ((nI i) + Int32.ofInt 1)), (6, .int ((u) ||| ((Int32.ofInt 1) <<< ((y3) &&& 31)))), (5, .int (c)), (4, .int (nI w)), (3, .int ((v) + (M3.1 29 (y3).toNatClampNeg))), (2, .int (m)), (1, .ref 17)]) (List.forall_mem_cons.mpr ⟨List.mem_of_getElem? (i := 0) rfl, List.forall_mem_cons.mpr ⟨List.mem_of_getElem? (i := 2) rfl, List.forall_mem_cons.mpr ⟨List.mem_of_getElem? (i := 4) rfl, List.forall_mem_cons.mpr ⟨List.mem_of_getElem? (i := 5) rfl, List.forall_mem_cons.mpr ⟨List.mem_of_getElem? (i := 1) rfl, List.forall_mem_cons.mpr ⟨List.mem_of_getElem? (i := 6) rfl, List.forall_mem_cons.mpr ⟨List.mem_of_getElem? (i := 7) rfl, fun _ h => absurd h List.not_mem_nil⟩⟩⟩⟩⟩⟩⟩) ?_
      exact k7 h1 y3 M3 e3 q3 h5
    · have _ := h5
      refine AW.iconst (dq rfl) ?_
      show AW l (pI pg 136) P kc ks 58 _ _ SHF _
      refine AW.iret (dq rfl) rfl ?_
      exact r8 h1 y3 M3 e3 q3 h5

theorem lrnb_0 {l : aL} {P : aP} {kc ks : Nat} {b x : Int32} {M : aM} (hJ : ∀ e ∈ RRS.2, M.2.2 e.1 e.2.1 = e.2.2) (hl0 : l.1.stackTraces = false) (Q2 : Int32 → aM → Prop) (c3 : ∀ (h1 : (x : Int32) = Int32.ofInt 0), AC l (pI pg 130) (fcI M Q2) 0 0 [.ref 40, .ref 17, .ref 30, .int (b)] SHF M) (r4 : ∀ (h1 : (x : Int32) = Int32.ofInt 0), ∀ (y2 : Int32), ∀ (M2 : aM), ∀ (e2 : M2.2.2 = M.2.2), ∀ (q2 : Q2 y2 M2), P (.inl (some (.int (y2)))) SHF M2) (Q6 : Int32 → aM → Prop) (c7 : ∀ (h1 : ¬ (x : Int32) = Int32.ofInt 0), ∀ (h5 : (x : Int32) = Int32.ofInt 1), AC l (pI pg 131) (fcI M Q6) 0 0 [.ref 40, .ref 17, .ref 30, .int (b)] SHF M) (r8 : ∀ (h1 : ¬ (x : Int32) = Int32.ofInt 0), ∀ (h5 : (x : Int32) = Int32.ofInt 1), ∀ (y6 : Int32), ∀ (M6 : aM), ∀ (e6 : M6.2.2 = M.2.2), ∀ (q6 : Q6 y6 M6), P (.inl (some (.int (y6)))) SHF M6) (Q11 : Int32 → aM → Prop) (c12 : ∀ (h1 : ¬ (x : Int32) = Int32.ofInt 0), ∀ (h5 : ¬ (x : Int32) = Int32.ofInt 1), ∀ (h9 : (x : Int32) = Int32.ofInt 2), ∀ (h10 : (b : Int32) = 0), AC l (pI pg 136) (fcI M Q11) 0 0 [.ref 40, .ref 17, .int (Int32.ofInt 2)] SHF M) (r13 : ∀ (h1 : ¬ (x : Int32) = Int32.ofInt 0), ∀ (h5 : ¬ (x : Int32) = Int32.ofInt 1), ∀ (h9 : (x : Int32) = Int32.ofInt 2), ∀ (h10 : (b : Int32) = 0), ∀ (y11 : Int32), ∀ (M11 : aM), ∀ (e11 : M11.2.2 = M.2.2), ∀ (q11 : Q11 y11 M11), P (.inl (some (.int (y11)))) SHF M11) (Q14 : Int32 → aM → Prop) (c15 : ∀ (h1 : ¬ (x : Int32) = Int32.ofInt 0), ∀ (h5 : ¬ (x : Int32) = Int32.ofInt 1), ∀ (h9 : (x : Int32) = Int32.ofInt 2), ∀ (h10 : ¬ ((b : Int32) = 0)), AC l (pI pg 136) (fcI M Q14) 0 0 [.ref 40, .ref 17, .int (Int32.ofInt 3)] SHF M) (r16 : ∀ (h1 : ¬ (x : Int32) = Int32.ofInt 0), ∀ (h5 : ¬ (x : Int32) = Int32.ofInt 1), ∀ (h9 : (x : Int32) = Int32.ofInt 2), ∀ (h10 : ¬ ((b : Int32) = 0)), ∀ (y14 : Int32), ∀ (M14 : aM), ∀ (e14 : M14.2.2 = M.2.2), ∀ (q14 : Q14 y14 M14), P (.inl (some (.int (y14)))) SHF M14) (x17 : ∀ (h1 : ¬ (x : Int32) = Int32.ofInt 0), ∀ (h5 : ¬ (x : Int32) = Int32.ofInt 1), ∀ (h9 : ¬ (x : Int32) = Int32.ofInt 2), P (.inr "java/util/NoSuchElementException") SHF M) : AW l (pI pg 129) P (kc + 1) (ks + 6) 0 [(0, .ref 0), (1, .int (b)), (2, .int (x))] [] SHF M := by
  refine AW.iload_n (dq rfl) rfl ?_
  show AW l (pI pg 129) P (kc + 1) (ks + 6) 1 _ _ SHF _
  by_cases h1 : (x : Int32) = Int32.ofInt 0
  · refine AW.tableIn (dq rfl) (by rw [h1]; decide) (by rw [h1]; decide) (off := 27) (by rw [h1]; decide) (tgt := 28) (by decide) ?_
    show AW l (pI pg 129) P (kc + 1) (ks + 6) 28 [(0, .ref 0), (1, .int (b)), (2, .int (x))] [] SHF _
    refine AW.aload_n (dq rfl) rfl rfl ?_
    show AW l (pI pg 129) P (kc + 1) (ks + 6) 29 _ _ SHF _
    refine fw_get (dq rfl) (pg_ok.2.1 129 _ _ _ _ rfl) rfl (v := .ref 40) (isTA_ok rfl (rgR_ok hJ rfl)) ?_
    show AW l (pI pg 129) P (kc + 1) (ks + 6) 32 _ _ SHF _
    refine AW.aload_n (dq rfl) rfl rfl ?_
    show AW l (pI pg 129) P (kc + 1) (ks + 6) 33 _ _ SHF _
    refine fw_get (dq rfl) (pg_ok.2.1 129 _ _ _ _ rfl) rfl (v := .ref 17) (isTA_ok rfl (rgR_ok hJ rfl)) ?_
    show AW l (pI pg 129) P (kc + 1) (ks + 6) 36 _ _ SHF _
    refine AW.aload_n (dq rfl) rfl rfl ?_
    show AW l (pI pg 129) P (kc + 1) (ks + 6) 37 _ _ SHF _
    refine fw_get (dq rfl) (pg_ok.2.1 129 _ _ _ _ rfl) rfl (v := .ref 30) (isTA_ok rfl (rgR_ok hJ rfl)) ?_
    show AW l (pI pg 129) P (kc + 1) (ks + 6) 40 _ _ SHF _
    refine AW.iload_n (dq rfl) rfl ?_
    show AW l (pI pg 129) P (kc + 1) (ks + 6) 41 _ _ SHF _
    refine fw_callVI (as := [.ref 17, .ref 30, .int (b)]) (dq rfl) (pg_ok.2.2.1 129 _ _ _ _ rfl) rfl (by decide +kernel) rfl rfl (c3 h1) (fun y2 M2 e2 q2 => ?_)
    have hJ2 : ∀ e ∈ RRS.2, M2.2.2 e.1 e.2.1 = e.2.2 := fun e he => by rw [e2]; exact hJ e he
    show AW l (pI pg 129) P (kc + 1) (ks + 6) 44 [(0, .ref 0), (1, .int (b)), (2, .int (x))] [.int (y2)] SHF _
    refine AW.iret (dq rfl) rfl ?_
    exact r4 h1 y2 M2 e2 q2
  by_cases h5 : (x : Int32) = Int32.ofInt 1
  · refine AW.tableIn (dq rfl) (by rw [h5]; decide) (by rw [h5]; decide) (off := 44) (by rw [h5]; decide) (tgt := 45) (by decide) ?_
    show AW l (pI pg 129) P (kc + 1) (ks + 6) 45 [(0, .ref 0), (1, .int (b)), (2, .int (x))] [] SHF _
    refine AW.aload_n (dq rfl) rfl rfl ?_
    show AW l (pI pg 129) P (kc + 1) (ks + 6) 46 _ _ SHF _
    refine fw_get (dq rfl) (pg_ok.2.1 129 _ _ _ _ rfl) rfl (v := .ref 40) (isTA_ok rfl (rgR_ok hJ rfl)) ?_
    show AW l (pI pg 129) P (kc + 1) (ks + 6) 49 _ _ SHF _
    refine AW.aload_n (dq rfl) rfl rfl ?_
    show AW l (pI pg 129) P (kc + 1) (ks + 6) 50 _ _ SHF _
    refine fw_get (dq rfl) (pg_ok.2.1 129 _ _ _ _ rfl) rfl (v := .ref 17) (isTA_ok rfl (rgR_ok hJ rfl)) ?_
    show AW l (pI pg 129) P (kc + 1) (ks + 6) 53 _ _ SHF _
    refine AW.aload_n (dq rfl) rfl rfl ?_
    show AW l (pI pg 129) P (kc + 1) (ks + 6) 54 _ _ SHF _
    refine fw_get (dq rfl) (pg_ok.2.1 129 _ _ _ _ rfl) rfl (v := .ref 30) (isTA_ok rfl (rgR_ok hJ rfl)) ?_
    show AW l (pI pg 129) P (kc + 1) (ks + 6) 57 _ _ SHF _
    refine AW.iload_n (dq rfl) rfl ?_
    show AW l (pI pg 129) P (kc + 1) (ks + 6) 58 _ _ SHF _
    refine fw_callVI (as := [.ref 17, .ref 30, .int (b)]) (dq rfl) (pg_ok.2.2.1 129 _ _ _ _ rfl) rfl (by decide +kernel) rfl rfl (c7 h1 h5) (fun y6 M6 e6 q6 => ?_)
    have hJ6 : ∀ e ∈ RRS.2, M6.2.2 e.1 e.2.1 = e.2.2 := fun e he => by rw [e6]; exact hJ e he
    show AW l (pI pg 129) P (kc + 1) (ks + 6) 61 [(0, .ref 0), (1, .int (b)), (2, .int (x))] [.int (y6)] SHF _
    refine AW.iret (dq rfl) rfl ?_
    exact r8 h1 h5 y6 M6 e6 q6
  by_cases h9 : (x : Int32) = Int32.ofInt 2
  · refine AW.tableIn (dq rfl) (by rw [h9]; decide) (by rw [h9]; decide) (off := 61) (by rw [h9]; decide) (tgt := 62) (by decide) ?_
    show AW l (pI pg 129) P (kc + 1) (ks + 6) 62 [(0, .ref 0), (1, .int (b)), (2, .int (x))] [] SHF _
    refine AW.aload_n (dq rfl) rfl rfl ?_
    show AW l (pI pg 129) P (kc + 1) (ks + 6) 63 _ _ SHF _
    refine fw_get (dq rfl) (pg_ok.2.1 129 _ _ _ _ rfl) rfl (v := .ref 40) (isTA_ok rfl (rgR_ok hJ rfl)) ?_
    show AW l (pI pg 129) P (kc + 1) (ks + 6) 66 _ _ SHF _
    refine AW.aload_n (dq rfl) rfl rfl ?_
    show AW l (pI pg 129) P (kc + 1) (ks + 6) 67 _ _ SHF _
    refine fw_get (dq rfl) (pg_ok.2.1 129 _ _ _ _ rfl) rfl (v := .ref 17) (isTA_ok rfl (rgR_ok hJ rfl)) ?_
    show AW l (pI pg 129) P (kc + 1) (ks + 6) 70 _ _ SHF _
    refine AW.iload_n (dq rfl) rfl ?_
    show AW l (pI pg 129) P (kc + 1) (ks + 6) 71 _ _ SHF _
    refine AW.if_eq (dq rfl) (tgt := 78) (by decide) (fun h10 => ?_) (fun h10 => ?_)
    · have _ := h10
      refine AW.iconst (dq rfl) ?_
      show AW l (pI pg 129) P (kc + 1) (ks + 6) 79 _ _ SHF _
      refine fw_callVI (as := [.ref 17, .int (Int32.ofInt 2)]) (dq rfl) (pg_ok.2.2.1 129 _ _ _ _ rfl) rfl (by decide +kernel) rfl rfl (c12 h1 h5 h9 h10) (fun y11 M11 e11 q11 => ?_)
      have hJ11 : ∀ e ∈ RRS.2, M11.2.2 e.1 e.2.1 = e.2.2 := fun e he => by rw [e11]; exact hJ e he
      show AW l (pI pg 129) P (kc + 1) (ks + 6) 82 [(0, .ref 0), (1, .int (b)), (2, .int (x))] [.int (y11)] SHF _
      refine AW.iret (dq rfl) rfl ?_
      exact r13 h1 h5 h9 h10 y11 M11 e11 q11
    · have _ := h10
      refine AW.iconst (dq rfl) ?_
      show AW l (pI pg 129) P (kc + 1) (ks + 6) 75 _ _ SHF _
      refine AW.goto (dq rfl) (tgt := 79) (by decide) ?_
      refine fw_callVI (as := [.ref 17, .int (Int32.ofInt 3)]) (dq rfl) (pg_ok.2.2.1 129 _ _ _ _ rfl) rfl (by decide +kernel) rfl rfl (c15 h1 h5 h9 h10) (fun y14 M14 e14 q14 => ?_)
      have hJ14 : ∀ e ∈ RRS.2, M14.2.2 e.1 e.2.1 = e.2.2 := fun e he => by rw [e14]; exact hJ e he
      show AW l (pI pg 129) P (kc + 1) (ks + 6) 82 [(0, .ref 0), (1, .int (b)), (2, .int (x))] [.int (y14)] SHF _
      refine AW.iret (dq rfl) rfl ?_
      exact r16 h1 h5 h9 h10 y14 M14 e14 q14
  refine AW.tableOut (dq rfl) (tb_out2 h1 h5 h9) (tgt := 83) (by decide) ?_
  show AW l (pI pg 129) P (kc + 1) (ks + 6) 83 [(0, .ref 0), (1, .int (b)), (2, .int (x))] [] SHF _
  refine pg_ok.2.2.2.2.2.2.2.1 129 _ _ rfl _ _ _ _ _ _ _ ?_
  exact x17 h1 h5 h9

theorem fiJ42_0 {l : aL} {P : aP} {kc ks : Nat} {f : Int64} {M : aM}  (hl0 : l.1.stackTraces = false) (k1 : AW l (pI pg 17) P kc ks 6 [(0, .ref 42), (1, .long (f)), (3, .int (Int32.ofInt 0)), (4, .int (Int32.ofNat 256))] [] SHF M) : AW l (pI pg 17) P kc ks 0 [(0, .ref 42), (1, .long (f))] [] SHF M := by
  refine AW.iconst (dq rfl) ?_
  show AW l (pI pg 17) P kc ks 1 _ _ SHF _
  refine AW.istore_n (dq rfl) (by decide +kernel) ?_
  show AW l (pI pg 17) P kc ks 2 [(3, .int (Int32.ofInt 0)), (0, .ref 42), (1, .long (f))] [] SHF _
  refine AW.aload_n (dq rfl) rfl rfl ?_
  show AW l (pI pg 17) P kc ks 3 _ _ SHF _
  refine AW.alen (dq rfl) rfl ?_
  show AW l (pI pg 17) P kc ks 4 _ _ SHF _
  refine AW.istore (dq rfl) (by decide +kernel) ?_
  show AW l (pI pg 17) P kc ks 6 [(4, .int (Int32.ofNat 256)), (3, .int (Int32.ofInt 0)), (0, .ref 42), (1, .long (f))] [] SHF _
  refine AW.drop (lv' := [(0, .ref 42), (1, .long (f)), (3, .int (Int32.ofInt 0)), (4, .int (Int32.ofNat 256))]) (List.forall_mem_cons.mpr ⟨List.mem_of_getElem? (i := 2) rfl, List.forall_mem_cons.mpr ⟨List.mem_of_getElem? (i := 3) rfl, List.forall_mem_cons.mpr ⟨List.mem_of_getElem? (i := 1) rfl, List.forall_mem_cons.mpr ⟨List.mem_of_getElem? (i := 0) rfl, fun _ h => absurd h List.not_mem_nil⟩⟩⟩⟩) ?_
  exact k1

theorem fiJ42_6 {l : aL} {P : aP} {kc ks : Nat} {i : Nat} {f : Int64} {M : aM}  (hl0 : l.1.stackTraces = false) (r2 : ∀ (h1 : (Int32.ofNat 256 : Int32) ≤ (nI i : Int32)), P (.inl none) SHF M) (o3 : ∀ (h1 : ¬ ((Int32.ofNat 256 : Int32) ≤ (nI i : Int32))), vp_in (nI i) 256) (k4 : ∀ (h1 : ¬ ((Int32.ofNat 256 : Int32) ≤ (nI i : Int32))), AW l (pI pg 17) P kc ks 6 [(0, .ref 42), (1, .long (f)), (3, .int ((nI i) + Int32.ofInt 1)), (4, .int (Int32.ofNat 256))] [] SHF (aset M 42 (nI i).toNatClampNeg (.long (f)))) : AW l (pI pg 17) P kc ks 6 [(0, .ref 42), (1, .long (f)), (3, .int (nI i)), (4, .int (Int32.ofNat 256))] [] SHF M := by
  refine AW.iload_n (dq rfl) rfl ?_
  show AW l (pI pg 17) P kc ks 7 _ _ SHF _
  refine AW.iload (dq rfl) rfl ?_
  show AW l (pI pg 17) P kc ks 9 _ _ SHF _
  refine AW.icmp_ge (dq rfl) (tgt := 22) (by decide) (fun h1 => ?_) (fun h1 => ?_)
  · have _ := h1
    refine AW.vret (dq rfl) rfl ?_
    exact r2 h1
  · have _ := h1
    refine AW.aload_n (dq rfl) rfl rfl ?_
    show AW l (pI pg 17) P kc ks 13 _ _ SHF _
    refine AW.iload_n (dq rfl) rfl ?_
    show AW l (pI pg 17) P kc ks 14 _ _ SHF _
    refine AW.lload_n (dq rfl) rfl ?_
    show AW l (pI pg 17) P kc ks 15 _ _ SHF _
    refine AW.last (by decide) (dq rfl) rfl (o3 h1) ?_
    show AW l (pI pg 17) P kc ks 16 _ _ SHF _
    refine AW.iinc (dq rfl) rfl (by decide +kernel) ?_
    show AW l (pI pg 17) P kc ks 19 [(3, .int ((nI i) + Int32.ofInt 1)), (0, .ref 42), (1, .long (f)), (4, .int (Int32.ofNat 256))] [] SHF _
    refine AW.goto (dq rfl) (tgt := 6) (by decide) ?_
    refine AW.drop (lv' := [(0, .ref 42), (1, .long (f)), (3, .int ((nI i) + Int32.ofInt 1)), (4, .int (Int32.ofNat 256))]) (List.forall_mem_cons.mpr ⟨List.mem_of_getElem? (i := 1) rfl, List.forall_mem_cons.mpr ⟨List.mem_of_getElem? (i := 2) rfl, List.forall_mem_cons.mpr ⟨List.mem_of_getElem? (i := 0) rfl, List.forall_mem_cons.mpr ⟨List.mem_of_getElem? (i := 3) rfl, fun _ h => absurd h List.not_mem_nil⟩⟩⟩⟩) ?_
    exact k4 h1

theorem mps_0 {l : aL} {P : aP} {kc ks : Nat} {x : Int32} {M : aM} (hJ : ∀ e ∈ RM, M.2.2 e.1 e.2.1 = e.2.2) (hl0 : l.1.stackTraces = false) (k1 : AW l (pI pg 226) P kc ks 4 [(3, .int (Int32.ofInt 0)), (2, .int (Int32.ofInt 0)), (1, .int (x)), (0, .ref 58)] [] SHF M) : AW l (pI pg 226) P kc ks 0 [(0, .ref 58), (1, .int (x))] [] SHF M := by
  refine AW.iconst (dq rfl) ?_
  show AW l (pI pg 226) P kc ks 1 _ _ SHF _
  refine AW.istore_n (dq rfl) (by decide +kernel) ?_
  show AW l (pI pg 226) P kc ks 2 [(2, .int (Int32.ofInt 0)), (0, .ref 58), (1, .int (x))] [] SHF _
  refine AW.iconst (dq rfl) ?_
  show AW l (pI pg 226) P kc ks 3 _ _ SHF _
  refine AW.istore_n (dq rfl) (by decide +kernel) ?_
  show AW l (pI pg 226) P kc ks 4 [(3, .int (Int32.ofInt 0)), (2, .int (Int32.ofInt 0)), (0, .ref 58), (1, .int (x))] [] SHF _
  refine AW.drop (lv' := [(3, .int (Int32.ofInt 0)), (2, .int (Int32.ofInt 0)), (1, .int (x)), (0, .ref 58)]) (List.forall_mem_cons.mpr ⟨List.mem_of_getElem? (i := 0) rfl, List.forall_mem_cons.mpr ⟨List.mem_of_getElem? (i := 1) rfl, List.forall_mem_cons.mpr ⟨List.mem_of_getElem? (i := 3) rfl, List.forall_mem_cons.mpr ⟨List.mem_of_getElem? (i := 2) rfl, fun _ h => absurd h List.not_mem_nil⟩⟩⟩⟩) ?_
  exact k1

theorem mps_4 {l : aL} {P : aP} {kc ks : Nat} {k : Nat} {v x : Int32} {M : aM} (hJ : ∀ e ∈ RM, M.2.2 e.1 e.2.1 = e.2.2) (hl0 : l.1.stackTraces = false) (r2 : ∀ (h1 : (M.1 58 3 : Int32) ≤ (nI k : Int32)), P (.inl (some (.int (v)))) SHF M) (k4 : ∀ (h1 : ¬ ((M.1 58 3 : Int32) ≤ (nI k : Int32))), ∀ (h3 : ¬ (((x) >>> ((nI k) &&& 31)) &&& (Int32.ofInt 1) : Int32) = (Int32.ofInt 1 : Int32)), AW l (pI pg 226) P kc ks 4 [(3, .int ((nI k) + Int32.ofInt 1)), (2, .int ((v) + (Int32.ofInt 0))), (1, .int (x)), (0, .ref 58)] [] SHF M) (o5 : ∀ (h1 : ¬ ((M.1 58 3 : Int32) ≤ (nI k : Int32))), ∀ (h3 : (((x) >>> ((nI k) &&& 31)) &&& (Int32.ofInt 1) : Int32) = (Int32.ofInt 1 : Int32)), vp_in (((Int32.ofInt 4) * (nI k)) + (Int32.ofInt 3)) 32) (k6 : ∀ (h1 : ¬ ((M.1 58 3 : Int32) ≤ (nI k : Int32))), ∀ (h3 : (((x) >>> ((nI k) &&& 31)) &&& (Int32.ofInt 1) : Int32) = (Int32.ofInt 1 : Int32)), AW l (pI pg 226) P kc ks 4 [(3, .int ((nI k) + Int32.ofInt 1)), (2, .int ((v) + (M.1 64 (((Int32.ofInt 4) * (nI k)) + (Int32.ofInt 3)).toNatClampNeg))), (1, .int (x)), (0, .ref 58)] [] SHF M) : AW l (pI pg 226) P kc ks 4 [(3, .int (nI k)), (2, .int (v)), (1, .int (x)), (0, .ref 58)] [] SHF M := by
  refine AW.iload_n (dq rfl) rfl ?_
  show AW l (pI pg 226) P kc ks 5 _ _ SHF _
  refine AW.aload_n (dq rfl) rfl rfl ?_
  show AW l (pI pg 226) P kc ks 6 _ _ SHF _
  refine fw_get (dq rfl) (pg_ok.2.1 226 _ _ _ _ rfl) rfl (v := .int (M.1 58 3)) rfl ?_
  show AW l (pI pg 226) P kc ks 9 _ _ SHF _
  refine AW.icmp_ge (dq rfl) (tgt := 44) (by decide) (fun h1 => ?_) (fun h1 => ?_)
  · have _ := h1
    refine AW.iload_n (dq rfl) rfl ?_
    show AW l (pI pg 226) P kc ks 45 _ _ SHF _
    refine AW.iret (dq rfl) rfl ?_
    exact r2 h1
  · have _ := h1
    refine AW.iload_n (dq rfl) rfl ?_
    show AW l (pI pg 226) P kc ks 13 _ _ SHF _
    refine AW.iload_n (dq rfl) rfl ?_
    show AW l (pI pg 226) P kc ks 14 _ _ SHF _
    refine AW.iload_n (dq rfl) rfl ?_
    show AW l (pI pg 226) P kc ks 15 _ _ SHF _
    refine AW.ishr (dq rfl) ?_
    show AW l (pI pg 226) P kc ks 16 _ _ SHF _
    refine AW.iconst (dq rfl) ?_
    show AW l (pI pg 226) P kc ks 17 _ _ SHF _
    refine AW.iand (dq rfl) ?_
    show AW l (pI pg 226) P kc ks 18 _ _ SHF _
    refine AW.iconst (dq rfl) ?_
    show AW l (pI pg 226) P kc ks 19 _ _ SHF _
    refine AW.icmp_ne (dq rfl) (tgt := 35) (by decide) (fun h3 => ?_) (fun h3 => ?_)
    · have _ := h3
      refine AW.iconst (dq rfl) ?_
      show AW l (pI pg 226) P kc ks 36 _ _ SHF _
      refine AW.iadd (dq rfl) ?_
      show AW l (pI pg 226) P kc ks 37 _ _ SHF _
      refine AW.istore_n (dq rfl) (by decide +kernel) ?_
      show AW l (pI pg 226) P kc ks 38 [(2, .int ((v) + (Int32.ofInt 0))), (3, .int (nI k)), (1, .int (x)), (0, .ref 58)] [] SHF _
      refine AW.iinc (dq rfl) rfl (by decide +kernel) ?_
      show AW l (pI pg 226) P kc ks 41 [(3, .int ((nI k) + Int32.ofInt 1)), (2, .int ((v) + (Int32.ofInt 0))), (1, .int (x)), (0, .ref 58)] [] SHF _
      refine AW.goto (dq rfl) (tgt := 4) (by decide) ?_
      refine AW.drop (lv' := [(3, .int ((nI k) + Int32.ofInt 1)), (2, .int ((v) + (Int32.ofInt 0))), (1, .int (x)), (0, .ref 58)]) (List.forall_mem_cons.mpr ⟨List.mem_of_getElem? (i := 0) rfl, List.forall_mem_cons.mpr ⟨List.mem_of_getElem? (i := 1) rfl, List.forall_mem_cons.mpr ⟨List.mem_of_getElem? (i := 2) rfl, List.forall_mem_cons.mpr ⟨List.mem_of_getElem? (i := 3) rfl, fun _ h => absurd h List.not_mem_nil⟩⟩⟩⟩) ?_
      exact k4 h1 h3
    · have _ := h3
      refine AW.aload_n (dq rfl) rfl rfl ?_
      show AW l (pI pg 226) P kc ks 23 _ _ SHF _
      refine fw_get (dq rfl) (pg_ok.2.1 226 _ _ _ _ rfl) rfl (v := .ref 64) (isTA_ok rfl (rgR_ok hJ rfl)) ?_
      show AW l (pI pg 226) P kc ks 26 _ _ SHF _
      refine AW.iconst (dq rfl) ?_
      show AW l (pI pg 226) P kc ks 27 _ _ SHF _
      refine AW.iload_n (dq rfl) rfl ?_
      show AW l (pI pg 226) P kc ks 28 _ _ SHF _
      refine AW.imul (dq rfl) ?_
      show AW l (pI pg 226) P kc ks 29 _ _ SHF _
      refine AW.iconst (dq rfl) ?_
      show AW l (pI pg 226) P kc ks 30 _ _ SHF _
      refine AW.iadd (dq rfl) ?_
      show AW l (pI pg 226) P kc ks 31 _ _ SHF _
      refine AW.iald (dq rfl) rfl (o5 h1 h3) ?_
      show AW l (pI pg 226) P kc ks 32 _ _ SHF _
      refine AW.goto (dq rfl) (tgt := 36) (by decide) ?_
      refine AW.iadd (dq rfl) ?_
      show AW l (pI pg 226) P kc ks 37 _ _ SHF _
      refine AW.istore_n (dq rfl) (by decide +kernel) ?_
      show AW l (pI pg 226) P kc ks 38 [(2, .int ((v) + (M.1 64 (((Int32.ofInt 4) * (nI k)) + (Int32.ofInt 3)).toNatClampNeg))), (3, .int (nI k)), (1, .int (x)), (0, .ref 58)] [] SHF _
      refine AW.iinc (dq rfl) rfl (by decide +kernel) ?_
      show AW l (pI pg 226) P kc ks 41 [(3, .int ((nI k) + Int32.ofInt 1)), (2, .int ((v) + (M.1 64 (((Int32.ofInt 4) * (nI k)) + (Int32.ofInt 3)).toNatClampNeg))), (1, .int (x)), (0, .ref 58)] [] SHF _
      refine AW.goto (dq rfl) (tgt := 4) (by decide) ?_
      refine AW.drop (lv' := [(3, .int ((nI k) + Int32.ofInt 1)), (2, .int ((v) + (M.1 64 (((Int32.ofInt 4) * (nI k)) + (Int32.ofInt 3)).toNatClampNeg))), (1, .int (x)), (0, .ref 58)]) (List.forall_mem_cons.mpr ⟨List.mem_of_getElem? (i := 0) rfl, List.forall_mem_cons.mpr ⟨List.mem_of_getElem? (i := 1) rfl, List.forall_mem_cons.mpr ⟨List.mem_of_getElem? (i := 2) rfl, List.forall_mem_cons.mpr ⟨List.mem_of_getElem? (i := 3) rfl, fun _ h => absurd h List.not_mem_nil⟩⟩⟩⟩) ?_
      exact k6 h1 h3

theorem bdo_0 {l : aL} {P : aP} {kc ks : Nat} {m : Int32} {M : aM} (hJ : ∀ e ∈ RM, M.2.2 e.1 e.2.1 = e.2.2) (hl0 : l.1.stackTraces = false) (k1 : AW l (pI pg 225) P kc ks 4 [(3, .int (Int32.ofInt 0)), (2, .int (Int32.ofInt 0)), (1, .int (m)), (0, .ref 58)] [] SHF M) : AW l (pI pg 225) P kc ks 0 [(0, .ref 58), (1, .int (m))] [] SHF M := by
  refine AW.iconst (dq rfl) ?_
  show AW l (pI pg 225) P kc ks 1 _ _ SHF _
  refine AW.istore_n (dq rfl) (by decide +kernel) ?_
  show AW l (pI pg 225) P kc ks 2 [(2, .int (Int32.ofInt 0)), (0, .ref 58), (1, .int (m))] [] SHF _
  refine AW.iconst (dq rfl) ?_
  show AW l (pI pg 225) P kc ks 3 _ _ SHF _
  refine AW.istore_n (dq rfl) (by decide +kernel) ?_
  show AW l (pI pg 225) P kc ks 4 [(3, .int (Int32.ofInt 0)), (2, .int (Int32.ofInt 0)), (0, .ref 58), (1, .int (m))] [] SHF _
  refine AW.drop (lv' := [(3, .int (Int32.ofInt 0)), (2, .int (Int32.ofInt 0)), (1, .int (m)), (0, .ref 58)]) (List.forall_mem_cons.mpr ⟨List.mem_of_getElem? (i := 0) rfl, List.forall_mem_cons.mpr ⟨List.mem_of_getElem? (i := 1) rfl, List.forall_mem_cons.mpr ⟨List.mem_of_getElem? (i := 3) rfl, List.forall_mem_cons.mpr ⟨List.mem_of_getElem? (i := 2) rfl, fun _ h => absurd h List.not_mem_nil⟩⟩⟩⟩) ?_
  exact k1

theorem bdo_4 {l : aL} {P : aP} {kc ks : Nat} {w : Nat} {v m : Int32} {M : aM} (hJ : ∀ e ∈ RM, M.2.2 e.1 e.2.1 = e.2.2) (hl0 : l.1.stackTraces = false) (r2 : ∀ (h1 : (M.1 58 2 : Int32) ≤ (nI w : Int32)), P (.inl (some (.int (v)))) SHF M) (k3 : ∀ (h1 : ¬ ((M.1 58 2 : Int32) ≤ (nI w : Int32))), AW l (pI pg 225) P kc ks 18 [(5, .int (Int32.ofInt 0)), (4, .int (m)), (3, .int (nI w)), (2, .int (v)), (1, .int (m)), (0, .ref 58)] [] SHF M) : AW l (pI pg 225) P kc ks 4 [(3, .int (nI w)), (2, .int (v)), (1, .int (m)), (0, .ref 58)] [] SHF M := by
  refine AW.iload_n (dq rfl) rfl ?_
  show AW l (pI pg 225) P kc ks 5 _ _ SHF _
  refine AW.aload_n (dq rfl) rfl rfl ?_
  show AW l (pI pg 225) P kc ks 6 _ _ SHF _
  refine fw_get (dq rfl) (pg_ok.2.1 225 _ _ _ _ rfl) rfl (v := .int (M.1 58 2)) rfl ?_
  show AW l (pI pg 225) P kc ks 9 _ _ SHF _
  refine AW.icmp_ge (dq rfl) (tgt := 194) (by decide) (fun h1 => ?_) (fun h1 => ?_)
  · have _ := h1
    refine AW.iload_n (dq rfl) rfl ?_
    show AW l (pI pg 225) P kc ks 195 _ _ SHF _
    refine AW.iret (dq rfl) rfl ?_
    exact r2 h1
  · have _ := h1
    refine AW.iload_n (dq rfl) rfl ?_
    show AW l (pI pg 225) P kc ks 13 _ _ SHF _
    refine AW.istore (dq rfl) (by decide +kernel) ?_
    show AW l (pI pg 225) P kc ks 15 [(4, .int (m)), (3, .int (nI w)), (2, .int (v)), (1, .int (m)), (0, .ref 58)] [] SHF _
    refine AW.iconst (dq rfl) ?_
    show AW l (pI pg 225) P kc ks 16 _ _ SHF _
    refine AW.istore (dq rfl) (by decide +kernel) ?_
    show AW l (pI pg 225) P kc ks 18 [(5, .int (Int32.ofInt 0)), (4, .int (m)), (3, .int (nI w)), (2, .int (v)), (1, .int (m)), (0, .ref 58)] [] SHF _
    refine AW.drop (lv' := [(5, .int (Int32.ofInt 0)), (4, .int (m)), (3, .int (nI w)), (2, .int (v)), (1, .int (m)), (0, .ref 58)]) (List.forall_mem_cons.mpr ⟨List.mem_of_getElem? (i := 0) rfl, List.forall_mem_cons.mpr ⟨List.mem_of_getElem? (i := 1) rfl, List.forall_mem_cons.mpr ⟨List.mem_of_getElem? (i := 2) rfl, List.forall_mem_cons.mpr ⟨List.mem_of_getElem? (i := 3) rfl, List.forall_mem_cons.mpr ⟨List.mem_of_getElem? (i := 4) rfl, List.forall_mem_cons.mpr ⟨List.mem_of_getElem? (i := 5) rfl, fun _ h => absurd h List.not_mem_nil⟩⟩⟩⟩⟩⟩) ?_
    exact k3 h1

theorem bdo_18 {l : aL} {P : aP} {kc ks : Nat} {p w : Nat} {c v m : Int32} {M : aM} (hJ : ∀ e ∈ RM, M.2.2 e.1 e.2.1 = e.2.2) (hl0 : l.1.stackTraces = false) (k2 : ∀ (h1 : (M.1 58 1 : Int32) ≤ (nI p : Int32)), AW l (pI pg 225) P kc ks 61 [(5, .int (Int32.ofInt 0)), (4, .int (c)), (3, .int (nI w)), (2, .int (v)), (1, .int (m)), (0, .ref 58)] [] SHF M) (o3 : ∀ (h1 : ¬ ((M.1 58 1 : Int32) ≤ (nI p : Int32))), vp_in ((((Int8.ofInt 8).toInt32) * (nI p)) + (nI w)) 48) (k5 : ∀ (h1 : ¬ ((M.1 58 1 : Int32) ≤ (nI p : Int32))), ∀ (h4 : (M.1 63 ((((Int8.ofInt 8).toInt32) * (nI p)) + (nI w)).toNatClampNeg : Int32) ≤ 0), AW l (pI pg 225) P kc ks 18 [(5, .int ((nI p) + Int32.ofInt 1)), (4, .int ((c) - (Int32.ofInt 0))), (3, .int (nI w)), (2, .int (v)), (1, .int (m)), (0, .ref 58)] [] SHF M) (k6 : ∀ (h1 : ¬ ((M.1 58 1 : Int32) ≤ (nI p : Int32))), ∀ (h4 : ¬ ((M.1 63 ((((Int8.ofInt 8).toInt32) * (nI p)) + (nI w)).toNatClampNeg : Int32) ≤ 0)), AW l (pI pg 225) P kc ks 18 [(5, .int ((nI p) + Int32.ofInt 1)), (4, .int ((c) - (Int32.ofInt 1))), (3, .int (nI w)), (2, .int (v)), (1, .int (m)), (0, .ref 58)] [] SHF M) : AW l (pI pg 225) P kc ks 18 [(5, .int (nI p)), (4, .int (c)), (3, .int (nI w)), (2, .int (v)), (1, .int (m)), (0, .ref 58)] [] SHF M := by
  refine AW.iload (dq rfl) rfl ?_
  show AW l (pI pg 225) P kc ks 20 _ _ SHF _
  refine AW.aload_n (dq rfl) rfl rfl ?_
  show AW l (pI pg 225) P kc ks 21 _ _ SHF _
  refine fw_get (dq rfl) (pg_ok.2.1 225 _ _ _ _ rfl) rfl (v := .int (M.1 58 1)) rfl ?_
  show AW l (pI pg 225) P kc ks 24 _ _ SHF _
  refine AW.icmp_ge (dq rfl) (tgt := 58) (by decide) (fun h1 => ?_) (fun h1 => ?_)
  · have _ := h1
    refine AW.iconst (dq rfl) ?_
    show AW l (pI pg 225) P kc ks 59 _ _ SHF _
    refine AW.istore (dq rfl) (by decide +kernel) ?_
    show AW l (pI pg 225) P kc ks 61 [(5, .int (Int32.ofInt 0)), (4, .int (c)), (3, .int (nI w)), (2, .int (v)), (1, .int (m)), (0, .ref 58)] [] SHF _
    refine AW.drop (lv' := [(5, .int (Int32.ofInt 0)), (4, .int (c)), (3, .int (nI w)), (2, .int (v)), (1, .int (m)), (0, .ref 58)]) (List.forall_mem_cons.mpr ⟨List.mem_of_getElem? (i := 0) rfl, List.forall_mem_cons.mpr ⟨List.mem_of_getElem? (i := 1) rfl, List.forall_mem_cons.mpr ⟨List.mem_of_getElem? (i := 2) rfl, List.forall_mem_cons.mpr ⟨List.mem_of_getElem? (i := 3) rfl, List.forall_mem_cons.mpr ⟨List.mem_of_getElem? (i := 4) rfl, List.forall_mem_cons.mpr ⟨List.mem_of_getElem? (i := 5) rfl, fun _ h => absurd h List.not_mem_nil⟩⟩⟩⟩⟩⟩) ?_
    exact k2 h1
  · have _ := h1
    refine AW.iload (dq rfl) rfl ?_
    show AW l (pI pg 225) P kc ks 29 _ _ SHF _
    refine AW.aload_n (dq rfl) rfl rfl ?_
    show AW l (pI pg 225) P kc ks 30 _ _ SHF _
    refine fw_get (dq rfl) (pg_ok.2.1 225 _ _ _ _ rfl) rfl (v := .ref 63) (isTA_ok rfl (rgR_ok hJ rfl)) ?_
    show AW l (pI pg 225) P kc ks 33 _ _ SHF _
    refine AW.bipush (dq rfl) ?_
    show AW l (pI pg 225) P kc ks 35 _ _ SHF _
    refine AW.iload (dq rfl) rfl ?_
    show AW l (pI pg 225) P kc ks 37 _ _ SHF _
    refine AW.imul (dq rfl) ?_
    show AW l (pI pg 225) P kc ks 38 _ _ SHF _
    refine AW.iload_n (dq rfl) rfl ?_
    show AW l (pI pg 225) P kc ks 39 _ _ SHF _
    refine AW.iadd (dq rfl) ?_
    show AW l (pI pg 225) P kc ks 40 _ _ SHF _
    refine AW.iald (dq rfl) rfl (o3 h1) ?_
    show AW l (pI pg 225) P kc ks 41 _ _ SHF _
    refine AW.if_le (dq rfl) (tgt := 48) (by decide) (fun h4 => ?_) (fun h4 => ?_)
    · have _ := h4
      refine AW.iconst (dq rfl) ?_
      show AW l (pI pg 225) P kc ks 49 _ _ SHF _
      refine AW.isub (dq rfl) ?_
      show AW l (pI pg 225) P kc ks 50 _ _ SHF _
      refine AW.istore (dq rfl) (by decide +kernel) ?_
      show AW l (pI pg 225) P kc ks 52 [(4, .int ((c) - (Int32.ofInt 0))), (5, .int (nI p)), (3, .int (nI w)), (2, .int (v)), (1, .int (m)), (0, .ref 58)] [] SHF _
      refine AW.iinc (dq rfl) rfl (by decide +kernel) ?_
      show AW l (pI pg 225) P kc ks 55 [(5, .int ((nI p) + Int32.ofInt 1)), (4, .int ((c) - (Int32.ofInt 0))), (3, .int (nI w)), (2, .int (v)), (1, .int (m)), (0, .ref 58)] [] SHF _
      refine AW.goto (dq rfl) (tgt := 18) (by decide) ?_
      refine AW.drop (lv' := [(5, .int ((nI p) + Int32.ofInt 1)), (4, .int ((c) - (Int32.ofInt 0))), (3, .int (nI w)), (2, .int (v)), (1, .int (m)), (0, .ref 58)]) (List.forall_mem_cons.mpr ⟨List.mem_of_getElem? (i := 0) rfl, List.forall_mem_cons.mpr ⟨List.mem_of_getElem? (i := 1) rfl, List.forall_mem_cons.mpr ⟨List.mem_of_getElem? (i := 2) rfl, List.forall_mem_cons.mpr ⟨List.mem_of_getElem? (i := 3) rfl, List.forall_mem_cons.mpr ⟨List.mem_of_getElem? (i := 4) rfl, List.forall_mem_cons.mpr ⟨List.mem_of_getElem? (i := 5) rfl, fun _ h => absurd h List.not_mem_nil⟩⟩⟩⟩⟩⟩) ?_
      exact k5 h1 h4
    · have _ := h4
      refine AW.iconst (dq rfl) ?_
      show AW l (pI pg 225) P kc ks 45 _ _ SHF _
      refine AW.goto (dq rfl) (tgt := 49) (by decide) ?_
      refine AW.isub (dq rfl) ?_
      show AW l (pI pg 225) P kc ks 50 _ _ SHF _
      refine AW.istore (dq rfl) (by decide +kernel) ?_
      show AW l (pI pg 225) P kc ks 52 [(4, .int ((c) - (Int32.ofInt 1))), (5, .int (nI p)), (3, .int (nI w)), (2, .int (v)), (1, .int (m)), (0, .ref 58)] [] SHF _
      refine AW.iinc (dq rfl) rfl (by decide +kernel) ?_
      show AW l (pI pg 225) P kc ks 55 [(5, .int ((nI p) + Int32.ofInt 1)), (4, .int ((c) - (Int32.ofInt 1))), (3, .int (nI w)), (2, .int (v)), (1, .int (m)), (0, .ref 58)] [] SHF _
      refine AW.goto (dq rfl) (tgt := 18) (by decide) ?_
      refine AW.drop (lv' := [(5, .int ((nI p) + Int32.ofInt 1)), (4, .int ((c) - (Int32.ofInt 1))), (3, .int (nI w)), (2, .int (v)), (1, .int (m)), (0, .ref 58)]) (List.forall_mem_cons.mpr ⟨List.mem_of_getElem? (i := 0) rfl, List.forall_mem_cons.mpr ⟨List.mem_of_getElem? (i := 1) rfl, List.forall_mem_cons.mpr ⟨List.mem_of_getElem? (i := 2) rfl, List.forall_mem_cons.mpr ⟨List.mem_of_getElem? (i := 3) rfl, List.forall_mem_cons.mpr ⟨List.mem_of_getElem? (i := 4) rfl, List.forall_mem_cons.mpr ⟨List.mem_of_getElem? (i := 5) rfl, fun _ h => absurd h List.not_mem_nil⟩⟩⟩⟩⟩⟩) ?_
      exact k6 h1 h4

theorem bdo_61 {l : aL} {P : aP} {kc ks : Nat} {w : Nat} {u c v m : Int32} {M : aM} (hJ : ∀ e ∈ RM, M.2.2 e.1 e.2.1 = e.2.2) (hl0 : l.1.stackTraces = false) (k2 : ∀ (h1 : (c : Int32) ≤ 0), AW l (pI pg 225) P kc ks 4 [(3, .int ((nI w) + Int32.ofInt 1)), (2, .int (v)), (1, .int (m)), (0, .ref 58)] [] SHF M) (k3 : ∀ (h1 : ¬ ((c : Int32) ≤ 0)), AW l (pI pg 225) P kc ks 72 [(7, .int (Int32.ofInt 0)), (6, .int (Int32.ofInt (-1))), (5, .int (u)), (4, .int (c)), (3, .int (nI w)), (2, .int (v)), (1, .int (m)), (0, .ref 58)] [] SHF M) : AW l (pI pg 225) P kc ks 61 [(5, .int (u)), (4, .int (c)), (3, .int (nI w)), (2, .int (v)), (1, .int (m)), (0, .ref 58)] [] SHF M := by
  refine AW.iload (dq rfl) rfl ?_
  show AW l (pI pg 225) P kc ks 63 _ _ SHF _
  refine AW.if_le (dq rfl) (tgt := 188) (by decide) (fun h1 => ?_) (fun h1 => ?_)
  · have _ := h1
    refine AW.iinc (dq rfl) rfl (by decide +kernel) ?_
    show AW l (pI pg 225) P kc ks 191 [(3, .int ((nI w) + Int32.ofInt 1)), (5, .int (u)), (4, .int (c)), (2, .int (v)), (1, .int (m)), (0, .ref 58)] [] SHF _
    refine AW.goto (dq rfl) (tgt := 4) (by decide) ?_
    refine AW.drop (lv' := [(3, .int ((nI w) + Int32.ofInt 1)), (2, .int (v)), (1, .int (m)), (0, .ref 58)]) (List.forall_mem_cons.mpr ⟨List.mem_of_getElem? (i := 0) rfl, List.forall_mem_cons.mpr ⟨List.mem_of_getElem? (i := 3) rfl, List.forall_mem_cons.mpr ⟨List.mem_of_getElem? (i := 4) rfl, List.forall_mem_cons.mpr ⟨List.mem_of_getElem? (i := 5) rfl, fun _ h => absurd h List.not_mem_nil⟩⟩⟩⟩) ?_
    exact k2 h1
  · have _ := h1
    refine AW.iconst (dq rfl) ?_
    show AW l (pI pg 225) P kc ks 67 _ _ SHF _
    refine AW.istore (dq rfl) (by decide +kernel) ?_
    show AW l (pI pg 225) P kc ks 69 [(6, .int (Int32.ofInt (-1))), (5, .int (u)), (4, .int (c)), (3, .int (nI w)), (2, .int (v)), (1, .int (m)), (0, .ref 58)] [] SHF _
    refine AW.iconst (dq rfl) ?_
    show AW l (pI pg 225) P kc ks 70 _ _ SHF _
    refine AW.istore (dq rfl) (by decide +kernel) ?_
    show AW l (pI pg 225) P kc ks 72 [(7, .int (Int32.ofInt 0)), (6, .int (Int32.ofInt (-1))), (5, .int (u)), (4, .int (c)), (3, .int (nI w)), (2, .int (v)), (1, .int (m)), (0, .ref 58)] [] SHF _
    refine AW.drop (lv' := [(7, .int (Int32.ofInt 0)), (6, .int (Int32.ofInt (-1))), (5, .int (u)), (4, .int (c)), (3, .int (nI w)), (2, .int (v)), (1, .int (m)), (0, .ref 58)]) (List.forall_mem_cons.mpr ⟨List.mem_of_getElem? (i := 0) rfl, List.forall_mem_cons.mpr ⟨List.mem_of_getElem? (i := 1) rfl, List.forall_mem_cons.mpr ⟨List.mem_of_getElem? (i := 2) rfl, List.forall_mem_cons.mpr ⟨List.mem_of_getElem? (i := 3) rfl, List.forall_mem_cons.mpr ⟨List.mem_of_getElem? (i := 4) rfl, List.forall_mem_cons.mpr ⟨List.mem_of_getElem? (i := 5) rfl, List.forall_mem_cons.mpr ⟨List.mem_of_getElem? (i := 6) rfl, List.forall_mem_cons.mpr ⟨List.mem_of_getElem? (i := 7) rfl, fun _ h => absurd h List.not_mem_nil⟩⟩⟩⟩⟩⟩⟩⟩) ?_
    exact k3 h1

theorem bdo_72 {l : aL} {P : aP} {kc ks : Nat} {k w : Nat} {b u c v m : Int32} {M : aM} (hJ : ∀ e ∈ RM, M.2.2 e.1 e.2.1 = e.2.2) (hl0 : l.1.stackTraces = false) (o3 : ∀ (h1 : (M.1 58 3 : Int32) ≤ (nI k : Int32)), ∀ (h2 : ¬ (b : Int32) = (Int32.ofInt (-1) : Int32)), vp_in (((Int32.ofInt 4) * (b)) + (Int32.ofInt 3)) 32) (k4 : ∀ (h1 : (M.1 58 3 : Int32) ≤ (nI k : Int32)), ∀ (h2 : ¬ (b : Int32) = (Int32.ofInt (-1) : Int32)), AW l (pI pg 225) P kc ks 61 [(5, .int ((u) ||| ((Int32.ofInt 1) <<< ((b) &&& 31)))), (4, .int ((c) + Int32.ofInt (-1))), (3, .int (nI w)), (2, .int ((v) + (M.1 64 (((Int32.ofInt 4) * (b)) + (Int32.ofInt 3)).toNatClampNeg))), (1, .int (m)), (0, .ref 58)] [] SHF M) (r5 : ∀ (h1 : (M.1 58 3 : Int32) ≤ (nI k : Int32)), ∀ (h2 : (b : Int32) = (Int32.ofInt (-1) : Int32)), P (.inl (some (.int (Int32.ofInt (-1))))) SHF M) (o6 : ∀ (h1 : ¬ ((M.1 58 3 : Int32) ≤ (nI k : Int32))), vp_in (((Int32.ofInt 4) * (nI k)) + (Int32.ofInt 1)) 32) (k8 : ∀ (h1 : ¬ ((M.1 58 3 : Int32) ≤ (nI k : Int32))), ∀ (h7 : ¬ (M.1 64 (((Int32.ofInt 4) * (nI k)) + (Int32.ofInt 1)).toNatClampNeg : Int32) = (nI w : Int32)), AW l (pI pg 225) P kc ks 72 [(7, .int ((nI k) + Int32.ofInt 1)), (6, .int (b)), (5, .int (u)), (4, .int (c)), (3, .int (nI w)), (2, .int (v)), (1, .int (m)), (0, .ref 58)] [] SHF M) (k11 : ∀ (h1 : ¬ ((M.1 58 3 : Int32) ≤ (nI k : Int32))), ∀ (h7 : (M.1 64 (((Int32.ofInt 4) * (nI k)) + (Int32.ofInt 1)).toNatClampNeg : Int32) = (nI w : Int32)), ∀ (h9 : ¬ (((u) >>> ((nI k) &&& 31)) &&& (Int32.ofInt 1) : Int32) = (Int32.ofInt 1 : Int32)), ∀ (h10 : (b : Int32) = (Int32.ofInt (-1) : Int32)), AW l (pI pg 225) P kc ks 72 [(7, .int ((nI k) + Int32.ofInt 1)), (6, .int (nI k)), (5, .int (u)), (4, .int (c)), (3, .int (nI w)), (2, .int (v)), (1, .int (m)), (0, .ref 58)] [] SHF M) (o12 : ∀ (h1 : ¬ ((M.1 58 3 : Int32) ≤ (nI k : Int32))), ∀ (h7 : (M.1 64 (((Int32.ofInt 4) * (nI k)) + (Int32.ofInt 1)).toNatClampNeg : Int32) = (nI w : Int32)), ∀ (h9 : ¬ (((u) >>> ((nI k) &&& 31)) &&& (Int32.ofInt 1) : Int32) = (Int32.ofInt 1 : Int32)), ∀ (h10 : ¬ ((b : Int32) = (Int32.ofInt (-1) : Int32))), vp_in (((Int32.ofInt 4) * (nI k)) + (Int32.ofInt 3)) 32) (o13 : ∀ (h1 : ¬ ((M.1 58 3 : Int32) ≤ (nI k : Int32))), ∀ (h7 : (M.1 64 (((Int32.ofInt 4) * (nI k)) + (Int32.ofInt 1)).toNatClampNeg : Int32) = (nI w : Int32)), ∀ (h9 : ¬ (((u) >>> ((nI k) &&& 31)) &&& (Int32.ofInt 1) : Int32) = (Int32.ofInt 1 : Int32)), ∀ (h10 : ¬ ((b : Int32) = (Int32.ofInt (-1) : Int32))), vp_in (((Int32.ofInt 4) * (b)) + (Int32.ofInt 3)) 32) (k15 : ∀ (h1 : ¬ ((M.1 58 3 : Int32) ≤ (nI k : Int32))), ∀ (h7 : (M.1 64 (((Int32.ofInt 4) * (nI k)) + (Int32.ofInt 1)).toNatClampNeg : Int32) = (nI w : Int32)), ∀ (h9 : ¬ (((u) >>> ((nI k) &&& 31)) &&& (Int32.ofInt 1) : Int32) = (Int32.ofInt 1 : Int32)), ∀ (h10 : ¬ ((b : Int32) = (Int32.ofInt (-1) : Int32))), ∀ (h14 : (M.1 64 (((Int32.ofInt 4) * (b)) + (Int32.ofInt 3)).toNatClampNeg : Int32) ≤ (M.1 64 (((Int32.ofInt 4) * (nI k)) + (Int32.ofInt 3)).toNatClampNeg : Int32)), AW l (pI pg 225) P kc ks 72 [(7, .int ((nI k) + Int32.ofInt 1)), (6, .int (b)), (5, .int (u)), (4, .int (c)), (3, .int (nI w)), (2, .int (v)), (1, .int (m)), (0, .ref 58)] [] SHF M) (k16 : ∀ (h1 : ¬ ((M.1 58 3 : Int32) ≤ (nI k : Int32))), ∀ (h7 : (M.1 64 (((Int32.ofInt 4) * (nI k)) + (Int32.ofInt 1)).toNatClampNeg : Int32) = (nI w : Int32)), ∀ (h9 : ¬ (((u) >>> ((nI k) &&& 31)) &&& (Int32.ofInt 1) : Int32) = (Int32.ofInt 1 : Int32)), ∀ (h10 : ¬ ((b : Int32) = (Int32.ofInt (-1) : Int32))), ∀ (h14 : ¬ ((M.1 64 (((Int32.ofInt 4) * (b)) + (Int32.ofInt 3)).toNatClampNeg : Int32) ≤ (M.1 64 (((Int32.ofInt 4) * (nI k)) + (Int32.ofInt 3)).toNatClampNeg : Int32))), AW l (pI pg 225) P kc ks 72 [(7, .int ((nI k) + Int32.ofInt 1)), (6, .int (nI k)), (5, .int (u)), (4, .int (c)), (3, .int (nI w)), (2, .int (v)), (1, .int (m)), (0, .ref 58)] [] SHF M) (k17 : ∀ (h1 : ¬ ((M.1 58 3 : Int32) ≤ (nI k : Int32))), ∀ (h7 : (M.1 64 (((Int32.ofInt 4) * (nI k)) + (Int32.ofInt 1)).toNatClampNeg : Int32) = (nI w : Int32)), ∀ (h9 : (((u) >>> ((nI k) &&& 31)) &&& (Int32.ofInt 1) : Int32) = (Int32.ofInt 1 : Int32)), AW l (pI pg 225) P kc ks 72 [(7, .int ((nI k) + Int32.ofInt 1)), (6, .int (b)), (5, .int (u)), (4, .int (c)), (3, .int (nI w)), (2, .int (v)), (1, .int (m)), (0, .ref 58)] [] SHF M) : AW l (pI pg 225) P kc ks 72 [(7, .int (nI k)), (6, .int (b)), (5, .int (u)), (4, .int (c)), (3, .int (nI w)), (2, .int (v)), (1, .int (m)), (0, .ref 58)] [] SHF M := by
  refine AW.iload (dq rfl) rfl ?_
  show AW l (pI pg 225) P kc ks 74 _ _ SHF _
  refine AW.aload_n (dq rfl) rfl rfl ?_
  show AW l (pI pg 225) P kc ks 75 _ _ SHF _
  refine fw_get (dq rfl) (pg_ok.2.1 225 _ _ _ _ rfl) rfl (v := .int (M.1 58 3)) rfl ?_
  show AW l (pI pg 225) P kc ks 78 _ _ SHF _
  refine AW.icmp_ge (dq rfl) (tgt := 151) (by decide) (fun h1 => ?_) (fun h1 => ?_)
  · have _ := h1
    refine AW.iload (dq rfl) rfl ?_
    show AW l (pI pg 225) P kc ks 153 _ _ SHF _
    refine AW.iconst (dq rfl) ?_
    show AW l (pI pg 225) P kc ks 154 _ _ SHF _
    refine AW.icmp_ne (dq rfl) (tgt := 159) (by decide) (fun h2 => ?_) (fun h2 => ?_)
    · have _ := h2
      refine AW.iload (dq rfl) rfl ?_
      show AW l (pI pg 225) P kc ks 161 _ _ SHF _
      refine AW.iconst (dq rfl) ?_
      show AW l (pI pg 225) P kc ks 162 _ _ SHF _
      refine AW.iload (dq rfl) rfl ?_
      show AW l (pI pg 225) P kc ks 164 _ _ SHF _
      refine AW.ishl (dq rfl) ?_
      show AW l (pI pg 225) P kc ks 165 _ _ SHF _
      refine AW.ior (dq rfl) ?_
      show AW l (pI pg 225) P kc ks 166 _ _ SHF _
      refine AW.istore (dq rfl) (by decide +kernel) ?_
      show AW l (pI pg 225) P kc ks 168 [(5, .int ((u) ||| ((Int32.ofInt 1) <<< ((b) &&& 31)))), (7, .int (nI k)), (6, .int (b)), (4, .int (c)), (3, .int (nI w)), (2, .int (v)), (1, .int (m)), (0, .ref 58)] [] SHF _
      refine AW.iload_n (dq rfl) rfl ?_
      show AW l (pI pg 225) P kc ks 169 _ _ SHF _
      refine AW.aload_n (dq rfl) rfl rfl ?_
      show AW l (pI pg 225) P kc ks 170 _ _ SHF _
      refine fw_get (dq rfl) (pg_ok.2.1 225 _ _ _ _ rfl) rfl (v := .ref 64) (isTA_ok rfl (rgR_ok hJ rfl)) ?_
      show AW l (pI pg 225) P kc ks 173 _ _ SHF _
      refine AW.iconst (dq rfl) ?_
      show AW l (pI pg 225) P kc ks 174 _ _ SHF _
      refine AW.iload (dq rfl) rfl ?_
      show AW l (pI pg 225) P kc ks 176 _ _ SHF _
      refine AW.imul (dq rfl) ?_
      show AW l (pI pg 225) P kc ks 177 _ _ SHF _
      refine AW.iconst (dq rfl) ?_
      show AW l (pI pg 225) P kc ks 178 _ _ SHF _
      refine AW.iadd (dq rfl) ?_
      show AW l (pI pg 225) P kc ks 179 _ _ SHF _
      refine AW.iald (dq rfl) rfl (o3 h1 h2) ?_
      show AW l (pI pg 225) P kc ks 180 _ _ SHF _
      refine AW.iadd (dq rfl) ?_
      show AW l (pI pg 225) P kc ks 181 _ _ SHF _
      refine AW.istore_n (dq rfl) (by decide +kernel) ?_
      show AW l (pI pg 225) P kc ks 182 [(2, .int ((v) + (M.1 64 (((Int32.ofInt 4) * (b)) + (Int32.ofInt 3)).toNatClampNeg))), (5, .int ((u) ||| ((Int32.ofInt 1) <<< ((b) &&& 31)))), (7, .int (nI k)), (6, .int (b)), (4, .int (c)), (3, .int (nI w)), (1, .int (m)), (0, .ref 58)] [] SHF _
      refine AW.iinc (dq rfl) rfl (by decide +kernel) ?_
      show AW l (pI pg 225) P kc ks 185 [(4, .int ((c) + Int32.ofInt (-1))), (2, .int ((v) + (M.1 64 (((Int32.ofInt 4) * (b)) + (Int32.ofInt 3)).toNatClampNeg))), (5, .int ((u) ||| ((Int32.ofInt 1) <<< ((b) &&& 31)))), (7, .int (nI k)), (6, .int (b)), (3, .int (nI w)), (1, .int (m)), (0, .ref 58)] [] SHF _
      refine AW.goto (dq rfl) (tgt := 61) (by decide) ?_
      refine AW.drop (lv' := [(5, .int ((u) ||| ((Int32.ofInt 1) <<< ((b) &&& 31)))), (4, .int ((c) + Int32.ofInt (-1))), (3, .int (nI w)), (2, .int ((v) + (M.1 64 (((Int32.ofInt 4) * (b)) + (Int32.ofInt 3)).toNatClampNeg))), (1, .int (m)), (0, .ref 58)]) (List.forall_mem_cons.mpr ⟨List.mem_of_getElem? (i := 2) rfl, List.forall_mem_cons.mpr ⟨List.mem_of_getElem? (i := 0) rfl, List.forall_mem_cons.mpr ⟨List.mem_of_getElem? (i := 5) rfl, List.forall_mem_cons.mpr ⟨List.mem_of_getElem? (i := 1) rfl, List.forall_mem_cons.mpr ⟨List.mem_of_getElem? (i := 6) rfl, List.forall_mem_cons.mpr ⟨List.mem_of_getElem? (i := 7) rfl, fun _ h => absurd h List.not_mem_nil⟩⟩⟩⟩⟩⟩) ?_
      exact k4 h1 h2
    · have _ := h2
      refine AW.iconst (dq rfl) ?_
      show AW l (pI pg 225) P kc ks 158 _ _ SHF _
      refine AW.iret (dq rfl) rfl ?_
      exact r5 h1 h2
  · have _ := h1
    refine AW.aload_n (dq rfl) rfl rfl ?_
    show AW l (pI pg 225) P kc ks 82 _ _ SHF _
    refine fw_get (dq rfl) (pg_ok.2.1 225 _ _ _ _ rfl) rfl (v := .ref 64) (isTA_ok rfl (rgR_ok hJ rfl)) ?_
    show AW l (pI pg 225) P kc ks 85 _ _ SHF _
    refine AW.iconst (dq rfl) ?_
    show AW l (pI pg 225) P kc ks 86 _ _ SHF _
    refine AW.iload (dq rfl) rfl ?_
    show AW l (pI pg 225) P kc ks 88 _ _ SHF _
    refine AW.imul (dq rfl) ?_
    show AW l (pI pg 225) P kc ks 89 _ _ SHF _
    refine AW.iconst (dq rfl) ?_
    show AW l (pI pg 225) P kc ks 90 _ _ SHF _
    refine AW.iadd (dq rfl) ?_
    show AW l (pI pg 225) P kc ks 91 _ _ SHF _
    refine AW.iald (dq rfl) rfl (o6 h1) ?_
    show AW l (pI pg 225) P kc ks 92 _ _ SHF _
    refine AW.iload_n (dq rfl) rfl ?_
    show AW l (pI pg 225) P kc ks 93 _ _ SHF _
    refine AW.icmp_ne (dq rfl) (tgt := 145) (by decide) (fun h7 => ?_) (fun h7 => ?_)
    · have _ := h7
      refine AW.iinc (dq rfl) rfl (by decide +kernel) ?_
      show AW l (pI pg 225) P kc ks 148 [(7, .int ((nI k) + Int32.ofInt 1)), (6, .int (b)), (5, .int (u)), (4, .int (c)), (3, .int (nI w)), (2, .int (v)), (1, .int (m)), (0, .ref 58)] [] SHF _
      refine AW.goto (dq rfl) (tgt := 72) (by decide) ?_
      refine AW.drop (lv' := [(7, .int ((nI k) + Int32.ofInt 1)), (6, .int (b)), (5, .int (u)), (4, .int (c)), (3, .int (nI w)), (2, .int (v)), (1, .int (m)), (0, .ref 58)]) (List.forall_mem_cons.mpr ⟨List.mem_of_getElem? (i := 0) rfl, List.forall_mem_cons.mpr ⟨List.mem_of_getElem? (i := 1) rfl, List.forall_mem_cons.mpr ⟨List.mem_of_getElem? (i := 2) rfl, List.forall_mem_cons.mpr ⟨List.mem_of_getElem? (i := 3) rfl, List.forall_mem_cons.mpr ⟨List.mem_of_getElem? (i := 4) rfl, List.forall_mem_cons.mpr ⟨List.mem_of_getElem? (i := 5) rfl, List.forall_mem_cons.mpr ⟨List.mem_of_getElem? (i := 6) rfl, List.forall_mem_cons.mpr ⟨List.mem_of_getElem? (i := 7) rfl, fun _ h => absurd h List.not_mem_nil⟩⟩⟩⟩⟩⟩⟩⟩) ?_
      exact k8 h1 h7
    · have _ := h7
      refine AW.iload (dq rfl) rfl ?_
      show AW l (pI pg 225) P kc ks 98 _ _ SHF _
      refine AW.iload (dq rfl) rfl ?_
      show AW l (pI pg 225) P kc ks 100 _ _ SHF _
      refine AW.ishr (dq rfl) ?_
      show AW l (pI pg 225) P kc ks 101 _ _ SHF _
      refine AW.iconst (dq rfl) ?_
      show AW l (pI pg 225) P kc ks 102 _ _ SHF _
      refine AW.iand (dq rfl) ?_
      show AW l (pI pg 225) P kc ks 103 _ _ SHF _
      refine AW.iconst (dq rfl) ?_
      show AW l (pI pg 225) P kc ks 104 _ _ SHF _
      refine AW.icmp_ne (dq rfl) (tgt := 110) (by decide) (fun h9 => ?_) (fun h9 => ?_)
      · have _ := h9
        refine AW.iload (dq rfl) rfl ?_
        show AW l (pI pg 225) P kc ks 112 _ _ SHF _
        refine AW.iconst (dq rfl) ?_
        show AW l (pI pg 225) P kc ks 113 _ _ SHF _
        refine AW.icmp_eq (dq rfl) (tgt := 141) (by decide) (fun h10 => ?_) (fun h10 => ?_)
        · have _ := h10
          refine AW.iload (dq rfl) rfl ?_
          show AW l (pI pg 225) P kc ks 143 _ _ SHF _
          refine AW.istore (dq rfl) (by decide +kernel) ?_
          show AW l (pI pg 225) P kc ks 145 [(6, .int (nI k)), (7, .int (nI k)), (5, .int (u)), (4, .int (c)), (3, .int (nI w)), (2, .int (v)), (1, .int (m)), (0, .ref 58)] [] SHF _
          refine AW.iinc (dq rfl) rfl (by decide +kernel) ?_
          show AW l (pI pg 225) P kc ks 148 [(7, .int ((nI k) + Int32.ofInt 1)), (6, .int (nI k)), (5, .int (u)), (4, .int (c)), (3, .int (nI w)), (2, .int (v)), (1, .int (m)), (0, .ref 58)] [] SHF _
          refine AW.goto (dq rfl) (tgt := 72) (by decide) ?_
          refine AW.drop (lv' := [(7, .int ((nI k) + Int32.ofInt 1)), (6, .int (nI k)), (5, .int (u)), (4, .int (c)), (3, .int (nI w)), (2, .int (v)), (1, .int (m)), (0, .ref 58)]) (List.forall_mem_cons.mpr ⟨List.mem_of_getElem? (i := 0) rfl, List.forall_mem_cons.mpr ⟨List.mem_of_getElem? (i := 1) rfl, List.forall_mem_cons.mpr ⟨List.mem_of_getElem? (i := 2) rfl, List.forall_mem_cons.mpr ⟨List.mem_of_getElem? (i := 3) rfl, List.forall_mem_cons.mpr ⟨List.mem_of_getElem? (i := 4) rfl, List.forall_mem_cons.mpr ⟨List.mem_of_getElem? (i := 5) rfl, List.forall_mem_cons.mpr ⟨List.mem_of_getElem? (i := 6) rfl, List.forall_mem_cons.mpr ⟨List.mem_of_getElem? (i := 7) rfl, fun _ h => absurd h List.not_mem_nil⟩⟩⟩⟩⟩⟩⟩⟩) ?_
          exact k11 h1 h7 h9 h10
        · have _ := h10
          refine AW.aload_n (dq rfl) rfl rfl ?_
          show AW l (pI pg 225) P kc ks 117 _ _ SHF _
          refine fw_get (dq rfl) (pg_ok.2.1 225 _ _ _ _ rfl) rfl (v := .ref 64) (isTA_ok rfl (rgR_ok hJ rfl)) ?_
          show AW l (pI pg 225) P kc ks 120 _ _ SHF _
          refine AW.iconst (dq rfl) ?_
          show AW l (pI pg 225) P kc ks 121 _ _ SHF _
          refine AW.iload (dq rfl) rfl ?_
          show AW l (pI pg 225) P kc ks 123 _ _ SHF _
          refine AW.imul (dq rfl) ?_
          show AW l (pI pg 225) P kc ks 124 _ _ SHF _
          refine AW.iconst (dq rfl) ?_
          show AW l (pI pg 225) P kc ks 125 _ _ SHF _
          refine AW.iadd (dq rfl) ?_
          show AW l (pI pg 225) P kc ks 126 _ _ SHF _
          refine AW.iald (dq rfl) rfl (o12 h1 h7 h9 h10) ?_
          show AW l (pI pg 225) P kc ks 127 _ _ SHF _
          refine AW.aload_n (dq rfl) rfl rfl ?_
          show AW l (pI pg 225) P kc ks 128 _ _ SHF _
          refine fw_get (dq rfl) (pg_ok.2.1 225 _ _ _ _ rfl) rfl (v := .ref 64) (isTA_ok rfl (rgR_ok hJ rfl)) ?_
          show AW l (pI pg 225) P kc ks 131 _ _ SHF _
          refine AW.iconst (dq rfl) ?_
          show AW l (pI pg 225) P kc ks 132 _ _ SHF _
          refine AW.iload (dq rfl) rfl ?_
          show AW l (pI pg 225) P kc ks 134 _ _ SHF _
          refine AW.imul (dq rfl) ?_
          show AW l (pI pg 225) P kc ks 135 _ _ SHF _
          refine AW.iconst (dq rfl) ?_
          show AW l (pI pg 225) P kc ks 136 _ _ SHF _
          refine AW.iadd (dq rfl) ?_
          show AW l (pI pg 225) P kc ks 137 _ _ SHF _
          refine AW.iald (dq rfl) rfl (o13 h1 h7 h9 h10) ?_
          show AW l (pI pg 225) P kc ks 138 _ _ SHF _
          refine AW.icmp_ge (dq rfl) (tgt := 145) (by decide) (fun h14 => ?_) (fun h14 => ?_)
          · have _ := h14
            refine AW.iinc (dq rfl) rfl (by decide +kernel) ?_
            show AW l (pI pg 225) P kc ks 148 [(7, .int ((nI k) + Int32.ofInt 1)), (6, .int (b)), (5, .int (u)), (4, .int (c)), (3, .int (nI w)), (2, .int (v)), (1, .int (m)), (0, .ref 58)] [] SHF _
            refine AW.goto (dq rfl) (tgt := 72) (by decide) ?_
            refine AW.drop (lv' := [(7, .int ((nI k) + Int32.ofInt 1)), (6, .int (b)), (5, .int (u)), (4, .int (c)), (3, .int (nI w)), (2, .int (v)), (1, .int (m)), (0, .ref 58)]) (List.forall_mem_cons.mpr ⟨List.mem_of_getElem? (i := 0) rfl, List.forall_mem_cons.mpr ⟨List.mem_of_getElem? (i := 1) rfl, List.forall_mem_cons.mpr ⟨List.mem_of_getElem? (i := 2) rfl, List.forall_mem_cons.mpr ⟨List.mem_of_getElem? (i := 3) rfl, List.forall_mem_cons.mpr ⟨List.mem_of_getElem? (i := 4) rfl, List.forall_mem_cons.mpr ⟨List.mem_of_getElem? (i := 5) rfl, List.forall_mem_cons.mpr ⟨List.mem_of_getElem? (i := 6) rfl, List.forall_mem_cons.mpr ⟨List.mem_of_getElem? (i := 7) rfl, fun _ h => absurd h List.not_mem_nil⟩⟩⟩⟩⟩⟩⟩⟩) ?_
            exact k15 h1 h7 h9 h10 h14
          · have _ := h14
            refine AW.iload (dq rfl) rfl ?_
            show AW l (pI pg 225) P kc ks 143 _ _ SHF _
            refine AW.istore (dq rfl) (by decide +kernel) ?_
            show AW l (pI pg 225) P kc ks 145 [(6, .int (nI k)), (7, .int (nI k)), (5, .int (u)), (4, .int (c)), (3, .int (nI w)), (2, .int (v)), (1, .int (m)), (0, .ref 58)] [] SHF _
            refine AW.iinc (dq rfl) rfl (by decide +kernel) ?_
            show AW l (pI pg 225) P kc ks 148 [(7, .int ((nI k) + Int32.ofInt 1)), (6, .int (nI k)), (5, .int (u)), (4, .int (c)), (3, .int (nI w)), (2, .int (v)), (1, .int (m)), (0, .ref 58)] [] SHF _
            refine AW.goto (dq rfl) (tgt := 72) (by decide) ?_
            refine AW.drop (lv' := [(7, .int ((nI k) + Int32.ofInt 1)), (6, .int (nI k)), (5, .int (u)), (4, .int (c)), (3, .int (nI w)), (2, .int (v)), (1, .int (m)), (0, .ref 58)]) (List.forall_mem_cons.mpr ⟨List.mem_of_getElem? (i := 0) rfl, List.forall_mem_cons.mpr ⟨List.mem_of_getElem? (i := 1) rfl, List.forall_mem_cons.mpr ⟨List.mem_of_getElem? (i := 2) rfl, List.forall_mem_cons.mpr ⟨List.mem_of_getElem? (i := 3) rfl, List.forall_mem_cons.mpr ⟨List.mem_of_getElem? (i := 4) rfl, List.forall_mem_cons.mpr ⟨List.mem_of_getElem? (i := 5) rfl, List.forall_mem_cons.mpr ⟨List.mem_of_getElem? (i := 6) rfl, List.forall_mem_cons.mpr ⟨List.mem_of_getElem? (i := 7) rfl, fun _ h => absurd h List.not_mem_nil⟩⟩⟩⟩⟩⟩⟩⟩) ?_
            exact k16 h1 h7 h9 h10 h14
      · have _ := h9
        refine AW.goto (dq rfl) (tgt := 145) (by decide) ?_
        refine AW.iinc (dq rfl) rfl (by decide +kernel) ?_
        show AW l (pI pg 225) P kc ks 148 [(7, .int ((nI k) + Int32.ofInt 1)), (6, .int (b)), (5, .int (u)), (4, .int (c)), (3, .int (nI w)), (2, .int (v)), (1, .int (m)), (0, .ref 58)] [] SHF _
        refine AW.goto (dq rfl) (tgt := 72) (by decide) ?_
        refine AW.drop (lv' := [(7, .int ((nI k) + Int32.ofInt 1)), (6, .int (b)), (5, .int (u)), (4, .int (c)), (3, .int (nI w)), (2, .int (v)), (1, .int (m)), (0, .ref 58)]) (List.forall_mem_cons.mpr ⟨List.mem_of_getElem? (i := 0) rfl, List.forall_mem_cons.mpr ⟨List.mem_of_getElem? (i := 1) rfl, List.forall_mem_cons.mpr ⟨List.mem_of_getElem? (i := 2) rfl, List.forall_mem_cons.mpr ⟨List.mem_of_getElem? (i := 3) rfl, List.forall_mem_cons.mpr ⟨List.mem_of_getElem? (i := 4) rfl, List.forall_mem_cons.mpr ⟨List.mem_of_getElem? (i := 5) rfl, List.forall_mem_cons.mpr ⟨List.mem_of_getElem? (i := 6) rfl, List.forall_mem_cons.mpr ⟨List.mem_of_getElem? (i := 7) rfl, fun _ h => absurd h List.not_mem_nil⟩⟩⟩⟩⟩⟩⟩⟩) ?_
        exact k17 h1 h7 h9

theorem mln_0 {l : aL} {P : aP} {kc ks : Nat} {b x : Int32} {M : aM} (hJ : ∀ e ∈ RM, M.2.2 e.1 e.2.1 = e.2.2) (hl0 : l.1.stackTraces = false) (Q1 : Int32 → aM → Prop) (c2 : AC l (pI pg 195) (fcI (aset M 58 0 (.int (Int32.ofInt 0))) Q1) 0 0 [.int (x), .int (Int32.ofInt 0), .int (Int32.ofInt 2)] SHF (aset M 58 0 (.int (Int32.ofInt 0)))) (Q3 : Int32 → aM → Int32 → aM → Prop) (c4 : ∀ (y1 : Int32), ∀ (M1 : aM), ∀ (e1 : M1.2.2 = (aset M 58 0 (.int (Int32.ofInt 0))).2.2), ∀ (q1 : Q1 y1 M1), AC l (pI pg 175) (fcI M1 (Q3 y1 M1)) 0 0 [.ref 58, .int (y1), .int (Int32.ofInt 1)] SHF M1) (k7 : ∀ (y1 : Int32), ∀ (M1 : aM), ∀ (e1 : M1.2.2 = (aset M 58 0 (.int (Int32.ofInt 0))).2.2), ∀ (q1 : Q1 y1 M1), ∀ (y3 : Int32), ∀ (M3 : aM), ∀ (e3 : M3.2.2 = M1.2.2), ∀ (q3 : (Q3 y1 M1) y3 M3), ∀ (h5 : ¬ (y3 : Int32) = 0), ∀ (h6 : ¬ (x : Int32) = (Int32.ofInt 2 : Int32)), AW l (pI pg 224) P kc ks 45 [(4, .int (Int32.ofInt 0)), (3, .int (Int32.ofInt (-1))), (2, .int (x)), (1, .int (b)), (0, .ref 58)] [] SHF M3) (Q9 : Int32 → aM → Int32 → aM → Int32 → aM → Prop) (c10 : ∀ (y1 : Int32), ∀ (M1 : aM), ∀ (e1 : M1.2.2 = (aset M 58 0 (.int (Int32.ofInt 0))).2.2), ∀ (q1 : Q1 y1 M1), ∀ (y3 : Int32), ∀ (M3 : aM), ∀ (e3 : M3.2.2 = M1.2.2), ∀ (q3 : (Q3 y1 M1) y3 M3), ∀ (h5 : ¬ (y3 : Int32) = 0), ∀ (h6 : (x : Int32) = (Int32.ofInt 2 : Int32)), ∀ (h8 : (b : Int32) = 0), AC l (pI pg 225) (fcI M3 (Q9 y1 M1 y3 M3)) 0 0 [.ref 58, .int (Int32.ofInt 2)] SHF M3) (r11 : ∀ (y1 : Int32), ∀ (M1 : aM), ∀ (e1 : M1.2.2 = (aset M 58 0 (.int (Int32.ofInt 0))).2.2), ∀ (q1 : Q1 y1 M1), ∀ (y3 : Int32), ∀ (M3 : aM), ∀ (e3 : M3.2.2 = M1.2.2), ∀ (q3 : (Q3 y1 M1) y3 M3), ∀ (h5 : ¬ (y3 : Int32) = 0), ∀ (h6 : (x : Int32) = (Int32.ofInt 2 : Int32)), ∀ (h8 : (b : Int32) = 0), ∀ (y9 : Int32), ∀ (M9 : aM), ∀ (e9 : M9.2.2 = M3.2.2), ∀ (q9 : (Q9 y1 M1 y3 M3) y9 M9), P (.inl (some (.int (y9)))) SHF M9) (Q12 : Int32 → aM → Int32 → aM → Int32 → aM → Prop) (c13 : ∀ (y1 : Int32), ∀ (M1 : aM), ∀ (e1 : M1.2.2 = (aset M 58 0 (.int (Int32.ofInt 0))).2.2), ∀ (q1 : Q1 y1 M1), ∀ (y3 : Int32), ∀ (M3 : aM), ∀ (e3 : M3.2.2 = M1.2.2), ∀ (q3 : (Q3 y1 M1) y3 M3), ∀ (h5 : ¬ (y3 : Int32) = 0), ∀ (h6 : (x : Int32) = (Int32.ofInt 2 : Int32)), ∀ (h8 : ¬ ((b : Int32) = 0)), AC l (pI pg 225) (fcI M3 (Q12 y1 M1 y3 M3)) 0 0 [.ref 58, .int (Int32.ofInt 3)] SHF M3) (r14 : ∀ (y1 : Int32), ∀ (M1 : aM), ∀ (e1 : M1.2.2 = (aset M 58 0 (.int (Int32.ofInt 0))).2.2), ∀ (q1 : Q1 y1 M1), ∀ (y3 : Int32), ∀ (M3 : aM), ∀ (e3 : M3.2.2 = M1.2.2), ∀ (q3 : (Q3 y1 M1) y3 M3), ∀ (h5 : ¬ (y3 : Int32) = 0), ∀ (h6 : (x : Int32) = (Int32.ofInt 2 : Int32)), ∀ (h8 : ¬ ((b : Int32) = 0)), ∀ (y12 : Int32), ∀ (M12 : aM), ∀ (e12 : M12.2.2 = M3.2.2), ∀ (q12 : (Q12 y1 M1 y3 M3) y12 M12), P (.inl (some (.int (y12)))) SHF M12) (r15 : ∀ (y1 : Int32), ∀ (M1 : aM), ∀ (e1 : M1.2.2 = (aset M 58 0 (.int (Int32.ofInt 0))).2.2), ∀ (q1 : Q1 y1 M1), ∀ (y3 : Int32), ∀ (M3 : aM), ∀ (e3 : M3.2.2 = M1.2.2), ∀ (q3 : (Q3 y1 M1) y3 M3), ∀ (h5 : (y3 : Int32) = 0), P (.inl (some (.int (Int32.ofInt 0)))) SHF M3) : AW l (pI pg 224) P kc ks 0 [(0, .ref 58), (1, .int (b)), (2, .int (x))] [] SHF M := by
  refine AW.aload_n (dq rfl) rfl rfl ?_
  show AW l (pI pg 224) P kc ks 1 _ _ SHF _
  refine AW.iconst (dq rfl) ?_
  show AW l (pI pg 224) P kc ks 2 _ _ SHF _
  refine fw_putI (dq rfl) (pg_ok.2.1 224 _ _ _ _ rfl) rfl rfl rfl ?_
  show AW l (pI pg 224) P kc ks 5 _ _ SHF _
  refine AW.aload_n (dq rfl) rfl rfl ?_
  show AW l (pI pg 224) P kc ks 6 _ _ SHF _
  refine AW.iload_n (dq rfl) rfl ?_
  show AW l (pI pg 224) P kc ks 7 _ _ SHF _
  refine AW.iconst (dq rfl) ?_
  show AW l (pI pg 224) P kc ks 8 _ _ SHF _
  refine AW.iconst (dq rfl) ?_
  show AW l (pI pg 224) P kc ks 9 _ _ SHF _
  refine fw_callSI (as := [.int (x), .int (Int32.ofInt 0), .int (Int32.ofInt 2)]) (dq rfl) (pg_ok.2.2.1 224 _ _ _ _ rfl) (by decide +kernel) rfl rfl (c2) (fun y1 M1 e1 q1 => ?_)
  have hJ1 : ∀ e ∈ RM, M1.2.2 e.1 e.2.1 = e.2.2 := fun e he => by rw [e1]; exact hJ e he
  show AW l (pI pg 224) P kc ks 12 [(0, .ref 58), (1, .int (b)), (2, .int (x))] [.int (y1), .ref 58] SHF _
  refine AW.iconst (dq rfl) ?_
  show AW l (pI pg 224) P kc ks 13 _ _ SHF _
  refine fw_callVI (as := [.int (y1), .int (Int32.ofInt 1)]) (dq rfl) (pg_ok.2.2.1 224 _ _ _ _ rfl) rfl (by decide +kernel) rfl rfl (c4 y1 M1 e1 q1) (fun y3 M3 e3 q3 => ?_)
  have hJ3 : ∀ e ∈ RM, M3.2.2 e.1 e.2.1 = e.2.2 := fun e he => by rw [e3]; exact hJ1 e he
  show AW l (pI pg 224) P kc ks 16 [(0, .ref 58), (1, .int (b)), (2, .int (x))] [.int (y3)] SHF _
  refine AW.if_ne (dq rfl) (tgt := 21) (by decide) (fun h5 => ?_) (fun h5 => ?_)
  · have _ := h5
    refine AW.iload_n (dq rfl) rfl ?_
    show AW l (pI pg 224) P kc ks 22 _ _ SHF _
    refine AW.iconst (dq rfl) ?_
    show AW l (pI pg 224) P kc ks 23 _ _ SHF _
    refine AW.icmp_ne (dq rfl) (tgt := 40) (by decide) (fun h6 => ?_) (fun h6 => ?_)
    · have _ := h6
      refine AW.iconst (dq rfl) ?_
      show AW l (pI pg 224) P kc ks 41 _ _ SHF _
      refine AW.istore_n (dq rfl) (by decide +kernel) ?_
      show AW l (pI pg 224) P kc ks 42 [(3, .int (Int32.ofInt (-1))), (0, .ref 58), (1, .int (b)), (2, .int (x))] [] SHF _
      refine AW.iconst (dq rfl) ?_
      show AW l (pI pg 224) P kc ks 43 _ _ SHF _
      refine AW.istore (dq rfl) (by decide +kernel) ?_
      show AW l (pI pg 224) P kc ks 45 [(4, .int (Int32.ofInt 0)), (3, .int (Int32.ofInt (-1))), (0, .ref 58), (1, .int (b)), (2, .int (x))] [] SHF _
      refine AW.drop (lv' := [(4, .int (Int32.ofInt 0)), (3, .int (Int32.ofInt (-1))), (2, .int (x)), (1, .int (b)), (0, .ref 58)]) (List.forall_mem_cons.mpr ⟨List.mem_of_getElem? (i := 0) rfl, List.forall_mem_cons.mpr ⟨List.mem_of_getElem? (i := 1) rfl, List.forall_mem_cons.mpr ⟨List.mem_of_getElem? (i := 4) rfl, List.forall_mem_cons.mpr ⟨List.mem_of_getElem? (i := 3) rfl, List.forall_mem_cons.mpr ⟨List.mem_of_getElem? (i := 2) rfl, fun _ h => absurd h List.not_mem_nil⟩⟩⟩⟩⟩) ?_
      exact k7 y1 M1 e1 q1 y3 M3 e3 q3 h5 h6
    · have _ := h6
      refine AW.aload_n (dq rfl) rfl rfl ?_
      show AW l (pI pg 224) P kc ks 27 _ _ SHF _
      refine AW.iload_n (dq rfl) rfl ?_
      show AW l (pI pg 224) P kc ks 28 _ _ SHF _
      refine AW.if_eq (dq rfl) (tgt := 35) (by decide) (fun h8 => ?_) (fun h8 => ?_)
      · have _ := h8
        refine AW.iconst (dq rfl) ?_
        show AW l (pI pg 224) P kc ks 36 _ _ SHF _
        refine fw_callVI (as := [.int (Int32.ofInt 2)]) (dq rfl) (pg_ok.2.2.1 224 _ _ _ _ rfl) rfl (by decide +kernel) rfl rfl (c10 y1 M1 e1 q1 y3 M3 e3 q3 h5 h6 h8) (fun y9 M9 e9 q9 => ?_)
        have hJ9 : ∀ e ∈ RM, M9.2.2 e.1 e.2.1 = e.2.2 := fun e he => by rw [e9]; exact hJ3 e he
        show AW l (pI pg 224) P kc ks 39 [(0, .ref 58), (1, .int (b)), (2, .int (x))] [.int (y9)] SHF _
        refine AW.iret (dq rfl) rfl ?_
        exact r11 y1 M1 e1 q1 y3 M3 e3 q3 h5 h6 h8 y9 M9 e9 q9
      · have _ := h8
        refine AW.iconst (dq rfl) ?_
        show AW l (pI pg 224) P kc ks 32 _ _ SHF _
        refine AW.goto (dq rfl) (tgt := 36) (by decide) ?_
        refine fw_callVI (as := [.int (Int32.ofInt 3)]) (dq rfl) (pg_ok.2.2.1 224 _ _ _ _ rfl) rfl (by decide +kernel) rfl rfl (c13 y1 M1 e1 q1 y3 M3 e3 q3 h5 h6 h8) (fun y12 M12 e12 q12 => ?_)
        have hJ12 : ∀ e ∈ RM, M12.2.2 e.1 e.2.1 = e.2.2 := fun e he => by rw [e12]; exact hJ3 e he
        show AW l (pI pg 224) P kc ks 39 [(0, .ref 58), (1, .int (b)), (2, .int (x))] [.int (y12)] SHF _
        refine AW.iret (dq rfl) rfl ?_
        exact r14 y1 M1 e1 q1 y3 M3 e3 q3 h5 h6 h8 y12 M12 e12 q12
  · have _ := h5
    refine AW.iconst (dq rfl) ?_
    show AW l (pI pg 224) P kc ks 20 _ _ SHF _
    refine AW.iret (dq rfl) rfl ?_
    exact r15 y1 M1 e1 q1 y3 M3 e3 q3 h5

theorem mln_45 {l : aL} {P : aP} {kc ks : Nat} {s : Nat} {g x b : Int32} {M : aM} (hJ : ∀ e ∈ RM, M.2.2 e.1 e.2.1 = e.2.2) (hl0 : l.1.stackTraces = false) (Q4 : Int32 → aM → Prop) (c5 : ∀ (h1 : ((Int32.ofInt 1) <<< ((M.1 58 3) &&& 31) : Int32) ≤ (nI s : Int32)), ∀ (h2 : ¬ (g : Int32) = (Int32.ofInt (-1) : Int32)), ∀ (h3 : ¬ (x : Int32) = (Int32.ofInt 1 : Int32)), AC l (pI pg 226) (fcI M Q4) 0 0 [.ref 58, .int (g)] SHF M) (r6 : ∀ (h1 : ((Int32.ofInt 1) <<< ((M.1 58 3) &&& 31) : Int32) ≤ (nI s : Int32)), ∀ (h2 : ¬ (g : Int32) = (Int32.ofInt (-1) : Int32)), ∀ (h3 : ¬ (x : Int32) = (Int32.ofInt 1 : Int32)), ∀ (y4 : Int32), ∀ (M4 : aM), ∀ (e4 : M4.2.2 = M.2.2), ∀ (q4 : Q4 y4 M4), P (.inl (some (.int (y4)))) SHF M4) (r7 : ∀ (h1 : ((Int32.ofInt 1) <<< ((M.1 58 3) &&& 31) : Int32) ≤ (nI s : Int32)), ∀ (h2 : ¬ (g : Int32) = (Int32.ofInt (-1) : Int32)), ∀ (h3 : (x : Int32) = (Int32.ofInt 1 : Int32)), P (.inl (some (.int (g)))) SHF M) (r8 : ∀ (h1 : ((Int32.ofInt 1) <<< ((M.1 58 3) &&& 31) : Int32) ≤ (nI s : Int32)), ∀ (h2 : (g : Int32) = (Int32.ofInt (-1) : Int32)), P (.inl (some (.int (Int32.ofInt (-1))))) SHF M) (Q10 : aM → Prop) (c11 : ∀ (h1 : ¬ (((Int32.ofInt 1) <<< ((M.1 58 3) &&& 31) : Int32) ≤ (nI s : Int32))), ∀ (h9 : (g : Int32) = (Int32.ofInt (-1) : Int32)), AC l (pI pg 204) (fcV M Q10) 0 0 [.ref 58, .int (nI s)] SHF M) (Q12 : aM → Int32 → aM → Prop) (c13 : ∀ (h1 : ¬ (((Int32.ofInt 1) <<< ((M.1 58 3) &&& 31) : Int32) ≤ (nI s : Int32))), ∀ (h9 : (g : Int32) = (Int32.ofInt (-1) : Int32)), ∀ (M10 : aM), ∀ (e10 : M10.2.2 = M.2.2), ∀ (q10 : Q10 M10), AC l (pI pg 223) (fcI M10 (Q12 M10)) 0 0 [.ref 58, .int (b)] SHF M10) (k15 : ∀ (h1 : ¬ (((Int32.ofInt 1) <<< ((M.1 58 3) &&& 31) : Int32) ≤ (nI s : Int32))), ∀ (h9 : (g : Int32) = (Int32.ofInt (-1) : Int32)), ∀ (M10 : aM), ∀ (e10 : M10.2.2 = M.2.2), ∀ (q10 : Q10 M10), ∀ (y12 : Int32), ∀ (M12 : aM), ∀ (e12 : M12.2.2 = M10.2.2), ∀ (q12 : (Q12 M10) y12 M12), ∀ (h14 : (y12 : Int32) = 0), AW l (pI pg 224) P kc ks 45 [(4, .int ((nI s) + Int32.ofInt 1)), (3, .int (g)), (2, .int (x)), (1, .int (b)), (0, .ref 58)] [] SHF M12) (k16 : ∀ (h1 : ¬ (((Int32.ofInt 1) <<< ((M.1 58 3) &&& 31) : Int32) ≤ (nI s : Int32))), ∀ (h9 : (g : Int32) = (Int32.ofInt (-1) : Int32)), ∀ (M10 : aM), ∀ (e10 : M10.2.2 = M.2.2), ∀ (q10 : Q10 M10), ∀ (y12 : Int32), ∀ (M12 : aM), ∀ (e12 : M12.2.2 = M10.2.2), ∀ (q12 : (Q12 M10) y12 M12), ∀ (h14 : ¬ ((y12 : Int32) = 0)), AW l (pI pg 224) P kc ks 45 [(4, .int ((nI s) + Int32.ofInt 1)), (3, .int (nI s)), (2, .int (x)), (1, .int (b)), (0, .ref 58)] [] SHF M12) (Q17 : Int32 → aM → Prop) (c18 : ∀ (h1 : ¬ (((Int32.ofInt 1) <<< ((M.1 58 3) &&& 31) : Int32) ≤ (nI s : Int32))), ∀ (h9 : ¬ ((g : Int32) = (Int32.ofInt (-1) : Int32))), AC l (pI pg 226) (fcI M Q17) 0 0 [.ref 58, .int (nI s)] SHF M) (Q19 : Int32 → aM → Int32 → aM → Prop) (c20 : ∀ (h1 : ¬ (((Int32.ofInt 1) <<< ((M.1 58 3) &&& 31) : Int32) ≤ (nI s : Int32))), ∀ (h9 : ¬ ((g : Int32) = (Int32.ofInt (-1) : Int32))), ∀ (y17 : Int32), ∀ (M17 : aM), ∀ (e17 : M17.2.2 = M.2.2), ∀ (q17 : Q17 y17 M17), AC l (pI pg 226) (fcI M17 (Q19 y17 M17)) 0 0 [.ref 58, .int (g)] SHF M17) (Q22 : Int32 → aM → Int32 → aM → aM → Prop) (c23 : ∀ (h1 : ¬ (((Int32.ofInt 1) <<< ((M.1 58 3) &&& 31) : Int32) ≤ (nI s : Int32))), ∀ (h9 : ¬ ((g : Int32) = (Int32.ofInt (-1) : Int32))), ∀ (y17 : Int32), ∀ (M17 : aM), ∀ (e17 : M17.2.2 = M.2.2), ∀ (q17 : Q17 y17 M17), ∀ (y19 : Int32), ∀ (M19 : aM), ∀ (e19 : M19.2.2 = M17.2.2), ∀ (q19 : (Q19 y17 M17) y19 M19), ∀ (h21 : (y17 : Int32) < (y19 : Int32)), AC l (pI pg 204) (fcV M19 (Q22 y17 M17 y19 M19)) 0 0 [.ref 58, .int (nI s)] SHF M19) (Q24 : Int32 → aM → Int32 → aM → aM → Int32 → aM → Prop) (c25 : ∀ (h1 : ¬ (((Int32.ofInt 1) <<< ((M.1 58 3) &&& 31) : Int32) ≤ (nI s : Int32))), ∀ (h9 : ¬ ((g : Int32) = (Int32.ofInt (-1) : Int32))), ∀ (y17 : Int32), ∀ (M17 : aM), ∀ (e17 : M17.2.2 = M.2.2), ∀ (q17 : Q17 y17 M17), ∀ (y19 : Int32), ∀ (M19 : aM), ∀ (e19 : M19.2.2 = M17.2.2), ∀ (q19 : (Q19 y17 M17) y19 M19), ∀ (h21 : (y17 : Int32) < (y19 : Int32)), ∀ (M22 : aM), ∀ (e22 : M22.2.2 = M19.2.2), ∀ (q22 : (Q22 y17 M17 y19 M19) M22), AC l (pI pg 223) (fcI M22 (Q24 y17 M17 y19 M19 M22)) 0 0 [.ref 58, .int (b)] SHF M22) (k27 : ∀ (h1 : ¬ (((Int32.ofInt 1) <<< ((M.1 58 3) &&& 31) : Int32) ≤ (nI s : Int32))), ∀ (h9 : ¬ ((g : Int32) = (Int32.ofInt (-1) : Int32))), ∀ (y17 : Int32), ∀ (M17 : aM), ∀ (e17 : M17.2.2 = M.2.2), ∀ (q17 : Q17 y17 M17), ∀ (y19 : Int32), ∀ (M19 : aM), ∀ (e19 : M19.2.2 = M17.2.2), ∀ (q19 : (Q19 y17 M17) y19 M19), ∀ (h21 : (y17 : Int32) < (y19 : Int32)), ∀ (M22 : aM), ∀ (e22 : M22.2.2 = M19.2.2), ∀ (q22 : (Q22 y17 M17 y19 M19) M22), ∀ (y24 : Int32), ∀ (M24 : aM), ∀ (e24 : M24.2.2 = M22.2.2), ∀ (q24 : (Q24 y17 M17 y19 M19 M22) y24 M24), ∀ (h26 : (y24 : Int32) = 0), AW l (pI pg 224) P kc ks 45 [(4, .int ((nI s) + Int32.ofInt 1)), (3, .int (g)), (2, .int (x)), (1, .int (b)), (0, .ref 58)] [] SHF M24) (k28 : ∀ (h1 : ¬ (((Int32.ofInt 1) <<< ((M.1 58 3) &&& 31) : Int32) ≤ (nI s : Int32))), ∀ (h9 : ¬ ((g : Int32) = (Int32.ofInt (-1) : Int32))), ∀ (y17 : Int32), ∀ (M17 : aM), ∀ (e17 : M17.2.2 = M.2.2), ∀ (q17 : Q17 y17 M17), ∀ (y19 : Int32), ∀ (M19 : aM), ∀ (e19 : M19.2.2 = M17.2.2), ∀ (q19 : (Q19 y17 M17) y19 M19), ∀ (h21 : (y17 : Int32) < (y19 : Int32)), ∀ (M22 : aM), ∀ (e22 : M22.2.2 = M19.2.2), ∀ (q22 : (Q22 y17 M17 y19 M19) M22), ∀ (y24 : Int32), ∀ (M24 : aM), ∀ (e24 : M24.2.2 = M22.2.2), ∀ (q24 : (Q24 y17 M17 y19 M19 M22) y24 M24), ∀ (h26 : ¬ ((y24 : Int32) = 0)), AW l (pI pg 224) P kc ks 45 [(4, .int ((nI s) + Int32.ofInt 1)), (3, .int (nI s)), (2, .int (x)), (1, .int (b)), (0, .ref 58)] [] SHF M24) (k29 : ∀ (h1 : ¬ (((Int32.ofInt 1) <<< ((M.1 58 3) &&& 31) : Int32) ≤ (nI s : Int32))), ∀ (h9 : ¬ ((g : Int32) = (Int32.ofInt (-1) : Int32))), ∀ (y17 : Int32), ∀ (M17 : aM), ∀ (e17 : M17.2.2 = M.2.2), ∀ (q17 : Q17 y17 M17), ∀ (y19 : Int32), ∀ (M19 : aM), ∀ (e19 : M19.2.2 = M17.2.2), ∀ (q19 : (Q19 y17 M17) y19 M19), ∀ (h21 : ¬ ((y17 : Int32) < (y19 : Int32))), AW l (pI pg 224) P kc ks 45 [(4, .int ((nI s) + Int32.ofInt 1)), (3, .int (g)), (2, .int (x)), (1, .int (b)), (0, .ref 58)] [] SHF M19) : AW l (pI pg 224) P kc ks 45 [(4, .int (nI s)), (3, .int (g)), (2, .int (x)), (1, .int (b)), (0, .ref 58)] [] SHF M := by
  refine AW.iload (dq rfl) rfl ?_
  show AW l (pI pg 224) P kc ks 47 _ _ SHF _
  refine AW.iconst (dq rfl) ?_
  show AW l (pI pg 224) P kc ks 48 _ _ SHF _
  refine AW.aload_n (dq rfl) rfl rfl ?_
  show AW l (pI pg 224) P kc ks 49 _ _ SHF _
  refine fw_get (dq rfl) (pg_ok.2.1 224 _ _ _ _ rfl) rfl (v := .int (M.1 58 3)) rfl ?_
  show AW l (pI pg 224) P kc ks 52 _ _ SHF _
  refine AW.ishl (dq rfl) ?_
  show AW l (pI pg 224) P kc ks 53 _ _ SHF _
  refine AW.icmp_ge (dq rfl) (tgt := 101) (by decide) (fun h1 => ?_) (fun h1 => ?_)
  · have _ := h1
    refine AW.iload_n (dq rfl) rfl ?_
    show AW l (pI pg 224) P kc ks 102 _ _ SHF _
    refine AW.iconst (dq rfl) ?_
    show AW l (pI pg 224) P kc ks 103 _ _ SHF _
    refine AW.icmp_ne (dq rfl) (tgt := 110) (by decide) (fun h2 => ?_) (fun h2 => ?_)
    · have _ := h2
      refine AW.iload_n (dq rfl) rfl ?_
      show AW l (pI pg 224) P kc ks 111 _ _ SHF _
      refine AW.iconst (dq rfl) ?_
      show AW l (pI pg 224) P kc ks 112 _ _ SHF _
      refine AW.icmp_ne (dq rfl) (tgt := 119) (by decide) (fun h3 => ?_) (fun h3 => ?_)
      · have _ := h3
        refine AW.aload_n (dq rfl) rfl rfl ?_
        show AW l (pI pg 224) P kc ks 120 _ _ SHF _
        refine AW.iload_n (dq rfl) rfl ?_
        show AW l (pI pg 224) P kc ks 121 _ _ SHF _
        refine fw_callVI (as := [.int (g)]) (dq rfl) (pg_ok.2.2.1 224 _ _ _ _ rfl) rfl (by decide +kernel) rfl rfl (c5 h1 h2 h3) (fun y4 M4 e4 q4 => ?_)
        have hJ4 : ∀ e ∈ RM, M4.2.2 e.1 e.2.1 = e.2.2 := fun e he => by rw [e4]; exact hJ e he
        show AW l (pI pg 224) P kc ks 124 [(4, .int (nI s)), (3, .int (g)), (2, .int (x)), (1, .int (b)), (0, .ref 58)] [.int (y4)] SHF _
        refine AW.iret (dq rfl) rfl ?_
        exact r6 h1 h2 h3 y4 M4 e4 q4
      · have _ := h3
        refine AW.iload_n (dq rfl) rfl ?_
        show AW l (pI pg 224) P kc ks 116 _ _ SHF _
        refine AW.goto (dq rfl) (tgt := 124) (by decide) ?_
        refine AW.iret (dq rfl) rfl ?_
        exact r7 h1 h2 h3
    · have _ := h2
      refine AW.iconst (dq rfl) ?_
      show AW l (pI pg 224) P kc ks 107 _ _ SHF _
      refine AW.goto (dq rfl) (tgt := 124) (by decide) ?_
      refine AW.iret (dq rfl) rfl ?_
      exact r8 h1 h2
  · have _ := h1
    refine AW.iload_n (dq rfl) rfl ?_
    show AW l (pI pg 224) P kc ks 57 _ _ SHF _
    refine AW.iconst (dq rfl) ?_
    show AW l (pI pg 224) P kc ks 58 _ _ SHF _
    refine AW.icmp_eq (dq rfl) (tgt := 78) (by decide) (fun h9 => ?_) (fun h9 => ?_)
    · have _ := h9
      refine AW.aload_n (dq rfl) rfl rfl ?_
      show AW l (pI pg 224) P kc ks 79 _ _ SHF _
      refine AW.iload (dq rfl) rfl ?_
      show AW l (pI pg 224) P kc ks 81 _ _ SHF _
      refine fw_callVV (as := [.int (nI s)]) (dq rfl) (pg_ok.2.2.1 224 _ _ _ _ rfl) rfl (by decide +kernel) rfl rfl (c11 h1 h9) (fun M10 e10 q10 => ?_)
      have hJ10 : ∀ e ∈ RM, M10.2.2 e.1 e.2.1 = e.2.2 := fun e he => by rw [e10]; exact hJ e he
      show AW l (pI pg 224) P kc ks 84 [(4, .int (nI s)), (3, .int (g)), (2, .int (x)), (1, .int (b)), (0, .ref 58)] [] SHF _
      refine AW.aload_n (dq rfl) rfl rfl ?_
      show AW l (pI pg 224) P kc ks 85 _ _ SHF _
      refine AW.iload_n (dq rfl) rfl ?_
      show AW l (pI pg 224) P kc ks 86 _ _ SHF _
      refine fw_callVI (as := [.int (b)]) (dq rfl) (pg_ok.2.2.1 224 _ _ _ _ rfl) rfl (by decide +kernel) rfl rfl (c13 h1 h9 M10 e10 q10) (fun y12 M12 e12 q12 => ?_)
      have hJ12 : ∀ e ∈ RM, M12.2.2 e.1 e.2.1 = e.2.2 := fun e he => by rw [e12]; exact hJ10 e he
      show AW l (pI pg 224) P kc ks 89 [(4, .int (nI s)), (3, .int (g)), (2, .int (x)), (1, .int (b)), (0, .ref 58)] [.int (y12)] SHF _
      refine AW.if_eq (dq rfl) (tgt := 95) (by decide) (fun h14 => ?_) (fun h14 => ?_)
      · have _ := h14
        refine AW.iinc (dq rfl) rfl (by decide +kernel) ?_
        show AW l (pI pg 224) P kc ks 98 [(4, .int ((nI s) + Int32.ofInt 1)), (3, .int (g)), (2, .int (x)), (1, .int (b)), (0, .ref 58)] [] SHF _
        refine AW.goto (dq rfl) (tgt := 45) (by decide) ?_
        refine AW.drop (lv' := [(4, .int ((nI s) + Int32.ofInt 1)), (3, .int (g)), (2, .int (x)), (1, .int (b)), (0, .ref 58)]) (List.forall_mem_cons.mpr ⟨List.mem_of_getElem? (i := 0) rfl, List.forall_mem_cons.mpr ⟨List.mem_of_getElem? (i := 1) rfl, List.forall_mem_cons.mpr ⟨List.mem_of_getElem? (i := 2) rfl, List.forall_mem_cons.mpr ⟨List.mem_of_getElem? (i := 3) rfl, List.forall_mem_cons.mpr ⟨List.mem_of_getElem? (i := 4) rfl, fun _ h => absurd h List.not_mem_nil⟩⟩⟩⟩⟩) ?_
        exact k15 h1 h9 M10 e10 q10 y12 M12 e12 q12 h14
      · have _ := h14
        refine AW.iload (dq rfl) rfl ?_
        show AW l (pI pg 224) P kc ks 94 _ _ SHF _
        refine AW.istore_n (dq rfl) (by decide +kernel) ?_
        show AW l (pI pg 224) P kc ks 95 [(3, .int (nI s)), (4, .int (nI s)), (2, .int (x)), (1, .int (b)), (0, .ref 58)] [] SHF _
        refine AW.iinc (dq rfl) rfl (by decide +kernel) ?_
        show AW l (pI pg 224) P kc ks 98 [(4, .int ((nI s) + Int32.ofInt 1)), (3, .int (nI s)), (2, .int (x)), (1, .int (b)), (0, .ref 58)] [] SHF _
        refine AW.goto (dq rfl) (tgt := 45) (by decide) ?_
        refine AW.drop (lv' := [(4, .int ((nI s) + Int32.ofInt 1)), (3, .int (nI s)), (2, .int (x)), (1, .int (b)), (0, .ref 58)]) (List.forall_mem_cons.mpr ⟨List.mem_of_getElem? (i := 0) rfl, List.forall_mem_cons.mpr ⟨List.mem_of_getElem? (i := 1) rfl, List.forall_mem_cons.mpr ⟨List.mem_of_getElem? (i := 2) rfl, List.forall_mem_cons.mpr ⟨List.mem_of_getElem? (i := 3) rfl, List.forall_mem_cons.mpr ⟨List.mem_of_getElem? (i := 4) rfl, fun _ h => absurd h List.not_mem_nil⟩⟩⟩⟩⟩) ?_
        exact k16 h1 h9 M10 e10 q10 y12 M12 e12 q12 h14
    · have _ := h9
      refine AW.aload_n (dq rfl) rfl rfl ?_
      show AW l (pI pg 224) P kc ks 62 _ _ SHF _
      refine AW.iload (dq rfl) rfl ?_
      show AW l (pI pg 224) P kc ks 64 _ _ SHF _
      refine fw_callVI (as := [.int (nI s)]) (dq rfl) (pg_ok.2.2.1 224 _ _ _ _ rfl) rfl (by decide +kernel) rfl rfl (c18 h1 h9) (fun y17 M17 e17 q17 => ?_)
      have hJ17 : ∀ e ∈ RM, M17.2.2 e.1 e.2.1 = e.2.2 := fun e he => by rw [e17]; exact hJ e he
      show AW l (pI pg 224) P kc ks 67 [(4, .int (nI s)), (3, .int (g)), (2, .int (x)), (1, .int (b)), (0, .ref 58)] [.int (y17)] SHF _
      refine AW.aload_n (dq rfl) rfl rfl ?_
      show AW l (pI pg 224) P kc ks 68 _ _ SHF _
      refine AW.iload_n (dq rfl) rfl ?_
      show AW l (pI pg 224) P kc ks 69 _ _ SHF _
      refine fw_callVI (as := [.int (g)]) (dq rfl) (pg_ok.2.2.1 224 _ _ _ _ rfl) rfl (by decide +kernel) rfl rfl (c20 h1 h9 y17 M17 e17 q17) (fun y19 M19 e19 q19 => ?_)
      have hJ19 : ∀ e ∈ RM, M19.2.2 e.1 e.2.1 = e.2.2 := fun e he => by rw [e19]; exact hJ17 e he
      show AW l (pI pg 224) P kc ks 72 [(4, .int (nI s)), (3, .int (g)), (2, .int (x)), (1, .int (b)), (0, .ref 58)] [.int (y19), .int (y17)] SHF _
      refine AW.icmp_lt (dq rfl) (tgt := 78) (by decide) (fun h21 => ?_) (fun h21 => ?_)
      · have _ := h21
        refine AW.aload_n (dq rfl) rfl rfl ?_
        show AW l (pI pg 224) P kc ks 79 _ _ SHF _
        refine AW.iload (dq rfl) rfl ?_
        show AW l (pI pg 224) P kc ks 81 _ _ SHF _
        refine fw_callVV (as := [.int (nI s)]) (dq rfl) (pg_ok.2.2.1 224 _ _ _ _ rfl) rfl (by decide +kernel) rfl rfl (c23 h1 h9 y17 M17 e17 q17 y19 M19 e19 q19 h21) (fun M22 e22 q22 => ?_)
        have hJ22 : ∀ e ∈ RM, M22.2.2 e.1 e.2.1 = e.2.2 := fun e he => by rw [e22]; exact hJ19 e he
        show AW l (pI pg 224) P kc ks 84 [(4, .int (nI s)), (3, .int (g)), (2, .int (x)), (1, .int (b)), (0, .ref 58)] [] SHF _
        refine AW.aload_n (dq rfl) rfl rfl ?_
        show AW l (pI pg 224) P kc ks 85 _ _ SHF _
        refine AW.iload_n (dq rfl) rfl ?_
        show AW l (pI pg 224) P kc ks 86 _ _ SHF _
        refine fw_callVI (as := [.int (b)]) (dq rfl) (pg_ok.2.2.1 224 _ _ _ _ rfl) rfl (by decide +kernel) rfl rfl (c25 h1 h9 y17 M17 e17 q17 y19 M19 e19 q19 h21 M22 e22 q22) (fun y24 M24 e24 q24 => ?_)
        have hJ24 : ∀ e ∈ RM, M24.2.2 e.1 e.2.1 = e.2.2 := fun e he => by rw [e24]; exact hJ22 e he
        show AW l (pI pg 224) P kc ks 89 [(4, .int (nI s)), (3, .int (g)), (2, .int (x)), (1, .int (b)), (0, .ref 58)] [.int (y24)] SHF _
        refine AW.if_eq (dq rfl) (tgt := 95) (by decide) (fun h26 => ?_) (fun h26 => ?_)
        · have _ := h26
          refine AW.iinc (dq rfl) rfl (by decide +kernel) ?_
          show AW l (pI pg 224) P kc ks 98 [(4, .int ((nI s) + Int32.ofInt 1)), (3, .int (g)), (2, .int (x)), (1, .int (b)), (0, .ref 58)] [] SHF _
          refine AW.goto (dq rfl) (tgt := 45) (by decide) ?_
          refine AW.drop (lv' := [(4, .int ((nI s) + Int32.ofInt 1)), (3, .int (g)), (2, .int (x)), (1, .int (b)), (0, .ref 58)]) (List.forall_mem_cons.mpr ⟨List.mem_of_getElem? (i := 0) rfl, List.forall_mem_cons.mpr ⟨List.mem_of_getElem? (i := 1) rfl, List.forall_mem_cons.mpr ⟨List.mem_of_getElem? (i := 2) rfl, List.forall_mem_cons.mpr ⟨List.mem_of_getElem? (i := 3) rfl, List.forall_mem_cons.mpr ⟨List.mem_of_getElem? (i := 4) rfl, fun _ h => absurd h List.not_mem_nil⟩⟩⟩⟩⟩) ?_
          exact k27 h1 h9 y17 M17 e17 q17 y19 M19 e19 q19 h21 M22 e22 q22 y24 M24 e24 q24 h26
        · have _ := h26
          refine AW.iload (dq rfl) rfl ?_
          show AW l (pI pg 224) P kc ks 94 _ _ SHF _
          refine AW.istore_n (dq rfl) (by decide +kernel) ?_
          show AW l (pI pg 224) P kc ks 95 [(3, .int (nI s)), (4, .int (nI s)), (2, .int (x)), (1, .int (b)), (0, .ref 58)] [] SHF _
          refine AW.iinc (dq rfl) rfl (by decide +kernel) ?_
          show AW l (pI pg 224) P kc ks 98 [(4, .int ((nI s) + Int32.ofInt 1)), (3, .int (nI s)), (2, .int (x)), (1, .int (b)), (0, .ref 58)] [] SHF _
          refine AW.goto (dq rfl) (tgt := 45) (by decide) ?_
          refine AW.drop (lv' := [(4, .int ((nI s) + Int32.ofInt 1)), (3, .int (nI s)), (2, .int (x)), (1, .int (b)), (0, .ref 58)]) (List.forall_mem_cons.mpr ⟨List.mem_of_getElem? (i := 0) rfl, List.forall_mem_cons.mpr ⟨List.mem_of_getElem? (i := 1) rfl, List.forall_mem_cons.mpr ⟨List.mem_of_getElem? (i := 2) rfl, List.forall_mem_cons.mpr ⟨List.mem_of_getElem? (i := 3) rfl, List.forall_mem_cons.mpr ⟨List.mem_of_getElem? (i := 4) rfl, fun _ h => absurd h List.not_mem_nil⟩⟩⟩⟩⟩) ?_
          exact k28 h1 h9 y17 M17 e17 q17 y19 M19 e19 q19 h21 M22 e22 q22 y24 M24 e24 q24 h26
      · have _ := h21
        refine AW.goto (dq rfl) (tgt := 95) (by decide) ?_
        refine AW.iinc (dq rfl) rfl (by decide +kernel) ?_
        show AW l (pI pg 224) P kc ks 98 [(4, .int ((nI s) + Int32.ofInt 1)), (3, .int (g)), (2, .int (x)), (1, .int (b)), (0, .ref 58)] [] SHF _
        refine AW.goto (dq rfl) (tgt := 45) (by decide) ?_
        refine AW.drop (lv' := [(4, .int ((nI s) + Int32.ofInt 1)), (3, .int (g)), (2, .int (x)), (1, .int (b)), (0, .ref 58)]) (List.forall_mem_cons.mpr ⟨List.mem_of_getElem? (i := 0) rfl, List.forall_mem_cons.mpr ⟨List.mem_of_getElem? (i := 1) rfl, List.forall_mem_cons.mpr ⟨List.mem_of_getElem? (i := 2) rfl, List.forall_mem_cons.mpr ⟨List.mem_of_getElem? (i := 3) rfl, List.forall_mem_cons.mpr ⟨List.mem_of_getElem? (i := 4) rfl, fun _ h => absurd h List.not_mem_nil⟩⟩⟩⟩⟩) ?_
        exact k29 h1 h9 y17 M17 e17 q17 y19 M19 e19 q19 h21

