/-! stretches of any, printed by wip/gen/segs_an.py -/
theorem waoa_0 {l : aL} {P : aP} {kc ks : Nat} {M : aM}  (hl0 : l.1.stackTraces = false) (k1 : AW l (pI pg 31) P kc ks 4 [(3, .int (Int32.ofInt 0)), (1, .long (Int64.ofNat (0 : Fin 2))), (0, .ref 4)] [] SHF M) : AW l (pI pg 31) P kc ks 0 [(0, .ref 4)] [] SHF M := by
  refine AW.lconst (dq rfl) ?_
  show AW l (pI pg 31) P kc ks 1 _ _ SHF _
  refine AW.lstore_n (dq rfl) (by decide +kernel) ?_
  show AW l (pI pg 31) P kc ks 2 [(1, .long (Int64.ofNat (0 : Fin 2))), (0, .ref 4)] [] SHF _
  refine AW.iconst (dq rfl) ?_
  show AW l (pI pg 31) P kc ks 3 _ _ SHF _
  refine AW.istore_n (dq rfl) (by decide +kernel) ?_
  show AW l (pI pg 31) P kc ks 4 [(3, .int (Int32.ofInt 0)), (1, .long (Int64.ofNat (0 : Fin 2))), (0, .ref 4)] [] SHF _
  refine AW.drop (lv' := [(3, .int (Int32.ofInt 0)), (1, .long (Int64.ofNat (0 : Fin 2))), (0, .ref 4)]) (List.forall_mem_cons.mpr ⟨List.mem_of_getElem? (i := 0) rfl, List.forall_mem_cons.mpr ⟨List.mem_of_getElem? (i := 1) rfl, List.forall_mem_cons.mpr ⟨List.mem_of_getElem? (i := 2) rfl, fun _ h => absurd h List.not_mem_nil⟩⟩⟩) ?_
  exact k1

theorem waoa_4 {l : aL} {P : aP} {kc ks : Nat} {p : Nat} {f : Int64} {M : aM}  (hl0 : l.1.stackTraces = false) (r2 : ∀ (h1 : (M.1 4 0 : Int32) ≤ (nI p : Int32)), P (.inl (some (.long (f)))) SHF M) (Q3 : Int32 → aM → Prop) (c4 : ∀ (h1 : ¬ ((M.1 4 0 : Int32) ≤ (nI p : Int32))), AC l (pI pg 32) (fcI M Q3) 0 0 [.ref 4] SHF M) (k5 : ∀ (h1 : ¬ ((M.1 4 0 : Int32) ≤ (nI p : Int32))), ∀ (y3 : Int32), ∀ (M3 : aM), ∀ (e3 : M3.2.2 = M.2.2), ∀ (q3 : Q3 y3 M3), AW l (pI pg 31) P kc ks 4 [(3, .int ((nI p) + Int32.ofInt 1)), (1, .long ((f) ||| ((Int64.ofNat (1 : Fin 2)) <<< (((y3) ^^^ ((Int32.ofInt 1) <<< ((nI p) &&& 31))).toInt64 &&& 63)))), (0, .ref 4)] [] SHF M3) : AW l (pI pg 31) P kc ks 4 [(3, .int (nI p)), (1, .long (f)), (0, .ref 4)] [] SHF M := by
  refine AW.iload_n (dq rfl) rfl ?_
  show AW l (pI pg 31) P kc ks 5 _ _ SHF _
  refine AW.aload_n (dq rfl) rfl rfl ?_
  show AW l (pI pg 31) P kc ks 6 _ _ SHF _
  refine fw_get (dq rfl) (pg_ok.2.1 31 _ _ _ _ rfl) rfl (v := .int (M.1 4 0)) rfl ?_
  show AW l (pI pg 31) P kc ks 9 _ _ SHF _
  refine AW.icmp_ge (dq rfl) (tgt := 31) (by decide) (fun h1 => ?_) (fun h1 => ?_)
  · have _ := h1
    refine AW.lload_n (dq rfl) rfl ?_
    show AW l (pI pg 31) P kc ks 32 _ _ SHF _
    refine AW.lret (dq rfl) rfl ?_
    exact r2 h1
  · have _ := h1
    refine AW.lload_n (dq rfl) rfl ?_
    show AW l (pI pg 31) P kc ks 13 _ _ SHF _
    refine AW.lconst (dq rfl) ?_
    show AW l (pI pg 31) P kc ks 14 _ _ SHF _
    refine AW.aload_n (dq rfl) rfl rfl ?_
    show AW l (pI pg 31) P kc ks 15 _ _ SHF _
    refine fw_callVI (as := []) (dq rfl) (pg_ok.2.2.1 31 _ _ _ _ rfl) rfl (by decide +kernel) rfl rfl (c4 h1) (fun y3 M3 e3 q3 => ?_)
    show AW l (pI pg 31) P kc ks 18 [(3, .int (nI p)), (1, .long (f)), (0, .ref 4)] [.int (y3), .long (Int64.ofNat (1 : Fin 2)), .long (f)] SHF _
    refine AW.iconst (dq rfl) ?_
    show AW l (pI pg 31) P kc ks 19 _ _ SHF _
    refine AW.iload_n (dq rfl) rfl ?_
    show AW l (pI pg 31) P kc ks 20 _ _ SHF _
    refine AW.ishl (dq rfl) ?_
    show AW l (pI pg 31) P kc ks 21 _ _ SHF _
    refine AW.ixor (dq rfl) ?_
    show AW l (pI pg 31) P kc ks 22 _ _ SHF _
    refine AW.lshl (dq rfl) ?_
    show AW l (pI pg 31) P kc ks 23 _ _ SHF _
    refine AW.lor (dq rfl) ?_
    show AW l (pI pg 31) P kc ks 24 _ _ SHF _
    refine AW.lstore_n (dq rfl) (by decide +kernel) ?_
    show AW l (pI pg 31) P kc ks 25 [(1, .long ((f) ||| ((Int64.ofNat (1 : Fin 2)) <<< (((y3) ^^^ ((Int32.ofInt 1) <<< ((nI p) &&& 31))).toInt64 &&& 63)))), (3, .int (nI p)), (0, .ref 4)] [] SHF _
    refine AW.iinc (dq rfl) rfl (by decide +kernel) ?_
    show AW l (pI pg 31) P kc ks 28 [(3, .int ((nI p) + Int32.ofInt 1)), (1, .long ((f) ||| ((Int64.ofNat (1 : Fin 2)) <<< (((y3) ^^^ ((Int32.ofInt 1) <<< ((nI p) &&& 31))).toInt64 &&& 63)))), (0, .ref 4)] [] SHF _
    refine AW.goto (dq rfl) (tgt := 4) (by decide) ?_
    refine AW.drop (lv' := [(3, .int ((nI p) + Int32.ofInt 1)), (1, .long ((f) ||| ((Int64.ofNat (1 : Fin 2)) <<< (((y3) ^^^ ((Int32.ofInt 1) <<< ((nI p) &&& 31))).toInt64 &&& 63)))), (0, .ref 4)]) (List.forall_mem_cons.mpr ⟨List.mem_of_getElem? (i := 0) rfl, List.forall_mem_cons.mpr ⟨List.mem_of_getElem? (i := 1) rfl, List.forall_mem_cons.mpr ⟨List.mem_of_getElem? (i := 2) rfl, fun _ h => absurd h List.not_mem_nil⟩⟩⟩) ?_
    exact k5 h1 y3 M3 e3 q3

theorem wata_0 {l : aL} {P : aP} {kc ks : Nat} {M : aM}  (hl0 : l.1.stackTraces = false) (k2 : ∀ (h1 : ¬ (M.1 4 0 : Int32) = (Int32.ofInt 1 : Int32)), AW l (pI pg 127) P kc ks 17 [(3, .int (Int32.ofInt 0)), (1, .long (Int64.ofNat (0 : Fin 2))), (0, .ref 4)] [] SHF M) (Q3 : Int64 → aM → Prop) (c4 : ∀ (h1 : (M.1 4 0 : Int32) = (Int32.ofInt 1 : Int32)), AC l (pI pg 31) (fcJ M Q3) 0 0 [.ref 4] SHF M) (r5 : ∀ (h1 : (M.1 4 0 : Int32) = (Int32.ofInt 1 : Int32)), ∀ (y3 : Int64), ∀ (M3 : aM), ∀ (e3 : M3.2.2 = M.2.2), ∀ (q3 : Q3 y3 M3), P (.inl (some (.long (y3)))) SHF M3) : AW l (pI pg 127) P kc ks 0 [(0, .ref 4)] [] SHF M := by
  refine AW.aload_n (dq rfl) rfl rfl ?_
  show AW l (pI pg 127) P kc ks 1 _ _ SHF _
  refine fw_get (dq rfl) (pg_ok.2.1 127 _ _ _ _ rfl) rfl (v := .int (M.1 4 0)) rfl ?_
  show AW l (pI pg 127) P kc ks 4 _ _ SHF _
  refine AW.iconst (dq rfl) ?_
  show AW l (pI pg 127) P kc ks 5 _ _ SHF _
  refine AW.icmp_ne (dq rfl) (tgt := 13) (by decide) (fun h1 => ?_) (fun h1 => ?_)
  · have _ := h1
    refine AW.lconst (dq rfl) ?_
    show AW l (pI pg 127) P kc ks 14 _ _ SHF _
    refine AW.lstore_n (dq rfl) (by decide +kernel) ?_
    show AW l (pI pg 127) P kc ks 15 [(1, .long (Int64.ofNat (0 : Fin 2))), (0, .ref 4)] [] SHF _
    refine AW.iconst (dq rfl) ?_
    show AW l (pI pg 127) P kc ks 16 _ _ SHF _
    refine AW.istore_n (dq rfl) (by decide +kernel) ?_
    show AW l (pI pg 127) P kc ks 17 [(3, .int (Int32.ofInt 0)), (1, .long (Int64.ofNat (0 : Fin 2))), (0, .ref 4)] [] SHF _
    refine AW.drop (lv' := [(3, .int (Int32.ofInt 0)), (1, .long (Int64.ofNat (0 : Fin 2))), (0, .ref 4)]) (List.forall_mem_cons.mpr ⟨List.mem_of_getElem? (i := 0) rfl, List.forall_mem_cons.mpr ⟨List.mem_of_getElem? (i := 1) rfl, List.forall_mem_cons.mpr ⟨List.mem_of_getElem? (i := 2) rfl, fun _ h => absurd h List.not_mem_nil⟩⟩⟩) ?_
    exact k2 h1
  · have _ := h1
    refine AW.aload_n (dq rfl) rfl rfl ?_
    show AW l (pI pg 127) P kc ks 9 _ _ SHF _
    refine fw_callVJ (as := []) (dq rfl) (pg_ok.2.2.1 127 _ _ _ _ rfl) rfl (by decide +kernel) rfl rfl (c4 h1) (fun y3 M3 e3 q3 => ?_)
    show AW l (pI pg 127) P kc ks 12 [(0, .ref 4)] [.long (y3)] SHF _
    refine AW.lret (dq rfl) rfl ?_
    exact r5 h1 y3 M3 e3 q3

theorem wata_17 {l : aL} {P : aP} {kc ks : Nat} {p : Nat} {f : Int64} {M : aM}  (hl0 : l.1.stackTraces = false) (r2 : ∀ (h1 : (M.1 4 0 : Int32) ≤ (nI p : Int32)), P (.inl (some (.long (f)))) SHF M) (k3 : ∀ (h1 : ¬ ((M.1 4 0 : Int32) ≤ (nI p : Int32))), AW l (pI pg 127) P kc ks 30 [(4, .int ((nI p) + (Int32.ofInt 1))), (3, .int (nI p)), (1, .long (f)), (0, .ref 4)] [] SHF M) : AW l (pI pg 127) P kc ks 17 [(3, .int (nI p)), (1, .long (f)), (0, .ref 4)] [] SHF M := by
  refine AW.iload_n (dq rfl) rfl ?_
  show AW l (pI pg 127) P kc ks 18 _ _ SHF _
  refine AW.aload_n (dq rfl) rfl rfl ?_
  show AW l (pI pg 127) P kc ks 19 _ _ SHF _
  refine fw_get (dq rfl) (pg_ok.2.1 127 _ _ _ _ rfl) rfl (v := .int (M.1 4 0)) rfl ?_
  show AW l (pI pg 127) P kc ks 22 _ _ SHF _
  refine AW.icmp_ge (dq rfl) (tgt := 69) (by decide) (fun h1 => ?_) (fun h1 => ?_)
  · have _ := h1
    refine AW.lload_n (dq rfl) rfl ?_
    show AW l (pI pg 127) P kc ks 70 _ _ SHF _
    refine AW.lret (dq rfl) rfl ?_
    exact r2 h1
  · have _ := h1
    refine AW.iload_n (dq rfl) rfl ?_
    show AW l (pI pg 127) P kc ks 26 _ _ SHF _
    refine AW.iconst (dq rfl) ?_
    show AW l (pI pg 127) P kc ks 27 _ _ SHF _
    refine AW.iadd (dq rfl) ?_
    show AW l (pI pg 127) P kc ks 28 _ _ SHF _
    refine AW.istore (dq rfl) (by decide +kernel) ?_
    show AW l (pI pg 127) P kc ks 30 [(4, .int ((nI p) + (Int32.ofInt 1))), (3, .int (nI p)), (1, .long (f)), (0, .ref 4)] [] SHF _
    refine AW.drop (lv' := [(4, .int ((nI p) + (Int32.ofInt 1))), (3, .int (nI p)), (1, .long (f)), (0, .ref 4)]) (List.forall_mem_cons.mpr ⟨List.mem_of_getElem? (i := 0) rfl, List.forall_mem_cons.mpr ⟨List.mem_of_getElem? (i := 1) rfl, List.forall_mem_cons.mpr ⟨List.mem_of_getElem? (i := 2) rfl, List.forall_mem_cons.mpr ⟨List.mem_of_getElem? (i := 3) rfl, fun _ h => absurd h List.not_mem_nil⟩⟩⟩⟩) ?_
    exact k3 h1

theorem wata_30 {l : aL} {P : aP} {kc ks : Nat} {p q : Nat} {f : Int64} {M : aM}  (hl0 : l.1.stackTraces = false) (k2 : ∀ (h1 : (M.1 4 0 : Int32) ≤ (nI q : Int32)), AW l (pI pg 127) P kc ks 17 [(3, .int ((nI p) + Int32.ofInt 1)), (1, .long (f)), (0, .ref 4)] [] SHF M) (Q3 : Int32 → aM → Prop) (c4 : ∀ (h1 : ¬ ((M.1 4 0 : Int32) ≤ (nI q : Int32))), AC l (pI pg 32) (fcI M Q3) 0 0 [.ref 4] SHF M) (k5 : ∀ (h1 : ¬ ((M.1 4 0 : Int32) ≤ (nI q : Int32))), ∀ (y3 : Int32), ∀ (M3 : aM), ∀ (e3 : M3.2.2 = M.2.2), ∀ (q3 : Q3 y3 M3), AW l (pI pg 127) P kc ks 30 [(4, .int ((nI q) + Int32.ofInt 1)), (3, .int (nI p)), (1, .long ((f) ||| ((Int64.ofNat (1 : Fin 2)) <<< ((((y3) ^^^ ((Int32.ofInt 1) <<< ((nI p) &&& 31))) ^^^ ((Int32.ofInt 1) <<< ((nI q) &&& 31))).toInt64 &&& 63)))), (0, .ref 4)] [] SHF M3) : AW l (pI pg 127) P kc ks 30 [(4, .int (nI q)), (3, .int (nI p)), (1, .long (f)), (0, .ref 4)] [] SHF M := by
  refine AW.iload (dq rfl) rfl ?_
  show AW l (pI pg 127) P kc ks 32 _ _ SHF _
  refine AW.aload_n (dq rfl) rfl rfl ?_
  show AW l (pI pg 127) P kc ks 33 _ _ SHF _
  refine fw_get (dq rfl) (pg_ok.2.1 127 _ _ _ _ rfl) rfl (v := .int (M.1 4 0)) rfl ?_
  show AW l (pI pg 127) P kc ks 36 _ _ SHF _
  refine AW.icmp_ge (dq rfl) (tgt := 63) (by decide) (fun h1 => ?_) (fun h1 => ?_)
  · have _ := h1
    refine AW.iinc (dq rfl) rfl (by decide +kernel) ?_
    show AW l (pI pg 127) P kc ks 66 [(3, .int ((nI p) + Int32.ofInt 1)), (4, .int (nI q)), (1, .long (f)), (0, .ref 4)] [] SHF _
    refine AW.goto (dq rfl) (tgt := 17) (by decide) ?_
    refine AW.drop (lv' := [(3, .int ((nI p) + Int32.ofInt 1)), (1, .long (f)), (0, .ref 4)]) (List.forall_mem_cons.mpr ⟨List.mem_of_getElem? (i := 0) rfl, List.forall_mem_cons.mpr ⟨List.mem_of_getElem? (i := 2) rfl, List.forall_mem_cons.mpr ⟨List.mem_of_getElem? (i := 3) rfl, fun _ h => absurd h List.not_mem_nil⟩⟩⟩) ?_
    exact k2 h1
  · have _ := h1
    refine AW.lload_n (dq rfl) rfl ?_
    show AW l (pI pg 127) P kc ks 40 _ _ SHF _
    refine AW.lconst (dq rfl) ?_
    show AW l (pI pg 127) P kc ks 41 _ _ SHF _
    refine AW.aload_n (dq rfl) rfl rfl ?_
    show AW l (pI pg 127) P kc ks 42 _ _ SHF _
    refine fw_callVI (as := []) (dq rfl) (pg_ok.2.2.1 127 _ _ _ _ rfl) rfl (by decide +kernel) rfl rfl (c4 h1) (fun y3 M3 e3 q3 => ?_)
    show AW l (pI pg 127) P kc ks 45 [(4, .int (nI q)), (3, .int (nI p)), (1, .long (f)), (0, .ref 4)] [.int (y3), .long (Int64.ofNat (1 : Fin 2)), .long (f)] SHF _
    refine AW.iconst (dq rfl) ?_
    show AW l (pI pg 127) P kc ks 46 _ _ SHF _
    refine AW.iload_n (dq rfl) rfl ?_
    show AW l (pI pg 127) P kc ks 47 _ _ SHF _
    refine AW.ishl (dq rfl) ?_
    show AW l (pI pg 127) P kc ks 48 _ _ SHF _
    refine AW.ixor (dq rfl) ?_
    show AW l (pI pg 127) P kc ks 49 _ _ SHF _
    refine AW.iconst (dq rfl) ?_
    show AW l (pI pg 127) P kc ks 50 _ _ SHF _
    refine AW.iload (dq rfl) rfl ?_
    show AW l (pI pg 127) P kc ks 52 _ _ SHF _
    refine AW.ishl (dq rfl) ?_
    show AW l (pI pg 127) P kc ks 53 _ _ SHF _
    refine AW.ixor (dq rfl) ?_
    show AW l (pI pg 127) P kc ks 54 _ _ SHF _
    refine AW.lshl (dq rfl) ?_
    show AW l (pI pg 127) P kc ks 55 _ _ SHF _
    refine AW.lor (dq rfl) ?_
    show AW l (pI pg 127) P kc ks 56 _ _ SHF _
    refine AW.lstore_n (dq rfl) (by decide +kernel) ?_
    show AW l (pI pg 127) P kc ks 57 [(1, .long ((f) ||| ((Int64.ofNat (1 : Fin 2)) <<< ((((y3) ^^^ ((Int32.ofInt 1) <<< ((nI p) &&& 31))) ^^^ ((Int32.ofInt 1) <<< ((nI q) &&& 31))).toInt64 &&& 63)))), (4, .int (nI q)), (3, .int (nI p)), (0, .ref 4)] [] SHF _
    refine AW.iinc (dq rfl) rfl (by decide +kernel) ?_
    show AW l (pI pg 127) P kc ks 60 [(4, .int ((nI q) + Int32.ofInt 1)), (1, .long ((f) ||| ((Int64.ofNat (1 : Fin 2)) <<< ((((y3) ^^^ ((Int32.ofInt 1) <<< ((nI p) &&& 31))) ^^^ ((Int32.ofInt 1) <<< ((nI q) &&& 31))).toInt64 &&& 63)))), (3, .int (nI p)), (0, .ref 4)] [] SHF _
    refine AW.goto (dq rfl) (tgt := 30) (by decide) ?_
    refine AW.drop (lv' := [(4, .int ((nI q) + Int32.ofInt 1)), (3, .int (nI p)), (1, .long ((f) ||| ((Int64.ofNat (1 : Fin 2)) <<< ((((y3) ^^^ ((Int32.ofInt 1) <<< ((nI p) &&& 31))) ^^^ ((Int32.ofInt 1) <<< ((nI q) &&& 31))).toInt64 &&& 63)))), (0, .ref 4)]) (List.forall_mem_cons.mpr ⟨List.mem_of_getElem? (i := 0) rfl, List.forall_mem_cons.mpr ⟨List.mem_of_getElem? (i := 2) rfl, List.forall_mem_cons.mpr ⟨List.mem_of_getElem? (i := 1) rfl, List.forall_mem_cons.mpr ⟨List.mem_of_getElem? (i := 3) rfl, fun _ h => absurd h List.not_mem_nil⟩⟩⟩⟩) ?_
    exact k5 h1 y3 M3 e3 q3

theorem mipa_0 {l : aL} {P : aP} {kc ks : Nat} {M : aM}  (hl0 : l.1.stackTraces = false) (k1 : AW l (pI pg 125) P kc ks 4 [(3, .int (Int32.ofInt 0)), (2, .int (Int32.ofInt 0)), (1, .ref 4), (0, .ref 33)] [] SHF M) : AW l (pI pg 125) P kc ks 0 [(0, .ref 33), (1, .ref 4)] [] SHF M := by
  refine AW.iconst (dq rfl) ?_
  show AW l (pI pg 125) P kc ks 1 _ _ SHF _
  refine AW.istore_n (dq rfl) (by decide +kernel) ?_
  show AW l (pI pg 125) P kc ks 2 [(2, .int (Int32.ofInt 0)), (0, .ref 33), (1, .ref 4)] [] SHF _
  refine AW.iconst (dq rfl) ?_
  show AW l (pI pg 125) P kc ks 3 _ _ SHF _
  refine AW.istore_n (dq rfl) (by decide +kernel) ?_
  show AW l (pI pg 125) P kc ks 4 [(3, .int (Int32.ofInt 0)), (2, .int (Int32.ofInt 0)), (0, .ref 33), (1, .ref 4)] [] SHF _
  refine AW.drop (lv' := [(3, .int (Int32.ofInt 0)), (2, .int (Int32.ofInt 0)), (1, .ref 4), (0, .ref 33)]) (List.forall_mem_cons.mpr ⟨List.mem_of_getElem? (i := 0) rfl, List.forall_mem_cons.mpr ⟨List.mem_of_getElem? (i := 1) rfl, List.forall_mem_cons.mpr ⟨List.mem_of_getElem? (i := 3) rfl, List.forall_mem_cons.mpr ⟨List.mem_of_getElem? (i := 2) rfl, fun _ h => absurd h List.not_mem_nil⟩⟩⟩⟩) ?_
  exact k1

theorem mipa_4 {l : aL} {P : aP} {kc ks : Nat} {p : Nat} {v : Int32} {M : aM}  (hl0 : l.1.stackTraces = false) (r2 : ∀ (h1 : (M.1 4 0 : Int32) ≤ (nI p : Int32)), P (.inl (some (.int (v)))) SHF M) (Q3 : Int32 → aM → Prop) (c4 : ∀ (h1 : ¬ ((M.1 4 0 : Int32) ≤ (nI p : Int32))), AC l (pI pg 18) (fcI M Q3) 0 0 [.ref 4] SHF M) (Q5 : Int32 → aM → Int32 → aM → Prop) (c6 : ∀ (h1 : ¬ ((M.1 4 0 : Int32) ≤ (nI p : Int32))), ∀ (y3 : Int32), ∀ (M3 : aM), ∀ (e3 : M3.2.2 = M.2.2), ∀ (q3 : Q3 y3 M3), AC l (pI pg 32) (fcI M3 (Q5 y3 M3)) 0 0 [.ref 4] SHF M3) (Q7 : Int32 → aM → Int32 → aM → Int32 → aM → Prop) (c8 : ∀ (h1 : ¬ ((M.1 4 0 : Int32) ≤ (nI p : Int32))), ∀ (y3 : Int32), ∀ (M3 : aM), ∀ (e3 : M3.2.2 = M.2.2), ∀ (q3 : Q3 y3 M3), ∀ (y5 : Int32), ∀ (M5 : aM), ∀ (e5 : M5.2.2 = M3.2.2), ∀ (q5 : (Q5 y3 M3) y5 M5), AC l (pI pg 119) (fcI M5 (Q7 y3 M3 y5 M5)) 0 0 [.ref 33, .int (y3), .long ((Int64.ofNat (1 : Fin 2)) <<< (((y5) ^^^ ((Int32.ofInt 1) <<< ((nI p) &&& 31))).toInt64 &&& 63))] SHF M5) (k10 : ∀ (h1 : ¬ ((M.1 4 0 : Int32) ≤ (nI p : Int32))), ∀ (y3 : Int32), ∀ (M3 : aM), ∀ (e3 : M3.2.2 = M.2.2), ∀ (q3 : Q3 y3 M3), ∀ (y5 : Int32), ∀ (M5 : aM), ∀ (e5 : M5.2.2 = M3.2.2), ∀ (q5 : (Q5 y3 M3) y5 M5), ∀ (y7 : Int32), ∀ (M7 : aM), ∀ (e7 : M7.2.2 = M5.2.2), ∀ (q7 : (Q7 y3 M3 y5 M5) y7 M7), ∀ (h9 : ¬ (y7 : Int32) = 0), AW l (pI pg 125) P kc ks 4 [(3, .int ((nI p) + Int32.ofInt 1)), (2, .int (v)), (1, .ref 4), (0, .ref 33)] [] SHF M7) (k11 : ∀ (h1 : ¬ ((M.1 4 0 : Int32) ≤ (nI p : Int32))), ∀ (y3 : Int32), ∀ (M3 : aM), ∀ (e3 : M3.2.2 = M.2.2), ∀ (q3 : Q3 y3 M3), ∀ (y5 : Int32), ∀ (M5 : aM), ∀ (e5 : M5.2.2 = M3.2.2), ∀ (q5 : (Q5 y3 M3) y5 M5), ∀ (y7 : Int32), ∀ (M7 : aM), ∀ (e7 : M7.2.2 = M5.2.2), ∀ (q7 : (Q7 y3 M3 y5 M5) y7 M7), ∀ (h9 : (y7 : Int32) = 0), AW l (pI pg 125) P kc ks 4 [(3, .int ((nI p) + Int32.ofInt 1)), (2, .int ((v) ||| ((Int32.ofInt 1) <<< ((nI p) &&& 31)))), (1, .ref 4), (0, .ref 33)] [] SHF M7) : AW l (pI pg 125) P kc ks 4 [(3, .int (nI p)), (2, .int (v)), (1, .ref 4), (0, .ref 33)] [] SHF M := by
  refine AW.iload_n (dq rfl) rfl ?_
  show AW l (pI pg 125) P kc ks 5 _ _ SHF _
  refine AW.aload_n (dq rfl) rfl rfl ?_
  show AW l (pI pg 125) P kc ks 6 _ _ SHF _
  refine fw_get (dq rfl) (pg_ok.2.1 125 _ _ _ _ rfl) rfl (v := .int (M.1 4 0)) rfl ?_
  show AW l (pI pg 125) P kc ks 9 _ _ SHF _
  refine AW.icmp_ge (dq rfl) (tgt := 45) (by decide) (fun h1 => ?_) (fun h1 => ?_)
  · have _ := h1
    refine AW.iload_n (dq rfl) rfl ?_
    show AW l (pI pg 125) P kc ks 46 _ _ SHF _
    refine AW.iret (dq rfl) rfl ?_
    exact r2 h1
  · have _ := h1
    refine AW.aload_n (dq rfl) rfl rfl ?_
    show AW l (pI pg 125) P kc ks 13 _ _ SHF _
    refine AW.aload_n (dq rfl) rfl rfl ?_
    show AW l (pI pg 125) P kc ks 14 _ _ SHF _
    refine fw_callVI (as := []) (dq rfl) (pg_ok.2.2.1 125 _ _ _ _ rfl) rfl (by decide +kernel) rfl rfl (c4 h1) (fun y3 M3 e3 q3 => ?_)
    show AW l (pI pg 125) P kc ks 17 [(3, .int (nI p)), (2, .int (v)), (1, .ref 4), (0, .ref 33)] [.int (y3), .ref 33] SHF _
    refine AW.lconst (dq rfl) ?_
    show AW l (pI pg 125) P kc ks 18 _ _ SHF _
    refine AW.aload_n (dq rfl) rfl rfl ?_
    show AW l (pI pg 125) P kc ks 19 _ _ SHF _
    refine fw_callVI (as := []) (dq rfl) (pg_ok.2.2.1 125 _ _ _ _ rfl) rfl (by decide +kernel) rfl rfl (c6 h1 y3 M3 e3 q3) (fun y5 M5 e5 q5 => ?_)
    show AW l (pI pg 125) P kc ks 22 [(3, .int (nI p)), (2, .int (v)), (1, .ref 4), (0, .ref 33)] [.int (y5), .long (Int64.ofNat (1 : Fin 2)), .int (y3), .ref 33] SHF _
    refine AW.iconst (dq rfl) ?_
    show AW l (pI pg 125) P kc ks 23 _ _ SHF _
    refine AW.iload_n (dq rfl) rfl ?_
    show AW l (pI pg 125) P kc ks 24 _ _ SHF _
    refine AW.ishl (dq rfl) ?_
    show AW l (pI pg 125) P kc ks 25 _ _ SHF _
    refine AW.ixor (dq rfl) ?_
    show AW l (pI pg 125) P kc ks 26 _ _ SHF _
    refine AW.lshl (dq rfl) ?_
    show AW l (pI pg 125) P kc ks 27 _ _ SHF _
    refine fw_callVI (as := [.int (y3), .long ((Int64.ofNat (1 : Fin 2)) <<< (((y5) ^^^ ((Int32.ofInt 1) <<< ((nI p) &&& 31))).toInt64 &&& 63))]) (dq rfl) (pg_ok.2.2.1 125 _ _ _ _ rfl) rfl (by decide +kernel) rfl rfl (c8 h1 y3 M3 e3 q3 y5 M5 e5 q5) (fun y7 M7 e7 q7 => ?_)
    show AW l (pI pg 125) P kc ks 30 [(3, .int (nI p)), (2, .int (v)), (1, .ref 4), (0, .ref 33)] [.int (y7)] SHF _
    refine AW.if_ne (dq rfl) (tgt := 39) (by decide) (fun h9 => ?_) (fun h9 => ?_)
    · have _ := h9
      refine AW.iinc (dq rfl) rfl (by decide +kernel) ?_
      show AW l (pI pg 125) P kc ks 42 [(3, .int ((nI p) + Int32.ofInt 1)), (2, .int (v)), (1, .ref 4), (0, .ref 33)] [] SHF _
      refine AW.goto (dq rfl) (tgt := 4) (by decide) ?_
      refine AW.drop (lv' := [(3, .int ((nI p) + Int32.ofInt 1)), (2, .int (v)), (1, .ref 4), (0, .ref 33)]) (List.forall_mem_cons.mpr ⟨List.mem_of_getElem? (i := 0) rfl, List.forall_mem_cons.mpr ⟨List.mem_of_getElem? (i := 1) rfl, List.forall_mem_cons.mpr ⟨List.mem_of_getElem? (i := 2) rfl, List.forall_mem_cons.mpr ⟨List.mem_of_getElem? (i := 3) rfl, fun _ h => absurd h List.not_mem_nil⟩⟩⟩⟩) ?_
      exact k10 h1 y3 M3 e3 q3 y5 M5 e5 q5 y7 M7 e7 q7 h9
    · have _ := h9
      refine AW.iload_n (dq rfl) rfl ?_
      show AW l (pI pg 125) P kc ks 34 _ _ SHF _
      refine AW.iconst (dq rfl) ?_
      show AW l (pI pg 125) P kc ks 35 _ _ SHF _
      refine AW.iload_n (dq rfl) rfl ?_
      show AW l (pI pg 125) P kc ks 36 _ _ SHF _
      refine AW.ishl (dq rfl) ?_
      show AW l (pI pg 125) P kc ks 37 _ _ SHF _
      refine AW.ior (dq rfl) ?_
      show AW l (pI pg 125) P kc ks 38 _ _ SHF _
      refine AW.istore_n (dq rfl) (by decide +kernel) ?_
      show AW l (pI pg 125) P kc ks 39 [(2, .int ((v) ||| ((Int32.ofInt 1) <<< ((nI p) &&& 31)))), (3, .int (nI p)), (1, .ref 4), (0, .ref 33)] [] SHF _
      refine AW.iinc (dq rfl) rfl (by decide +kernel) ?_
      show AW l (pI pg 125) P kc ks 42 [(3, .int ((nI p) + Int32.ofInt 1)), (2, .int ((v) ||| ((Int32.ofInt 1) <<< ((nI p) &&& 31)))), (1, .ref 4), (0, .ref 33)] [] SHF _
      refine AW.goto (dq rfl) (tgt := 4) (by decide) ?_
      refine AW.drop (lv' := [(3, .int ((nI p) + Int32.ofInt 1)), (2, .int ((v) ||| ((Int32.ofInt 1) <<< ((nI p) &&& 31)))), (1, .ref 4), (0, .ref 33)]) (List.forall_mem_cons.mpr ⟨List.mem_of_getElem? (i := 0) rfl, List.forall_mem_cons.mpr ⟨List.mem_of_getElem? (i := 1) rfl, List.forall_mem_cons.mpr ⟨List.mem_of_getElem? (i := 2) rfl, List.forall_mem_cons.mpr ⟨List.mem_of_getElem? (i := 3) rfl, fun _ h => absurd h List.not_mem_nil⟩⟩⟩⟩) ?_
      exact k11 h1 y3 M3 e3 q3 y5 M5 e5 q5 y7 M7 e7 q7 h9

theorem mica_0 {l : aL} {P : aP} {kc ks : Nat} {M : aM}  (hl0 : l.1.stackTraces = false) (k1 : AW l (pI pg 126) P kc ks 4 [(3, .int (Int32.ofInt 0)), (2, .int (Int32.ofInt 0)), (1, .ref 4), (0, .ref 33)] [] SHF M) : AW l (pI pg 126) P kc ks 0 [(0, .ref 33), (1, .ref 4)] [] SHF M := by
  refine AW.iconst (dq rfl) ?_
  show AW l (pI pg 126) P kc ks 1 _ _ SHF _
  refine AW.istore_n (dq rfl) (by decide +kernel) ?_
  show AW l (pI pg 126) P kc ks 2 [(2, .int (Int32.ofInt 0)), (0, .ref 33), (1, .ref 4)] [] SHF _
  refine AW.iconst (dq rfl) ?_
  show AW l (pI pg 126) P kc ks 3 _ _ SHF _
  refine AW.istore_n (dq rfl) (by decide +kernel) ?_
  show AW l (pI pg 126) P kc ks 4 [(3, .int (Int32.ofInt 0)), (2, .int (Int32.ofInt 0)), (0, .ref 33), (1, .ref 4)] [] SHF _
  refine AW.drop (lv' := [(3, .int (Int32.ofInt 0)), (2, .int (Int32.ofInt 0)), (1, .ref 4), (0, .ref 33)]) (List.forall_mem_cons.mpr ⟨List.mem_of_getElem? (i := 0) rfl, List.forall_mem_cons.mpr ⟨List.mem_of_getElem? (i := 1) rfl, List.forall_mem_cons.mpr ⟨List.mem_of_getElem? (i := 3) rfl, List.forall_mem_cons.mpr ⟨List.mem_of_getElem? (i := 2) rfl, fun _ h => absurd h List.not_mem_nil⟩⟩⟩⟩) ?_
  exact k1

theorem mica_4 {l : aL} {P : aP} {kc ks : Nat} {p : Nat} {v : Int32} {M : aM}  (hl0 : l.1.stackTraces = false) (r2 : ∀ (h1 : (M.1 4 0 : Int32) ≤ (nI p : Int32)), P (.inl (some (.int (v)))) SHF M) (k3 : ∀ (h1 : ¬ ((M.1 4 0 : Int32) ≤ (nI p : Int32))), AW l (pI pg 126) P kc ks 17 [(4, .int ((nI p) + (Int32.ofInt 1))), (3, .int (nI p)), (2, .int (v)), (1, .ref 4), (0, .ref 33)] [] SHF M) : AW l (pI pg 126) P kc ks 4 [(3, .int (nI p)), (2, .int (v)), (1, .ref 4), (0, .ref 33)] [] SHF M := by
  refine AW.iload_n (dq rfl) rfl ?_
  show AW l (pI pg 126) P kc ks 5 _ _ SHF _
  refine AW.aload_n (dq rfl) rfl rfl ?_
  show AW l (pI pg 126) P kc ks 6 _ _ SHF _
  refine fw_get (dq rfl) (pg_ok.2.1 126 _ _ _ _ rfl) rfl (v := .int (M.1 4 0)) rfl ?_
  show AW l (pI pg 126) P kc ks 9 _ _ SHF _
  refine AW.icmp_ge (dq rfl) (tgt := 71) (by decide) (fun h1 => ?_) (fun h1 => ?_)
  · have _ := h1
    refine AW.iload_n (dq rfl) rfl ?_
    show AW l (pI pg 126) P kc ks 72 _ _ SHF _
    refine AW.iret (dq rfl) rfl ?_
    exact r2 h1
  · have _ := h1
    refine AW.iload_n (dq rfl) rfl ?_
    show AW l (pI pg 126) P kc ks 13 _ _ SHF _
    refine AW.iconst (dq rfl) ?_
    show AW l (pI pg 126) P kc ks 14 _ _ SHF _
    refine AW.iadd (dq rfl) ?_
    show AW l (pI pg 126) P kc ks 15 _ _ SHF _
    refine AW.istore (dq rfl) (by decide +kernel) ?_
    show AW l (pI pg 126) P kc ks 17 [(4, .int ((nI p) + (Int32.ofInt 1))), (3, .int (nI p)), (2, .int (v)), (1, .ref 4), (0, .ref 33)] [] SHF _
    refine AW.drop (lv' := [(4, .int ((nI p) + (Int32.ofInt 1))), (3, .int (nI p)), (2, .int (v)), (1, .ref 4), (0, .ref 33)]) (List.forall_mem_cons.mpr ⟨List.mem_of_getElem? (i := 0) rfl, List.forall_mem_cons.mpr ⟨List.mem_of_getElem? (i := 1) rfl, List.forall_mem_cons.mpr ⟨List.mem_of_getElem? (i := 2) rfl, List.forall_mem_cons.mpr ⟨List.mem_of_getElem? (i := 3) rfl, List.forall_mem_cons.mpr ⟨List.mem_of_getElem? (i := 4) rfl, fun _ h => absurd h List.not_mem_nil⟩⟩⟩⟩⟩) ?_
    exact k3 h1

theorem mica_17 {l : aL} {P : aP} {kc ks : Nat} {p q : Nat} {v : Int32} {M : aM}  (hl0 : l.1.stackTraces = false) (k2 : ∀ (h1 : (M.1 4 0 : Int32) ≤ (nI q : Int32)), AW l (pI pg 126) P kc ks 4 [(3, .int ((nI p) + Int32.ofInt 1)), (2, .int (v)), (1, .ref 4), (0, .ref 33)] [] SHF M) (Q3 : Int32 → aM → Prop) (c4 : ∀ (h1 : ¬ ((M.1 4 0 : Int32) ≤ (nI q : Int32))), AC l (pI pg 32) (fcI M Q3) 0 0 [.ref 4] SHF M) (Q5 : Int32 → aM → Int32 → aM → Prop) (c6 : ∀ (h1 : ¬ ((M.1 4 0 : Int32) ≤ (nI q : Int32))), ∀ (y3 : Int32), ∀ (M3 : aM), ∀ (e3 : M3.2.2 = M.2.2), ∀ (q3 : Q3 y3 M3), AC l (pI pg 18) (fcI M3 (Q5 y3 M3)) 0 0 [.ref 4] SHF M3) (Q7 : Int32 → aM → Int32 → aM → Int32 → aM → Prop) (c8 : ∀ (h1 : ¬ ((M.1 4 0 : Int32) ≤ (nI q : Int32))), ∀ (y3 : Int32), ∀ (M3 : aM), ∀ (e3 : M3.2.2 = M.2.2), ∀ (q3 : Q3 y3 M3), ∀ (y5 : Int32), ∀ (M5 : aM), ∀ (e5 : M5.2.2 = M3.2.2), ∀ (q5 : (Q5 y3 M3) y5 M5), AC l (pI pg 119) (fcI M5 (Q7 y3 M3 y5 M5)) 0 0 [.ref 33, .int (y5), .long ((Int64.ofNat (1 : Fin 2)) <<< ((((y3) ^^^ ((Int32.ofInt 1) <<< ((nI p) &&& 31))) ^^^ ((Int32.ofInt 1) <<< ((nI q) &&& 31))).toInt64 &&& 63))] SHF M5) (k10 : ∀ (h1 : ¬ ((M.1 4 0 : Int32) ≤ (nI q : Int32))), ∀ (y3 : Int32), ∀ (M3 : aM), ∀ (e3 : M3.2.2 = M.2.2), ∀ (q3 : Q3 y3 M3), ∀ (y5 : Int32), ∀ (M5 : aM), ∀ (e5 : M5.2.2 = M3.2.2), ∀ (q5 : (Q5 y3 M3) y5 M5), ∀ (y7 : Int32), ∀ (M7 : aM), ∀ (e7 : M7.2.2 = M5.2.2), ∀ (q7 : (Q7 y3 M3 y5 M5) y7 M7), ∀ (h9 : ¬ (y7 : Int32) = 0), AW l (pI pg 126) P kc ks 17 [(4, .int ((nI q) + Int32.ofInt 1)), (3, .int (nI p)), (2, .int (v)), (1, .ref 4), (0, .ref 33)] [] SHF M7) (k11 : ∀ (h1 : ¬ ((M.1 4 0 : Int32) ≤ (nI q : Int32))), ∀ (y3 : Int32), ∀ (M3 : aM), ∀ (e3 : M3.2.2 = M.2.2), ∀ (q3 : Q3 y3 M3), ∀ (y5 : Int32), ∀ (M5 : aM), ∀ (e5 : M5.2.2 = M3.2.2), ∀ (q5 : (Q5 y3 M3) y5 M5), ∀ (y7 : Int32), ∀ (M7 : aM), ∀ (e7 : M7.2.2 = M5.2.2), ∀ (q7 : (Q7 y3 M3 y5 M5) y7 M7), ∀ (h9 : (y7 : Int32) = 0), AW l (pI pg 126) P kc ks 17 [(4, .int ((nI q) + Int32.ofInt 1)), (3, .int (nI p)), (2, .int ((v) + Int32.ofInt 1)), (1, .ref 4), (0, .ref 33)] [] SHF M7) : AW l (pI pg 126) P kc ks 17 [(4, .int (nI q)), (3, .int (nI p)), (2, .int (v)), (1, .ref 4), (0, .ref 33)] [] SHF M := by
  refine AW.iload (dq rfl) rfl ?_
  show AW l (pI pg 126) P kc ks 19 _ _ SHF _
  refine AW.aload_n (dq rfl) rfl rfl ?_
  show AW l (pI pg 126) P kc ks 20 _ _ SHF _
  refine fw_get (dq rfl) (pg_ok.2.1 126 _ _ _ _ rfl) rfl (v := .int (M.1 4 0)) rfl ?_
  show AW l (pI pg 126) P kc ks 23 _ _ SHF _
  refine AW.icmp_ge (dq rfl) (tgt := 65) (by decide) (fun h1 => ?_) (fun h1 => ?_)
  · have _ := h1
    refine AW.iinc (dq rfl) rfl (by decide +kernel) ?_
    show AW l (pI pg 126) P kc ks 68 [(3, .int ((nI p) + Int32.ofInt 1)), (4, .int (nI q)), (2, .int (v)), (1, .ref 4), (0, .ref 33)] [] SHF _
    refine AW.goto (dq rfl) (tgt := 4) (by decide) ?_
    refine AW.drop (lv' := [(3, .int ((nI p) + Int32.ofInt 1)), (2, .int (v)), (1, .ref 4), (0, .ref 33)]) (List.forall_mem_cons.mpr ⟨List.mem_of_getElem? (i := 0) rfl, List.forall_mem_cons.mpr ⟨List.mem_of_getElem? (i := 2) rfl, List.forall_mem_cons.mpr ⟨List.mem_of_getElem? (i := 3) rfl, List.forall_mem_cons.mpr ⟨List.mem_of_getElem? (i := 4) rfl, fun _ h => absurd h List.not_mem_nil⟩⟩⟩⟩) ?_
    exact k2 h1
  · have _ := h1
    refine AW.aload_n (dq rfl) rfl rfl ?_
    show AW l (pI pg 126) P kc ks 27 _ _ SHF _
    refine fw_callVI (as := []) (dq rfl) (pg_ok.2.2.1 126 _ _ _ _ rfl) rfl (by decide +kernel) rfl rfl (c4 h1) (fun y3 M3 e3 q3 => ?_)
    show AW l (pI pg 126) P kc ks 30 [(4, .int (nI q)), (3, .int (nI p)), (2, .int (v)), (1, .ref 4), (0, .ref 33)] [.int (y3)] SHF _
    refine AW.iconst (dq rfl) ?_
    show AW l (pI pg 126) P kc ks 31 _ _ SHF _
    refine AW.iload_n (dq rfl) rfl ?_
    show AW l (pI pg 126) P kc ks 32 _ _ SHF _
    refine AW.ishl (dq rfl) ?_
    show AW l (pI pg 126) P kc ks 33 _ _ SHF _
    refine AW.ixor (dq rfl) ?_
    show AW l (pI pg 126) P kc ks 34 _ _ SHF _
    refine AW.iconst (dq rfl) ?_
    show AW l (pI pg 126) P kc ks 35 _ _ SHF _
    refine AW.iload (dq rfl) rfl ?_
    show AW l (pI pg 126) P kc ks 37 _ _ SHF _
    refine AW.ishl (dq rfl) ?_
    show AW l (pI pg 126) P kc ks 38 _ _ SHF _
    refine AW.ixor (dq rfl) ?_
    show AW l (pI pg 126) P kc ks 39 _ _ SHF _
    refine AW.istore (dq rfl) (by decide +kernel) ?_
    show AW l (pI pg 126) P kc ks 41 [(5, .int (((y3) ^^^ ((Int32.ofInt 1) <<< ((nI p) &&& 31))) ^^^ ((Int32.ofInt 1) <<< ((nI q) &&& 31)))), (4, .int (nI q)), (3, .int (nI p)), (2, .int (v)), (1, .ref 4), (0, .ref 33)] [] SHF _
    refine AW.aload_n (dq rfl) rfl rfl ?_
    show AW l (pI pg 126) P kc ks 42 _ _ SHF _
    refine AW.aload_n (dq rfl) rfl rfl ?_
    show AW l (pI pg 126) P kc ks 43 _ _ SHF _
    refine fw_callVI (as := []) (dq rfl) (pg_ok.2.2.1 126 _ _ _ _ rfl) rfl (by decide +kernel) rfl rfl (c6 h1 y3 M3 e3 q3) (fun y5 M5 e5 q5 => ?_)
    show AW l (pI pg 126) P kc ks 46 [(5, .int (((y3) ^^^ ((Int32.ofInt 1) <<< ((nI p) &&& 31))) ^^^ ((Int32.ofInt 1) <<< ((nI q) &&& 31)))), (4, .int (nI q)), (3, .int (nI p)), (2, .int (v)), (1, .ref 4), (0, .ref 33)] [.int (y5), .ref 33] SHF _
    refine AW.lconst (dq rfl) ?_
    show AW l (pI pg 126) P kc ks 47 _ _ SHF _
    refine AW.iload (dq rfl) rfl ?_
    show AW l (pI pg 126) P kc ks 49 _ _ SHF _
    refine AW.lshl (dq rfl) ?_
    show AW l (pI pg 126) P kc ks 50 _ _ SHF _
    refine fw_callVI (as := [.int (y5), .long ((Int64.ofNat (1 : Fin 2)) <<< ((((y3) ^^^ ((Int32.ofInt 1) <<< ((nI p) &&& 31))) ^^^ ((Int32.ofInt 1) <<< ((nI q) &&& 31))).toInt64 &&& 63))]) (dq rfl) (pg_ok.2.2.1 126 _ _ _ _ rfl) rfl (by decide +kernel) rfl rfl (c8 h1 y3 M3 e3 q3 y5 M5 e5 q5) (fun y7 M7 e7 q7 => ?_)
    show AW l (pI pg 126) P kc ks 53 [(5, .int (((y3) ^^^ ((Int32.ofInt 1) <<< ((nI p) &&& 31))) ^^^ ((Int32.ofInt 1) <<< ((nI q) &&& 31)))), (4, .int (nI q)), (3, .int (nI p)), (2, .int (v)), (1, .ref 4), (0, .ref 33)] [.int (y7)] SHF _
    refine AW.if_ne (dq rfl) (tgt := 59) (by decide) (fun h9 => ?_) (fun h9 => ?_)
    · have _ := h9
      refine AW.iinc (dq rfl) rfl (by decide +kernel) ?_
      show AW l (pI pg 126) P kc ks 62 [(4, .int ((nI q) + Int32.ofInt 1)), (5, .int (((y3) ^^^ ((Int32.ofInt 1) <<< ((nI p) &&& 31))) ^^^ ((Int32.ofInt 1) <<< ((nI q) &&& 31)))), (3, .int (nI p)), (2, .int (v)), (1, .ref 4), (0, .ref 33)] [] SHF _
      refine AW.goto (dq rfl) (tgt := 17) (by decide) ?_
      refine AW.drop (lv' := [(4, .int ((nI q) + Int32.ofInt 1)), (3, .int (nI p)), (2, .int (v)), (1, .ref 4), (0, .ref 33)]) (List.forall_mem_cons.mpr ⟨List.mem_of_getElem? (i := 0) rfl, List.forall_mem_cons.mpr ⟨List.mem_of_getElem? (i := 2) rfl, List.forall_mem_cons.mpr ⟨List.mem_of_getElem? (i := 3) rfl, List.forall_mem_cons.mpr ⟨List.mem_of_getElem? (i := 4) rfl, List.forall_mem_cons.mpr ⟨List.mem_of_getElem? (i := 5) rfl, fun _ h => absurd h List.not_mem_nil⟩⟩⟩⟩⟩) ?_
      exact k10 h1 y3 M3 e3 q3 y5 M5 e5 q5 y7 M7 e7 q7 h9
    · have _ := h9
      refine AW.iinc (dq rfl) rfl (by decide +kernel) ?_
      show AW l (pI pg 126) P kc ks 59 [(2, .int ((v) + Int32.ofInt 1)), (5, .int (((y3) ^^^ ((Int32.ofInt 1) <<< ((nI p) &&& 31))) ^^^ ((Int32.ofInt 1) <<< ((nI q) &&& 31)))), (4, .int (nI q)), (3, .int (nI p)), (1, .ref 4), (0, .ref 33)] [] SHF _
      refine AW.iinc (dq rfl) rfl (by decide +kernel) ?_
      show AW l (pI pg 126) P kc ks 62 [(4, .int ((nI q) + Int32.ofInt 1)), (2, .int ((v) + Int32.ofInt 1)), (5, .int (((y3) ^^^ ((Int32.ofInt 1) <<< ((nI p) &&& 31))) ^^^ ((Int32.ofInt 1) <<< ((nI q) &&& 31)))), (3, .int (nI p)), (1, .ref 4), (0, .ref 33)] [] SHF _
      refine AW.goto (dq rfl) (tgt := 17) (by decide) ?_
      refine AW.drop (lv' := [(4, .int ((nI q) + Int32.ofInt 1)), (3, .int (nI p)), (2, .int ((v) + Int32.ofInt 1)), (1, .ref 4), (0, .ref 33)]) (List.forall_mem_cons.mpr ⟨List.mem_of_getElem? (i := 0) rfl, List.forall_mem_cons.mpr ⟨List.mem_of_getElem? (i := 3) rfl, List.forall_mem_cons.mpr ⟨List.mem_of_getElem? (i := 1) rfl, List.forall_mem_cons.mpr ⟨List.mem_of_getElem? (i := 4) rfl, List.forall_mem_cons.mpr ⟨List.mem_of_getElem? (i := 5) rfl, fun _ h => absurd h List.not_mem_nil⟩⟩⟩⟩⟩) ?_
      exact k11 h1 y3 M3 e3 q3 y5 M5 e5 q5 y7 M7 e7 q7 h9

theorem anya_0 {l : aL} {P : aP} {kc ks : Nat} {x : Int32} {M : aM} (hJ : ∀ e ∈ RR.2, M.2.2 e.1 e.2.1 = e.2.2) (hl0 : l.1.stackTraces = false) (Q2 : Int32 → aM → Prop) (c3 : ∀ (h1 : (x : Int32) = Int32.ofInt 0), AC l (pI pg 125) (fcI M Q2) 0 0 [.ref 33, .ref 4] SHF M) (r4 : ∀ (h1 : (x : Int32) = Int32.ofInt 0), ∀ (y2 : Int32), ∀ (M2 : aM), ∀ (e2 : M2.2.2 = M.2.2), ∀ (q2 : Q2 y2 M2), P (.inl (some (.int (y2)))) SHF M2) (Q6 : Int32 → aM → Prop) (c7 : ∀ (h1 : ¬ (x : Int32) = Int32.ofInt 0), ∀ (h5 : (x : Int32) = Int32.ofInt 1), AC l (pI pg 126) (fcI M Q6) 0 0 [.ref 33, .ref 4] SHF M) (r8 : ∀ (h1 : ¬ (x : Int32) = Int32.ofInt 0), ∀ (h5 : (x : Int32) = Int32.ofInt 1), ∀ (y6 : Int32), ∀ (M6 : aM), ∀ (e6 : M6.2.2 = M.2.2), ∀ (q6 : Q6 y6 M6), P (.inl (some (.int (y6)))) SHF M6) (Q10 : Int32 → aM → Prop) (c11 : ∀ (h1 : ¬ (x : Int32) = Int32.ofInt 0), ∀ (h5 : ¬ (x : Int32) = Int32.ofInt 1), ∀ (h9 : (x : Int32) = Int32.ofInt 2), AC l (pI pg 18) (fcI M Q10) 0 0 [.ref 4] SHF M) (Q12 : Int32 → aM → Int64 → aM → Prop) (c13 : ∀ (h1 : ¬ (x : Int32) = Int32.ofInt 0), ∀ (h5 : ¬ (x : Int32) = Int32.ofInt 1), ∀ (h9 : (x : Int32) = Int32.ofInt 2), ∀ (y10 : Int32), ∀ (M10 : aM), ∀ (e10 : M10.2.2 = M.2.2), ∀ (q10 : Q10 y10 M10), AC l (pI pg 31) (fcJ M10 (Q12 y10 M10)) 0 0 [.ref 4] SHF M10) (Q14 : Int32 → aM → Int64 → aM → Int32 → aM → Prop) (c15 : ∀ (h1 : ¬ (x : Int32) = Int32.ofInt 0), ∀ (h5 : ¬ (x : Int32) = Int32.ofInt 1), ∀ (h9 : (x : Int32) = Int32.ofInt 2), ∀ (y10 : Int32), ∀ (M10 : aM), ∀ (e10 : M10.2.2 = M.2.2), ∀ (q10 : Q10 y10 M10), ∀ (y12 : Int64), ∀ (M12 : aM), ∀ (e12 : M12.2.2 = M10.2.2), ∀ (q12 : (Q12 y10 M10) y12 M12), AC l (pI pg 119) (fcI M12 (Q14 y10 M10 y12 M12)) 0 0 [.ref 33, .int (y10), .long (y12)] SHF M12) (r17 : ∀ (h1 : ¬ (x : Int32) = Int32.ofInt 0), ∀ (h5 : ¬ (x : Int32) = Int32.ofInt 1), ∀ (h9 : (x : Int32) = Int32.ofInt 2), ∀ (y10 : Int32), ∀ (M10 : aM), ∀ (e10 : M10.2.2 = M.2.2), ∀ (q10 : Q10 y10 M10), ∀ (y12 : Int64), ∀ (M12 : aM), ∀ (e12 : M12.2.2 = M10.2.2), ∀ (q12 : (Q12 y10 M10) y12 M12), ∀ (y14 : Int32), ∀ (M14 : aM), ∀ (e14 : M14.2.2 = M12.2.2), ∀ (q14 : (Q14 y10 M10 y12 M12) y14 M14), ∀ (h16 : (y14 : Int32) = 0), P (.inl (some (.int (Int32.ofInt 0)))) SHF M14) (r18 : ∀ (h1 : ¬ (x : Int32) = Int32.ofInt 0), ∀ (h5 : ¬ (x : Int32) = Int32.ofInt 1), ∀ (h9 : (x : Int32) = Int32.ofInt 2), ∀ (y10 : Int32), ∀ (M10 : aM), ∀ (e10 : M10.2.2 = M.2.2), ∀ (q10 : Q10 y10 M10), ∀ (y12 : Int64), ∀ (M12 : aM), ∀ (e12 : M12.2.2 = M10.2.2), ∀ (q12 : (Q12 y10 M10) y12 M12), ∀ (y14 : Int32), ∀ (M14 : aM), ∀ (e14 : M14.2.2 = M12.2.2), ∀ (q14 : (Q14 y10 M10 y12 M12) y14 M14), ∀ (h16 : ¬ ((y14 : Int32) = 0)), P (.inl (some (.int (Int32.ofInt 1)))) SHF M14) (Q20 : Int32 → aM → Prop) (c21 : ∀ (h1 : ¬ (x : Int32) = Int32.ofInt 0), ∀ (h5 : ¬ (x : Int32) = Int32.ofInt 1), ∀ (h9 : ¬ (x : Int32) = Int32.ofInt 2), ∀ (h19 : (x : Int32) = Int32.ofInt 3), AC l (pI pg 18) (fcI M Q20) 0 0 [.ref 4] SHF M) (Q22 : Int32 → aM → Int64 → aM → Prop) (c23 : ∀ (h1 : ¬ (x : Int32) = Int32.ofInt 0), ∀ (h5 : ¬ (x : Int32) = Int32.ofInt 1), ∀ (h9 : ¬ (x : Int32) = Int32.ofInt 2), ∀ (h19 : (x : Int32) = Int32.ofInt 3), ∀ (y20 : Int32), ∀ (M20 : aM), ∀ (e20 : M20.2.2 = M.2.2), ∀ (q20 : Q20 y20 M20), AC l (pI pg 127) (fcJ M20 (Q22 y20 M20)) 0 0 [.ref 4] SHF M20) (Q24 : Int32 → aM → Int64 → aM → Int32 → aM → Prop) (c25 : ∀ (h1 : ¬ (x : Int32) = Int32.ofInt 0), ∀ (h5 : ¬ (x : Int32) = Int32.ofInt 1), ∀ (h9 : ¬ (x : Int32) = Int32.ofInt 2), ∀ (h19 : (x : Int32) = Int32.ofInt 3), ∀ (y20 : Int32), ∀ (M20 : aM), ∀ (e20 : M20.2.2 = M.2.2), ∀ (q20 : Q20 y20 M20), ∀ (y22 : Int64), ∀ (M22 : aM), ∀ (e22 : M22.2.2 = M20.2.2), ∀ (q22 : (Q22 y20 M20) y22 M22), AC l (pI pg 119) (fcI M22 (Q24 y20 M20 y22 M22)) 0 0 [.ref 33, .int (y20), .long (y22)] SHF M22) (r27 : ∀ (h1 : ¬ (x : Int32) = Int32.ofInt 0), ∀ (h5 : ¬ (x : Int32) = Int32.ofInt 1), ∀ (h9 : ¬ (x : Int32) = Int32.ofInt 2), ∀ (h19 : (x : Int32) = Int32.ofInt 3), ∀ (y20 : Int32), ∀ (M20 : aM), ∀ (e20 : M20.2.2 = M.2.2), ∀ (q20 : Q20 y20 M20), ∀ (y22 : Int64), ∀ (M22 : aM), ∀ (e22 : M22.2.2 = M20.2.2), ∀ (q22 : (Q22 y20 M20) y22 M22), ∀ (y24 : Int32), ∀ (M24 : aM), ∀ (e24 : M24.2.2 = M22.2.2), ∀ (q24 : (Q24 y20 M20 y22 M22) y24 M24), ∀ (h26 : (y24 : Int32) = 0), P (.inl (some (.int (Int32.ofInt 0)))) SHF M24) (r28 : ∀ (h1 : ¬ (x : Int32) = Int32.ofInt 0), ∀ (h5 : ¬ (x : Int32) = Int32.ofInt 1), ∀ (h9 : ¬ (x : Int32) = Int32.ofInt 2), ∀ (h19 : (x : Int32) = Int32.ofInt 3), ∀ (y20 : Int32), ∀ (M20 : aM), ∀ (e20 : M20.2.2 = M.2.2), ∀ (q20 : Q20 y20 M20), ∀ (y22 : Int64), ∀ (M22 : aM), ∀ (e22 : M22.2.2 = M20.2.2), ∀ (q22 : (Q22 y20 M20) y22 M22), ∀ (y24 : Int32), ∀ (M24 : aM), ∀ (e24 : M24.2.2 = M22.2.2), ∀ (q24 : (Q24 y20 M20 y22 M22) y24 M24), ∀ (h26 : ¬ ((y24 : Int32) = 0)), P (.inl (some (.int (Int32.ofInt 1)))) SHF M24) (x29 : ∀ (h1 : ¬ (x : Int32) = Int32.ofInt 0), ∀ (h5 : ¬ (x : Int32) = Int32.ofInt 1), ∀ (h9 : ¬ (x : Int32) = Int32.ofInt 2), ∀ (h19 : ¬ (x : Int32) = Int32.ofInt 3), P (.inr "java/util/NoSuchElementException") SHF M) : AW l (pI pg 124) P (kc + 1) (ks + 6) 0 [(0, .ref 0), (1, .int (x))] [] SHF M := by
  refine AW.iload_n (dq rfl) rfl ?_
  show AW l (pI pg 124) P (kc + 1) (ks + 6) 1 _ _ SHF _
  by_cases h1 : (x : Int32) = Int32.ofInt 0
  · refine AW.tableIn (dq rfl) (by rw [h1]; decide) (by rw [h1]; decide) (off := 31) (by rw [h1]; decide) (tgt := 32) (by decide) ?_
    show AW l (pI pg 124) P (kc + 1) (ks + 6) 32 [(0, .ref 0), (1, .int (x))] [] SHF _
    refine AW.aload_n (dq rfl) rfl rfl ?_
    show AW l (pI pg 124) P (kc + 1) (ks + 6) 33 _ _ SHF _
    refine fw_get (dq rfl) (pg_ok.2.1 124 _ _ _ _ rfl) rfl (v := .ref 33) (isTA_ok rfl (rgR_ok hJ rfl)) ?_
    show AW l (pI pg 124) P (kc + 1) (ks + 6) 36 _ _ SHF _
    refine AW.aload_n (dq rfl) rfl rfl ?_
    show AW l (pI pg 124) P (kc + 1) (ks + 6) 37 _ _ SHF _
    refine fw_get (dq rfl) (pg_ok.2.1 124 _ _ _ _ rfl) rfl (v := .ref 4) (isTA_ok rfl (rgR_ok hJ rfl)) ?_
    show AW l (pI pg 124) P (kc + 1) (ks + 6) 40 _ _ SHF _
    refine fw_callVI (as := [.ref 4]) (dq rfl) (pg_ok.2.2.1 124 _ _ _ _ rfl) rfl (by decide +kernel) rfl rfl (c3 h1) (fun y2 M2 e2 q2 => ?_)
    have hJ2 : ∀ e ∈ RR.2, M2.2.2 e.1 e.2.1 = e.2.2 := fun e he => by rw [e2]; exact hJ e he
    show AW l (pI pg 124) P (kc + 1) (ks + 6) 43 [(0, .ref 0), (1, .int (x))] [.int (y2)] SHF _
    refine AW.iret (dq rfl) rfl ?_
    exact r4 h1 y2 M2 e2 q2
  by_cases h5 : (x : Int32) = Int32.ofInt 1
  · refine AW.tableIn (dq rfl) (by rw [h5]; decide) (by rw [h5]; decide) (off := 43) (by rw [h5]; decide) (tgt := 44) (by decide) ?_
    show AW l (pI pg 124) P (kc + 1) (ks + 6) 44 [(0, .ref 0), (1, .int (x))] [] SHF _
    refine AW.aload_n (dq rfl) rfl rfl ?_
    show AW l (pI pg 124) P (kc + 1) (ks + 6) 45 _ _ SHF _
    refine fw_get (dq rfl) (pg_ok.2.1 124 _ _ _ _ rfl) rfl (v := .ref 33) (isTA_ok rfl (rgR_ok hJ rfl)) ?_
    show AW l (pI pg 124) P (kc + 1) (ks + 6) 48 _ _ SHF _
    refine AW.aload_n (dq rfl) rfl rfl ?_
    show AW l (pI pg 124) P (kc + 1) (ks + 6) 49 _ _ SHF _
    refine fw_get (dq rfl) (pg_ok.2.1 124 _ _ _ _ rfl) rfl (v := .ref 4) (isTA_ok rfl (rgR_ok hJ rfl)) ?_
    show AW l (pI pg 124) P (kc + 1) (ks + 6) 52 _ _ SHF _
    refine fw_callVI (as := [.ref 4]) (dq rfl) (pg_ok.2.2.1 124 _ _ _ _ rfl) rfl (by decide +kernel) rfl rfl (c7 h1 h5) (fun y6 M6 e6 q6 => ?_)
    have hJ6 : ∀ e ∈ RR.2, M6.2.2 e.1 e.2.1 = e.2.2 := fun e he => by rw [e6]; exact hJ e he
    show AW l (pI pg 124) P (kc + 1) (ks + 6) 55 [(0, .ref 0), (1, .int (x))] [.int (y6)] SHF _
    refine AW.iret (dq rfl) rfl ?_
    exact r8 h1 h5 y6 M6 e6 q6
  by_cases h9 : (x : Int32) = Int32.ofInt 2
  · refine AW.tableIn (dq rfl) (by rw [h9]; decide) (by rw [h9]; decide) (off := 55) (by rw [h9]; decide) (tgt := 56) (by decide) ?_
    show AW l (pI pg 124) P (kc + 1) (ks + 6) 56 [(0, .ref 0), (1, .int (x))] [] SHF _
    refine AW.aload_n (dq rfl) rfl rfl ?_
    show AW l (pI pg 124) P (kc + 1) (ks + 6) 57 _ _ SHF _
    refine fw_get (dq rfl) (pg_ok.2.1 124 _ _ _ _ rfl) rfl (v := .ref 33) (isTA_ok rfl (rgR_ok hJ rfl)) ?_
    show AW l (pI pg 124) P (kc + 1) (ks + 6) 60 _ _ SHF _
    refine AW.aload_n (dq rfl) rfl rfl ?_
    show AW l (pI pg 124) P (kc + 1) (ks + 6) 61 _ _ SHF _
    refine fw_get (dq rfl) (pg_ok.2.1 124 _ _ _ _ rfl) rfl (v := .ref 4) (isTA_ok rfl (rgR_ok hJ rfl)) ?_
    show AW l (pI pg 124) P (kc + 1) (ks + 6) 64 _ _ SHF _
    refine fw_callVI (as := []) (dq rfl) (pg_ok.2.2.1 124 _ _ _ _ rfl) rfl (by decide +kernel) rfl rfl (c11 h1 h5 h9) (fun y10 M10 e10 q10 => ?_)
    have hJ10 : ∀ e ∈ RR.2, M10.2.2 e.1 e.2.1 = e.2.2 := fun e he => by rw [e10]; exact hJ e he
    show AW l (pI pg 124) P (kc + 1) (ks + 6) 67 [(0, .ref 0), (1, .int (x))] [.int (y10), .ref 33] SHF _
    refine AW.aload_n (dq rfl) rfl rfl ?_
    show AW l (pI pg 124) P (kc + 1) (ks + 6) 68 _ _ SHF _
    refine fw_get (dq rfl) (pg_ok.2.1 124 _ _ _ _ rfl) rfl (v := .ref 4) (isTA_ok rfl (rgR_ok hJ10 rfl)) ?_
    show AW l (pI pg 124) P (kc + 1) (ks + 6) 71 _ _ SHF _
    refine fw_callVJ (as := []) (dq rfl) (pg_ok.2.2.1 124 _ _ _ _ rfl) rfl (by decide +kernel) rfl rfl (c13 h1 h5 h9 y10 M10 e10 q10) (fun y12 M12 e12 q12 => ?_)
    have hJ12 : ∀ e ∈ RR.2, M12.2.2 e.1 e.2.1 = e.2.2 := fun e he => by rw [e12]; exact hJ10 e he
    show AW l (pI pg 124) P (kc + 1) (ks + 6) 74 [(0, .ref 0), (1, .int (x))] [.long (y12), .int (y10), .ref 33] SHF _
    refine fw_callVI (as := [.int (y10), .long (y12)]) (dq rfl) (pg_ok.2.2.1 124 _ _ _ _ rfl) rfl (by decide +kernel) rfl rfl (c15 h1 h5 h9 y10 M10 e10 q10 y12 M12 e12 q12) (fun y14 M14 e14 q14 => ?_)
    have hJ14 : ∀ e ∈ RR.2, M14.2.2 e.1 e.2.1 = e.2.2 := fun e he => by rw [e14]; exact hJ12 e he
    show AW l (pI pg 124) P (kc + 1) (ks + 6) 77 [(0, .ref 0), (1, .int (x))] [.int (y14)] SHF _
    refine AW.if_eq (dq rfl) (tgt := 84) (by decide) (fun h16 => ?_) (fun h16 => ?_)
    · have _ := h16
      refine AW.iconst (dq rfl) ?_
      show AW l (pI pg 124) P (kc + 1) (ks + 6) 85 _ _ SHF _
      refine AW.iret (dq rfl) rfl ?_
      exact r17 h1 h5 h9 y10 M10 e10 q10 y12 M12 e12 q12 y14 M14 e14 q14 h16
    · have _ := h16
      refine AW.iconst (dq rfl) ?_
      show AW l (pI pg 124) P (kc + 1) (ks + 6) 81 _ _ SHF _
      refine AW.goto (dq rfl) (tgt := 85) (by decide) ?_
      refine AW.iret (dq rfl) rfl ?_
      exact r18 h1 h5 h9 y10 M10 e10 q10 y12 M12 e12 q12 y14 M14 e14 q14 h16
  by_cases h19 : (x : Int32) = Int32.ofInt 3
  · refine AW.tableIn (dq rfl) (by rw [h19]; decide) (by rw [h19]; decide) (off := 85) (by rw [h19]; decide) (tgt := 86) (by decide) ?_
    show AW l (pI pg 124) P (kc + 1) (ks + 6) 86 [(0, .ref 0), (1, .int (x))] [] SHF _
    refine AW.aload_n (dq rfl) rfl rfl ?_
    show AW l (pI pg 124) P (kc + 1) (ks + 6) 87 _ _ SHF _
    refine fw_get (dq rfl) (pg_ok.2.1 124 _ _ _ _ rfl) rfl (v := .ref 33) (isTA_ok rfl (rgR_ok hJ rfl)) ?_
    show AW l (pI pg 124) P (kc + 1) (ks + 6) 90 _ _ SHF _
    refine AW.aload_n (dq rfl) rfl rfl ?_
    show AW l (pI pg 124) P (kc + 1) (ks + 6) 91 _ _ SHF _
    refine fw_get (dq rfl) (pg_ok.2.1 124 _ _ _ _ rfl) rfl (v := .ref 4) (isTA_ok rfl (rgR_ok hJ rfl)) ?_
    show AW l (pI pg 124) P (kc + 1) (ks + 6) 94 _ _ SHF _
    refine fw_callVI (as := []) (dq rfl) (pg_ok.2.2.1 124 _ _ _ _ rfl) rfl (by decide +kernel) rfl rfl (c21 h1 h5 h9 h19) (fun y20 M20 e20 q20 => ?_)
    have hJ20 : ∀ e ∈ RR.2, M20.2.2 e.1 e.2.1 = e.2.2 := fun e he => by rw [e20]; exact hJ e he
    show AW l (pI pg 124) P (kc + 1) (ks + 6) 97 [(0, .ref 0), (1, .int (x))] [.int (y20), .ref 33] SHF _
    refine AW.aload_n (dq rfl) rfl rfl ?_
    show AW l (pI pg 124) P (kc + 1) (ks + 6) 98 _ _ SHF _
    refine fw_get (dq rfl) (pg_ok.2.1 124 _ _ _ _ rfl) rfl (v := .ref 4) (isTA_ok rfl (rgR_ok hJ20 rfl)) ?_
    show AW l (pI pg 124) P (kc + 1) (ks + 6) 101 _ _ SHF _
    refine fw_callVJ (as := []) (dq rfl) (pg_ok.2.2.1 124 _ _ _ _ rfl) rfl (by decide +kernel) rfl rfl (c23 h1 h5 h9 h19 y20 M20 e20 q20) (fun y22 M22 e22 q22 => ?_)
    have hJ22 : ∀ e ∈ RR.2, M22.2.2 e.1 e.2.1 = e.2.2 := fun e he => by rw [e22]; exact hJ20 e he
    show AW l (pI pg 124) P (kc + 1) (ks + 6) 104 [(0, .ref 0), (1, .int (x))] [.long (y22), .int (y20), .ref 33] SHF _
    refine fw_callVI (as := [.int (y20), .long (y22)]) (dq rfl) (pg_ok.2.2.1 124 _ _ _ _ rfl) rfl (by decide +kernel) rfl rfl (c25 h1 h5 h9 h19 y20 M20 e20 q20 y22 M22 e22 q22) (fun y24 M24 e24 q24 => ?_)
    have hJ24 : ∀ e ∈ RR.2, M24.2.2 e.1 e.2.1 = e.2.2 := fun e he => by rw [e24]; exact hJ22 e he
    show AW l (pI pg 124) P (kc + 1) (ks + 6) 107 [(0, .ref 0), (1, .int (x))] [.int (y24)] SHF _
    refine AW.if_eq (dq rfl) (tgt := 114) (by decide) (fun h26 => ?_) (fun h26 => ?_)
    · have _ := h26
      refine AW.iconst (dq rfl) ?_
      show AW l (pI pg 124) P (kc + 1) (ks + 6) 115 _ _ SHF _
      refine AW.iret (dq rfl) rfl ?_
      exact r27 h1 h5 h9 h19 y20 M20 e20 q20 y22 M22 e22 q22 y24 M24 e24 q24 h26
    · have _ := h26
      refine AW.iconst (dq rfl) ?_
      show AW l (pI pg 124) P (kc + 1) (ks + 6) 111 _ _ SHF _
      refine AW.goto (dq rfl) (tgt := 115) (by decide) ?_
      refine AW.iret (dq rfl) rfl ?_
      exact r28 h1 h5 h9 h19 y20 M20 e20 q20 y22 M22 e22 q22 y24 M24 e24 q24 h26
  refine AW.tableOut (dq rfl) (tb_out3 h1 h5 h9 h19) (tgt := 116) (by decide) ?_
  show AW l (pI pg 124) P (kc + 1) (ks + 6) 116 [(0, .ref 0), (1, .int (x))] [] SHF _
  refine pg_ok.2.2.2.2.2.2.2.1 124 _ _ rfl _ _ _ _ _ _ _ ?_
  exact x29 h1 h5 h9 h19

theorem waob_0 {l : aL} {P : aP} {kc ks : Nat} {M : aM}  (hl0 : l.1.stackTraces = false) (k1 : AW l (pI pg 31) P kc ks 4 [(3, .int (Int32.ofInt 0)), (1, .long (Int64.ofNat (0 : Fin 2))), (0, .ref 17)] [] SHF M) : AW l (pI pg 31) P kc ks 0 [(0, .ref 17)] [] SHF M := by
  refine AW.lconst (dq rfl) ?_
  show AW l (pI pg 31) P kc ks 1 _ _ SHF _
  refine AW.lstore_n (dq rfl) (by decide +kernel) ?_
  show AW l (pI pg 31) P kc ks 2 [(1, .long (Int64.ofNat (0 : Fin 2))), (0, .ref 17)] [] SHF _
  refine AW.iconst (dq rfl) ?_
  show AW l (pI pg 31) P kc ks 3 _ _ SHF _
  refine AW.istore_n (dq rfl) (by decide +kernel) ?_
  show AW l (pI pg 31) P kc ks 4 [(3, .int (Int32.ofInt 0)), (1, .long (Int64.ofNat (0 : Fin 2))), (0, .ref 17)] [] SHF _
  refine AW.drop (lv' := [(3, .int (Int32.ofInt 0)), (1, .long (Int64.ofNat (0 : Fin 2))), (0, .ref 17)]) (List.forall_mem_cons.mpr ⟨List.mem_of_getElem? (i := 0) rfl, List.forall_mem_cons.mpr ⟨List.mem_of_getElem? (i := 1) rfl, List.forall_mem_cons.mpr ⟨List.mem_of_getElem? (i := 2) rfl, fun _ h => absurd h List.not_mem_nil⟩⟩⟩) ?_
  exact k1

theorem waob_4 {l : aL} {P : aP} {kc ks : Nat} {p : Nat} {f : Int64} {M : aM}  (hl0 : l.1.stackTraces = false) (r2 : ∀ (h1 : (M.1 17 0 : Int32) ≤ (nI p : Int32)), P (.inl (some (.long (f)))) SHF M) (Q3 : Int32 → aM → Prop) (c4 : ∀ (h1 : ¬ ((M.1 17 0 : Int32) ≤ (nI p : Int32))), AC l (pI pg 32) (fcI M Q3) 0 0 [.ref 17] SHF M) (k5 : ∀ (h1 : ¬ ((M.1 17 0 : Int32) ≤ (nI p : Int32))), ∀ (y3 : Int32), ∀ (M3 : aM), ∀ (e3 : M3.2.2 = M.2.2), ∀ (q3 : Q3 y3 M3), AW l (pI pg 31) P kc ks 4 [(3, .int ((nI p) + Int32.ofInt 1)), (1, .long ((f) ||| ((Int64.ofNat (1 : Fin 2)) <<< (((y3) ^^^ ((Int32.ofInt 1) <<< ((nI p) &&& 31))).toInt64 &&& 63)))), (0, .ref 17)] [] SHF M3) : AW l (pI pg 31) P kc ks 4 [(3, .int (nI p)), (1, .long (f)), (0, .ref 17)] [] SHF M := by
  refine AW.iload_n (dq rfl) rfl ?_
  show AW l (pI pg 31) P kc ks 5 _ _ SHF _
  refine AW.aload_n (dq rfl) rfl rfl ?_
  show AW l (pI pg 31) P kc ks 6 _ _ SHF _
  refine fw_get (dq rfl) (pg_ok.2.1 31 _ _ _ _ rfl) rfl (v := .int (M.1 17 0)) rfl ?_
  show AW l (pI pg 31) P kc ks 9 _ _ SHF _
  refine AW.icmp_ge (dq rfl) (tgt := 31) (by decide) (fun h1 => ?_) (fun h1 => ?_)
  · have _ := h1
    refine AW.lload_n (dq rfl) rfl ?_
    show AW l (pI pg 31) P kc ks 32 _ _ SHF _
    refine AW.lret (dq rfl) rfl ?_
    exact r2 h1
  · have _ := h1
    refine AW.lload_n (dq rfl) rfl ?_
    show AW l (pI pg 31) P kc ks 13 _ _ SHF _
    refine AW.lconst (dq rfl) ?_
    show AW l (pI pg 31) P kc ks 14 _ _ SHF _
    refine AW.aload_n (dq rfl) rfl rfl ?_
    show AW l (pI pg 31) P kc ks 15 _ _ SHF _
    refine fw_callVI (as := []) (dq rfl) (pg_ok.2.2.1 31 _ _ _ _ rfl) rfl (by decide +kernel) rfl rfl (c4 h1) (fun y3 M3 e3 q3 => ?_)
    show AW l (pI pg 31) P kc ks 18 [(3, .int (nI p)), (1, .long (f)), (0, .ref 17)] [.int (y3), .long (Int64.ofNat (1 : Fin 2)), .long (f)] SHF _
    refine AW.iconst (dq rfl) ?_
    show AW l (pI pg 31) P kc ks 19 _ _ SHF _
    refine AW.iload_n (dq rfl) rfl ?_
    show AW l (pI pg 31) P kc ks 20 _ _ SHF _
    refine AW.ishl (dq rfl) ?_
    show AW l (pI pg 31) P kc ks 21 _ _ SHF _
    refine AW.ixor (dq rfl) ?_
    show AW l (pI pg 31) P kc ks 22 _ _ SHF _
    refine AW.lshl (dq rfl) ?_
    show AW l (pI pg 31) P kc ks 23 _ _ SHF _
    refine AW.lor (dq rfl) ?_
    show AW l (pI pg 31) P kc ks 24 _ _ SHF _
    refine AW.lstore_n (dq rfl) (by decide +kernel) ?_
    show AW l (pI pg 31) P kc ks 25 [(1, .long ((f) ||| ((Int64.ofNat (1 : Fin 2)) <<< (((y3) ^^^ ((Int32.ofInt 1) <<< ((nI p) &&& 31))).toInt64 &&& 63)))), (3, .int (nI p)), (0, .ref 17)] [] SHF _
    refine AW.iinc (dq rfl) rfl (by decide +kernel) ?_
    show AW l (pI pg 31) P kc ks 28 [(3, .int ((nI p) + Int32.ofInt 1)), (1, .long ((f) ||| ((Int64.ofNat (1 : Fin 2)) <<< (((y3) ^^^ ((Int32.ofInt 1) <<< ((nI p) &&& 31))).toInt64 &&& 63)))), (0, .ref 17)] [] SHF _
    refine AW.goto (dq rfl) (tgt := 4) (by decide) ?_
    refine AW.drop (lv' := [(3, .int ((nI p) + Int32.ofInt 1)), (1, .long ((f) ||| ((Int64.ofNat (1 : Fin 2)) <<< (((y3) ^^^ ((Int32.ofInt 1) <<< ((nI p) &&& 31))).toInt64 &&& 63)))), (0, .ref 17)]) (List.forall_mem_cons.mpr ⟨List.mem_of_getElem? (i := 0) rfl, List.forall_mem_cons.mpr ⟨List.mem_of_getElem? (i := 1) rfl, List.forall_mem_cons.mpr ⟨List.mem_of_getElem? (i := 2) rfl, fun _ h => absurd h List.not_mem_nil⟩⟩⟩) ?_
    exact k5 h1 y3 M3 e3 q3

theorem watb_0 {l : aL} {P : aP} {kc ks : Nat} {M : aM}  (hl0 : l.1.stackTraces = false) (k2 : ∀ (h1 : ¬ (M.1 17 0 : Int32) = (Int32.ofInt 1 : Int32)), AW l (pI pg 127) P kc ks 17 [(3, .int (Int32.ofInt 0)), (1, .long (Int64.ofNat (0 : Fin 2))), (0, .ref 17)] [] SHF M) (Q3 : Int64 → aM → Prop) (c4 : ∀ (h1 : (M.1 17 0 : Int32) = (Int32.ofInt 1 : Int32)), AC l (pI pg 31) (fcJ M Q3) 0 0 [.ref 17] SHF M) (r5 : ∀ (h1 : (M.1 17 0 : Int32) = (Int32.ofInt 1 : Int32)), ∀ (y3 : Int64), ∀ (M3 : aM), ∀ (e3 : M3.2.2 = M.2.2), ∀ (q3 : Q3 y3 M3), P (.inl (some (.long (y3)))) SHF M3) : AW l (pI pg 127) P kc ks 0 [(0, .ref 17)] [] SHF M := by
  refine AW.aload_n (dq rfl) rfl rfl ?_
  show AW l (pI pg 127) P kc ks 1 _ _ SHF _
  refine fw_get (dq rfl) (pg_ok.2.1 127 _ _ _ _ rfl) rfl (v := .int (M.1 17 0)) rfl ?_
  show AW l (pI pg 127) P kc ks 4 _ _ SHF _
  refine AW.iconst (dq rfl) ?_
  show AW l (pI pg 127) P kc ks 5 _ _ SHF _
  refine AW.icmp_ne (dq rfl) (tgt := 13) (by decide) (fun h1 => ?_) (fun h1 => ?_)
  · have _ := h1
    refine AW.lconst (dq rfl) ?_
    show AW l (pI pg 127) P kc ks 14 _ _ SHF _
    refine AW.lstore_n (dq rfl) (by decide +kernel) ?_
    show AW l (pI pg 127) P kc ks 15 [(1, .long (Int64.ofNat (0 : Fin 2))), (0, .ref 17)] [] SHF _
    refine AW.iconst (dq rfl) ?_
    show AW l (pI pg 127) P kc ks 16 _ _ SHF _
    refine AW.istore_n (dq rfl) (by decide +kernel) ?_
    show AW l (pI pg 127) P kc ks 17 [(3, .int (Int32.ofInt 0)), (1, .long (Int64.ofNat (0 : Fin 2))), (0, .ref 17)] [] SHF _
    refine AW.drop (lv' := [(3, .int (Int32.ofInt 0)), (1, .long (Int64.ofNat (0 : Fin 2))), (0, .ref 17)]) (List.forall_mem_cons.mpr ⟨List.mem_of_getElem? (i := 0) rfl, List.forall_mem_cons.mpr ⟨List.mem_of_getElem? (i := 1) rfl, List.forall_mem_cons.mpr ⟨List.mem_of_getElem? (i := 2) rfl, fun _ h => absurd h List.not_mem_nil⟩⟩⟩) ?_
    exact k2 h1
  · have _ := h1
    refine AW.aload_n (dq rfl) rfl rfl ?_
    show AW l (pI pg 127) P kc ks 9 _ _ SHF _
    refine fw_callVJ (as := []) (dq rfl) (pg_ok.2.2.1 127 _ _ _ _ rfl) rfl (by decide +kernel) rfl rfl (c4 h1) (fun y3 M3 e3 q3 => ?_)
    show AW l (pI pg 127) P kc ks 12 [(0, .ref 17)] [.long (y3)] SHF _
    refine AW.lret (dq rfl) rfl ?_
    exact r5 h1 y3 M3 e3 q3

theorem watb_17 {l : aL} {P : aP} {kc ks : Nat} {p : Nat} {f : Int64} {M : aM}  (hl0 : l.1.stackTraces = false) (r2 : ∀ (h1 : (M.1 17 0 : Int32) ≤ (nI p : Int32)), P (.inl (some (.long (f)))) SHF M) (k3 : ∀ (h1 : ¬ ((M.1 17 0 : Int32) ≤ (nI p : Int32))), AW l (pI pg 127) P kc ks 30 [(4, .int ((nI p) + (Int32.ofInt 1))), (3, .int (nI p)), (1, .long (f)), (0, .ref 17)] [] SHF M) : AW l (pI pg 127) P kc ks 17 [(3, .int (nI p)), (1, .long (f)), (0, .ref 17)] [] SHF M := by
  refine AW.iload_n (dq rfl) rfl ?_
  show AW l (pI pg 127) P kc ks 18 _ _ SHF _
  refine AW.aload_n (dq rfl) rfl rfl ?_
  show AW l (pI pg 127) P kc ks 19 _ _ SHF _
  refine fw_get (dq rfl) (pg_ok.2.1 127 _ _ _ _ rfl) rfl (v := .int (M.1 17 0)) rfl ?_
  show AW l (pI pg 127) P kc ks 22 _ _ SHF _
  refine AW.icmp_ge (dq rfl) (tgt := 69) (by decide) (fun h1 => ?_) (fun h1 => ?_)
  · have _ := h1
    refine AW.lload_n (dq rfl) rfl ?_
    show AW l (pI pg 127) P kc ks 70 _ _ SHF _
    refine AW.lret (dq rfl) rfl ?_
    exact r2 h1
  · have _ := h1
    refine AW.iload_n (dq rfl) rfl ?_
    show AW l (pI pg 127) P kc ks 26 _ _ SHF _
    refine AW.iconst (dq rfl) ?_
    show AW l (pI pg 127) P kc ks 27 _ _ SHF _
    refine AW.iadd (dq rfl) ?_
    show AW l (pI pg 127) P kc ks 28 _ _ SHF _
    refine AW.istore (dq rfl) (by decide +kernel) ?_
    show AW l (pI pg 127) P kc ks 30 [(4, .int ((nI p) + (Int32.ofInt 1))), (3, .int (nI p)), (1, .long (f)), (0, .ref 17)] [] SHF _
    refine AW.drop (lv' := [(4, .int ((nI p) + (Int32.ofInt 1))), (3, .int (nI p)), (1, .long (f)), (0, .ref 17)]) (List.forall_mem_cons.mpr ⟨List.mem_of_getElem? (i := 0) rfl, List.forall_mem_cons.mpr ⟨List.mem_of_getElem? (i := 1) rfl, List.forall_mem_cons.mpr ⟨List.mem_of_getElem? (i := 2) rfl, List.forall_mem_cons.mpr ⟨List.mem_of_getElem? (i := 3) rfl, fun _ h => absurd h List.not_mem_nil⟩⟩⟩⟩) ?_
    exact k3 h1

theorem watb_30 {l : aL} {P : aP} {kc ks : Nat} {p q : Nat} {f : Int64} {M : aM}  (hl0 : l.1.stackTraces = false) (k2 : ∀ (h1 : (M.1 17 0 : Int32) ≤ (nI q : Int32)), AW l (pI pg 127) P kc ks 17 [(3, .int ((nI p) + Int32.ofInt 1)), (1, .long (f)), (0, .ref 17)] [] SHF M) (Q3 : Int32 → aM → Prop) (c4 : ∀ (h1 : ¬ ((M.1 17 0 : Int32) ≤ (nI q : Int32))), AC l (pI pg 32) (fcI M Q3) 0 0 [.ref 17] SHF M) (k5 : ∀ (h1 : ¬ ((M.1 17 0 : Int32) ≤ (nI q : Int32))), ∀ (y3 : Int32), ∀ (M3 : aM), ∀ (e3 : M3.2.2 = M.2.2), ∀ (q3 : Q3 y3 M3), AW l (pI pg 127) P kc ks 30 [(4, .int ((nI q) + Int32.ofInt 1)), (3, .int (nI p)), (1, .long ((f) ||| ((Int64.ofNat (1 : Fin 2)) <<< ((((y3) ^^^ ((Int32.ofInt 1) <<< ((nI p) &&& 31))) ^^^ ((Int32.ofInt 1) <<< ((nI q) &&& 31))).toInt64 &&& 63)))), (0, .ref 17)] [] SHF M3) : AW l (pI pg 127) P kc ks 30 [(4, .int (nI q)), (3, .int (nI p)), (1, .long (f)), (0, .ref 17)] [] SHF M := by
  refine AW.iload (dq rfl) rfl ?_
  show AW l (pI pg 127) P kc ks 32 _ _ SHF _
  refine AW.aload_n (dq rfl) rfl rfl ?_
  show AW l (pI pg 127) P kc ks 33 _ _ SHF _
  refine fw_get (dq rfl) (pg_ok.2.1 127 _ _ _ _ rfl) rfl (v := .int (M.1 17 0)) rfl ?_
  show AW l (pI pg 127) P kc ks 36 _ _ SHF _
  refine AW.icmp_ge (dq rfl) (tgt := 63) (by decide) (fun h1 => ?_) (fun h1 => ?_)
  · have _ := h1
    refine AW.iinc (dq rfl) rfl (by decide +kernel) ?_
    show AW l (pI pg 127) P kc ks 66 [(3, .int ((nI p) + Int32.ofInt 1)), (4, .int (nI q)), (1, .long (f)), (0, .ref 17)] [] SHF _
    refine AW.goto (dq rfl) (tgt := 17) (by decide) ?_
    refine AW.drop (lv' := [(3, .int ((nI p) + Int32.ofInt 1)), (1, .long (f)), (0, .ref 17)]) (List.forall_mem_cons.mpr ⟨List.mem_of_getElem? (i := 0) rfl, List.forall_mem_cons.mpr ⟨List.mem_of_getElem? (i := 2) rfl, List.forall_mem_cons.mpr ⟨List.mem_of_getElem? (i := 3) rfl, fun _ h => absurd h List.not_mem_nil⟩⟩⟩) ?_
    exact k2 h1
  · have _ := h1
    refine AW.lload_n (dq rfl) rfl ?_
    show AW l (pI pg 127) P kc ks 40 _ _ SHF _
    refine AW.lconst (dq rfl) ?_
    show AW l (pI pg 127) P kc ks 41 _ _ SHF _
    refine AW.aload_n (dq rfl) rfl rfl ?_
    show AW l (pI pg 127) P kc ks 42 _ _ SHF _
    refine fw_callVI (as := []) (dq rfl) (pg_ok.2.2.1 127 _ _ _ _ rfl) rfl (by decide +kernel) rfl rfl (c4 h1) (fun y3 M3 e3 q3 => ?_)
    show AW l (pI pg 127) P kc ks 45 [(4, .int (nI q)), (3, .int (nI p)), (1, .long (f)), (0, .ref 17)] [.int (y3), .long (Int64.ofNat (1 : Fin 2)), .long (f)] SHF _
    refine AW.iconst (dq rfl) ?_
    show AW l (pI pg 127) P kc ks 46 _ _ SHF _
    refine AW.iload_n (dq rfl) rfl ?_
    show AW l (pI pg 127) P kc ks 47 _ _ SHF _
    refine AW.ishl (dq rfl) ?_
    show AW l (pI pg 127) P kc ks 48 _ _ SHF _
    refine AW.ixor (dq rfl) ?_
    show AW l (pI pg 127) P kc ks 49 _ _ SHF _
    refine AW.iconst (dq rfl) ?_
    show AW l (pI pg 127) P kc ks 50 _ _ SHF _
    refine AW.iload (dq rfl) rfl ?_
    show AW l (pI pg 127) P kc ks 52 _ _ SHF _
    refine AW.ishl (dq rfl) ?_
    show AW l (pI pg 127) P kc ks 53 _ _ SHF _
    refine AW.ixor (dq rfl) ?_
    show AW l (pI pg 127) P kc ks 54 _ _ SHF _
    refine AW.lshl (dq rfl) ?_
    show AW l (pI pg 127) P kc ks 55 _ _ SHF _
    refine AW.lor (dq rfl) ?_
    show AW l (pI pg 127) P kc ks 56 _ _ SHF _
    refine AW.lstore_n (dq rfl) (by decide +kernel) ?_
    show AW l (pI pg 127) P kc ks 57 [(1, .long ((f) ||| ((Int64.ofNat (1 : Fin 2)) <<< ((((y3) ^^^ ((Int32.ofInt 1) <<< ((nI p) &&& 31))) ^^^ ((Int32.ofInt 1) <<< ((nI q) &&& 31))).toInt64 &&& 63)))), (4, .int (nI q)), (3, .int (nI p)), (0, .ref 17)] [] SHF _
    refine AW.iinc (dq rfl) rfl (by decide +kernel) ?_
    show AW l (pI pg 127) P kc ks 60 [(4, .int ((nI q) + Int32.ofInt 1)), (1, .long ((f) ||| ((Int64.ofNat (1 : Fin 2)) <<< ((((y3) ^^^ ((Int32.ofInt 1) <<< ((nI p) &&& 31))) ^^^ ((Int32.ofInt 1) <<< ((nI q) &&& 31))).toInt64 &&& 63)))), (3, .int (nI p)), (0, .ref 17)] [] SHF _
    refine AW.goto (dq rfl) (tgt := 30) (by decide) ?_
    refine AW.drop (lv' := [(4, .int ((nI q) + Int32.ofInt 1)), (3, .int (nI p)), (1, .long ((f) ||| ((Int64.ofNat (1 : Fin 2)) <<< ((((y3) ^^^ ((Int32.ofInt 1) <<< ((nI p) &&& 31))) ^^^ ((Int32.ofInt 1) <<< ((nI q) &&& 31))).toInt64 &&& 63)))), (0, .ref 17)]) (List.forall_mem_cons.mpr ⟨List.mem_of_getElem? (i := 0) rfl, List.forall_mem_cons.mpr ⟨List.mem_of_getElem? (i := 2) rfl, List.forall_mem_cons.mpr ⟨List.mem_of_getElem? (i := 1) rfl, List.forall_mem_cons.mpr ⟨List.mem_of_getElem? (i := 3) rfl, fun _ h => absurd h List.not_mem_nil⟩⟩⟩⟩) ?_
    exact k5 h1 y3 M3 e3 q3

theorem mipb_0 {l : aL} {P : aP} {kc ks : Nat} {M : aM}  (hl0 : l.1.stackTraces = false) (k1 : AW l (pI pg 125) P kc ks 4 [(3, .int (Int32.ofInt 0)), (2, .int (Int32.ofInt 0)), (1, .ref 17), (0, .ref 33)] [] SHF M) : AW l (pI pg 125) P kc ks 0 [(0, .ref 33), (1, .ref 17)] [] SHF M := by
  refine AW.iconst (dq rfl) ?_
  show AW l (pI pg 125) P kc ks 1 _ _ SHF _
  refine AW.istore_n (dq rfl) (by decide +kernel) ?_
  show AW l (pI pg 125) P kc ks 2 [(2, .int (Int32.ofInt 0)), (0, .ref 33), (1, .ref 17)] [] SHF _
  refine AW.iconst (dq rfl) ?_
  show AW l (pI pg 125) P kc ks 3 _ _ SHF _
  refine AW.istore_n (dq rfl) (by decide +kernel) ?_
  show AW l (pI pg 125) P kc ks 4 [(3, .int (Int32.ofInt 0)), (2, .int (Int32.ofInt 0)), (0, .ref 33), (1, .ref 17)] [] SHF _
  refine AW.drop (lv' := [(3, .int (Int32.ofInt 0)), (2, .int (Int32.ofInt 0)), (1, .ref 17), (0, .ref 33)]) (List.forall_mem_cons.mpr ⟨List.mem_of_getElem? (i := 0) rfl, List.forall_mem_cons.mpr ⟨List.mem_of_getElem? (i := 1) rfl, List.forall_mem_cons.mpr ⟨List.mem_of_getElem? (i := 3) rfl, List.forall_mem_cons.mpr ⟨List.mem_of_getElem? (i := 2) rfl, fun _ h => absurd h List.not_mem_nil⟩⟩⟩⟩) ?_
  exact k1

theorem mipb_4 {l : aL} {P : aP} {kc ks : Nat} {p : Nat} {v : Int32} {M : aM}  (hl0 : l.1.stackTraces = false) (r2 : ∀ (h1 : (M.1 17 0 : Int32) ≤ (nI p : Int32)), P (.inl (some (.int (v)))) SHF M) (Q3 : Int32 → aM → Prop) (c4 : ∀ (h1 : ¬ ((M.1 17 0 : Int32) ≤ (nI p : Int32))), AC l (pI pg 18) (fcI M Q3) 0 0 [.ref 17] SHF M) (Q5 : Int32 → aM → Int32 → aM → Prop) (c6 : ∀ (h1 : ¬ ((M.1 17 0 : Int32) ≤ (nI p : Int32))), ∀ (y3 : Int32), ∀ (M3 : aM), ∀ (e3 : M3.2.2 = M.2.2), ∀ (q3 : Q3 y3 M3), AC l (pI pg 32) (fcI M3 (Q5 y3 M3)) 0 0 [.ref 17] SHF M3) (Q7 : Int32 → aM → Int32 → aM → Int32 → aM → Prop) (c8 : ∀ (h1 : ¬ ((M.1 17 0 : Int32) ≤ (nI p : Int32))), ∀ (y3 : Int32), ∀ (M3 : aM), ∀ (e3 : M3.2.2 = M.2.2), ∀ (q3 : Q3 y3 M3), ∀ (y5 : Int32), ∀ (M5 : aM), ∀ (e5 : M5.2.2 = M3.2.2), ∀ (q5 : (Q5 y3 M3) y5 M5), AC l (pI pg 119) (fcI M5 (Q7 y3 M3 y5 M5)) 0 0 [.ref 33, .int (y3), .long ((Int64.ofNat (1 : Fin 2)) <<< (((y5) ^^^ ((Int32.ofInt 1) <<< ((nI p) &&& 31))).toInt64 &&& 63))] SHF M5) (k10 : ∀ (h1 : ¬ ((M.1 17 0 : Int32) ≤ (nI p : Int32))), ∀ (y3 : Int32), ∀ (M3 : aM), ∀ (e3 : M3.2.2 = M.2.2), ∀ (q3 : Q3 y3 M3), ∀ (y5 : Int32), ∀ (M5 : aM), ∀ (e5 : M5.2.2 = M3.2.2), ∀ (q5 : (Q5 y3 M3) y5 M5), ∀ (y7 : Int32), ∀ (M7 : aM), ∀ (e7 : M7.2.2 = M5.2.2), ∀ (q7 : (Q7 y3 M3 y5 M5) y7 M7), ∀ (h9 : ¬ (y7 : Int32) = 0), AW l (pI pg 125) P kc ks 4 [(3, .int ((nI p) + Int32.ofInt 1)), (2, .int (v)), (1, .ref 17), (0, .ref 33)] [] SHF M7) (k11 : ∀ (h1 : ¬ ((M.1 17 0 : Int32) ≤ (nI p : Int32))), ∀ (y3 : Int32), ∀ (M3 : aM), ∀ (e3 : M3.2.2 = M.2.2), ∀ (q3 : Q3 y3 M3), ∀ (y5 : Int32), ∀ (M5 : aM), ∀ (e5 : M5.2.2 = M3.2.2), ∀ (q5 : (Q5 y3 M3) y5 M5), ∀ (y7 : Int32), ∀ (M7 : aM), ∀ (e7 : M7.2.2 = M5.2.2), ∀ (q7 : (Q7 y3 M3 y5 M5) y7 M7), ∀ (h9 : (y7 : Int32) = 0), AW l (pI pg 125) P kc ks 4 [(3, .int ((nI p) + Int32.ofInt 1)), (2, .int ((v) ||| ((Int32.ofInt 1) <<< ((nI p) &&& 31)))), (1, .ref 17), (0, .ref 33)] [] SHF M7) : AW l (pI pg 125) P kc ks 4 [(3, .int (nI p)), (2, .int (v)), (1, .ref 17), (0, .ref 33)] [] SHF M := by
  refine AW.iload_n (dq rfl) rfl ?_
  show AW l (pI pg 125) P kc ks 5 _ _ SHF _
  refine AW.aload_n (dq rfl) rfl rfl ?_
  show AW l (pI pg 125) P kc ks 6 _ _ SHF _
  refine fw_get (dq rfl) (pg_ok.2.1 125 _ _ _ _ rfl) rfl (v := .int (M.1 17 0)) rfl ?_
  show AW l (pI pg 125) P kc ks 9 _ _ SHF _
  refine AW.icmp_ge (dq rfl) (tgt := 45) (by decide) (fun h1 => ?_) (fun h1 => ?_)
  · have _ := h1
    refine AW.iload_n (dq rfl) rfl ?_
    show AW l (pI pg 125) P kc ks 46 _ _ SHF _
    refine AW.iret (dq rfl) rfl ?_
    exact r2 h1
  · have _ := h1
    refine AW.aload_n (dq rfl) rfl rfl ?_
    show AW l (pI pg 125) P kc ks 13 _ _ SHF _
    refine AW.aload_n (dq rfl) rfl rfl ?_
    show AW l (pI pg 125) P kc ks 14 _ _ SHF _
    refine fw_callVI (as := []) (dq rfl) (pg_ok.2.2.1 125 _ _ _ _ rfl) rfl (by decide +kernel) rfl rfl (c4 h1) (fun y3 M3 e3 q3 => ?_)
    show AW l (pI pg 125) P kc ks 17 [(3, .int (nI p)), (2, .int (v)), (1, .ref 17), (0, .ref 33)] [.int (y3), .ref 33] SHF _
    refine AW.lconst (dq rfl) ?_
    show AW l (pI pg 125) P kc ks 18 _ _ SHF _
    refine AW.aload_n (dq rfl) rfl rfl ?_
    show AW l (pI pg 125) P kc ks 19 _ _ SHF _
    refine fw_callVI (as := []) (dq rfl) (pg_ok.2.2.1 125 _ _ _ _ rfl) rfl (by decide +kernel) rfl rfl (c6 h1 y3 M3 e3 q3) (fun y5 M5 e5 q5 => ?_)
    show AW l (pI pg 125) P kc ks 22 [(3, .int (nI p)), (2, .int (v)), (1, .ref 17), (0, .ref 33)] [.int (y5), .long (Int64.ofNat (1 : Fin 2)), .int (y3), .ref 33] SHF _
    refine AW.iconst (dq rfl) ?_
    show AW l (pI pg 125) P kc ks 23 _ _ SHF _
    refine AW.iload_n (dq rfl) rfl ?_
    show AW l (pI pg 125) P kc ks 24 _ _ SHF _
    refine AW.ishl (dq rfl) ?_
    show AW l (pI pg 125) P kc ks 25 _ _ SHF _
    refine AW.ixor (dq rfl) ?_
    show AW l (pI pg 125) P kc ks 26 _ _ SHF _
    refine AW.lshl (dq rfl) ?_
    show AW l (pI pg 125) P kc ks 27 _ _ SHF _
    refine fw_callVI (as := [.int (y3), .long ((Int64.ofNat (1 : Fin 2)) <<< (((y5) ^^^ ((Int32.ofInt 1) <<< ((nI p) &&& 31))).toInt64 &&& 63))]) (dq rfl) (pg_ok.2.2.1 125 _ _ _ _ rfl) rfl (by decide +kernel) rfl rfl (c8 h1 y3 M3 e3 q3 y5 M5 e5 q5) (fun y7 M7 e7 q7 => ?_)
    show AW l (pI pg 125) P kc ks 30 [(3, .int (nI p)), (2, .int (v)), (1, .ref 17), (0, .ref 33)] [.int (y7)] SHF _
    refine AW.if_ne (dq rfl) (tgt := 39) (by decide) (fun h9 => ?_) (fun h9 => ?_)
    · have _ := h9
      refine AW.iinc (dq rfl) rfl (by decide +kernel) ?_
      show AW l (pI pg 125) P kc ks 42 [(3, .int ((nI p) + Int32.ofInt 1)), (2, .int (v)), (1, .ref 17), (0, .ref 33)] [] SHF _
      refine AW.goto (dq rfl) (tgt := 4) (by decide) ?_
      refine AW.drop (lv' := [(3, .int ((nI p) + Int32.ofInt 1)), (2, .int (v)), (1, .ref 17), (0, .ref 33)]) (List.forall_mem_cons.mpr ⟨List.mem_of_getElem? (i := 0) rfl, List.forall_mem_cons.mpr ⟨List.mem_of_getElem? (i := 1) rfl, List.forall_mem_cons.mpr ⟨List.mem_of_getElem? (i := 2) rfl, List.forall_mem_cons.mpr ⟨List.mem_of_getElem? (i := 3) rfl, fun _ h => absurd h List.not_mem_nil⟩⟩⟩⟩) ?_
      exact k10 h1 y3 M3 e3 q3 y5 M5 e5 q5 y7 M7 e7 q7 h9
    · have _ := h9
      refine AW.iload_n (dq rfl) rfl ?_
      show AW l (pI pg 125) P kc ks 34 _ _ SHF _
      refine AW.iconst (dq rfl) ?_
      show AW l (pI pg 125) P kc ks 35 _ _ SHF _
      refine AW.iload_n (dq rfl) rfl ?_
      show AW l (pI pg 125) P kc ks 36 _ _ SHF _
      refine AW.ishl (dq rfl) ?_
      show AW l (pI pg 125) P kc ks 37 _ _ SHF _
      refine AW.ior (dq rfl) ?_
      show AW l (pI pg 125) P kc ks 38 _ _ SHF _
      refine AW.istore_n (dq rfl) (by decide +kernel) ?_
      show AW l (pI pg 125) P kc ks 39 [(2, .int ((v) ||| ((Int32.ofInt 1) <<< ((nI p) &&& 31)))), (3, .int (nI p)), (1, .ref 17), (0, .ref 33)] [] SHF _
      refine AW.iinc (dq rfl) rfl (by decide +kernel) ?_
      show AW l (pI pg 125) P kc ks 42 [(3, .int ((nI p) + Int32.ofInt 1)), (2, .int ((v) ||| ((Int32.ofInt 1) <<< ((nI p) &&& 31)))), (1, .ref 17), (0, .ref 33)] [] SHF _
      refine AW.goto (dq rfl) (tgt := 4) (by decide) ?_
      refine AW.drop (lv' := [(3, .int ((nI p) + Int32.ofInt 1)), (2, .int ((v) ||| ((Int32.ofInt 1) <<< ((nI p) &&& 31)))), (1, .ref 17), (0, .ref 33)]) (List.forall_mem_cons.mpr ⟨List.mem_of_getElem? (i := 0) rfl, List.forall_mem_cons.mpr ⟨List.mem_of_getElem? (i := 1) rfl, List.forall_mem_cons.mpr ⟨List.mem_of_getElem? (i := 2) rfl, List.forall_mem_cons.mpr ⟨List.mem_of_getElem? (i := 3) rfl, fun _ h => absurd h List.not_mem_nil⟩⟩⟩⟩) ?_
      exact k11 h1 y3 M3 e3 q3 y5 M5 e5 q5 y7 M7 e7 q7 h9

theorem micb_0 {l : aL} {P : aP} {kc ks : Nat} {M : aM}  (hl0 : l.1.stackTraces = false) (k1 : AW l (pI pg 126) P kc ks 4 [(3, .int (Int32.ofInt 0)), (2, .int (Int32.ofInt 0)), (1, .ref 17), (0, .ref 33)] [] SHF M) : AW l (pI pg 126) P kc ks 0 [(0, .ref 33), (1, .ref 17)] [] SHF M := by
  refine AW.iconst (dq rfl) ?_
  show AW l (pI pg 126) P kc ks 1 _ _ SHF _
  refine AW.istore_n (dq rfl) (by decide +kernel) ?_
  show AW l (pI pg 126) P kc ks 2 [(2, .int (Int32.ofInt 0)), (0, .ref 33), (1, .ref 17)] [] SHF _
  refine AW.iconst (dq rfl) ?_
  show AW l (pI pg 126) P kc ks 3 _ _ SHF _
  refine AW.istore_n (dq rfl) (by decide +kernel) ?_
  show AW l (pI pg 126) P kc ks 4 [(3, .int (Int32.ofInt 0)), (2, .int (Int32.ofInt 0)), (0, .ref 33), (1, .ref 17)] [] SHF _
  refine AW.drop (lv' := [(3, .int (Int32.ofInt 0)), (2, .int (Int32.ofInt 0)), (1, .ref 17), (0, .ref 33)]) (List.forall_mem_cons.mpr ⟨List.mem_of_getElem? (i := 0) rfl, List.forall_mem_cons.mpr ⟨List.mem_of_getElem? (i := 1) rfl, List.forall_mem_cons.mpr ⟨List.mem_of_getElem? (i := 3) rfl, List.forall_mem_cons.mpr ⟨List.mem_of_getElem? (i := 2) rfl, fun _ h => absurd h List.not_mem_nil⟩⟩⟩⟩) ?_
  exact k1

theorem micb_4 {l : aL} {P : aP} {kc ks : Nat} {p : Nat} {v : Int32} {M : aM}  (hl0 : l.1.stackTraces = false) (r2 : ∀ (h1 : (M.1 17 0 : Int32) ≤ (nI p : Int32)), P (.inl (some (.int (v)))) SHF M) (k3 : ∀ (h1 : ¬ ((M.1 17 0 : Int32) ≤ (nI p : Int32))), AW l (pI pg 126) P kc ks 17 [(4, .int ((nI p) + (Int32.ofInt 1))), (3, .int (nI p)), (2, .int (v)), (1, .ref 17), (0, .ref 33)] [] SHF M) : AW l (pI pg 126) P kc ks 4 [(3, .int (nI p)), (2, .int (v)), (1, .ref 17), (0, .ref 33)] [] SHF M := by
  refine AW.iload_n (dq rfl) rfl ?_
  show AW l (pI pg 126) P kc ks 5 _ _ SHF _
  refine AW.aload_n (dq rfl) rfl rfl ?_
  show AW l (pI pg 126) P kc ks 6 _ _ SHF _
  refine fw_get (dq rfl) (pg_ok.2.1 126 _ _ _ _ rfl) rfl (v := .int (M.1 17 0)) rfl ?_
  show AW l (pI pg 126) P kc ks 9 _ _ SHF _
  refine AW.icmp_ge (dq rfl) (tgt := 71) (by decide) (fun h1 => ?_) (fun h1 => ?_)
  · have _ := h1
    refine AW.iload_n (dq rfl) rfl ?_
    show AW l (pI pg 126) P kc ks 72 _ _ SHF _
    refine AW.iret (dq rfl) rfl ?_
    exact r2 h1
  · have _ := h1
    refine AW.iload_n (dq rfl) rfl ?_
    show AW l (pI pg 126) P kc ks 13 _ _ SHF _
    refine AW.iconst (dq rfl) ?_
    show AW l (pI pg 126) P kc ks 14 _ _ SHF _
    refine AW.iadd (dq rfl) ?_
    show AW l (pI pg 126) P kc ks 15 _ _ SHF _
    refine AW.istore (dq rfl) (by decide +kernel) ?_
    show AW l (pI pg 126) P kc ks 17 [(4, .int ((nI p) + (Int32.ofInt 1))), (3, .int (nI p)), (2, .int (v)), (1, .ref 17), (0, .ref 33)] [] SHF _
    refine AW.drop (lv' := [(4, .int ((nI p) + (Int32.ofInt 1))), (3, .int (nI p)), (2, .int (v)), (1, .ref 17), (0, .ref 33)]) (List.forall_mem_cons.mpr ⟨List.mem_of_getElem? (i := 0) rfl, List.forall_mem_cons.mpr ⟨List.mem_of_getElem? (i := 1) rfl, List.forall_mem_cons.mpr ⟨List.mem_of_getElem? (i := 2) rfl, List.forall_mem_cons.mpr ⟨List.mem_of_getElem? (i := 3) rfl, List.forall_mem_cons.mpr ⟨List.mem_of_getElem? (i := 4) rfl, fun _ h => absurd h List.not_mem_nil⟩⟩⟩⟩⟩) ?_
    exact k3 h1

theorem micb_17 {l : aL} {P : aP} {kc ks : Nat} {p q : Nat} {v : Int32} {M : aM}  (hl0 : l.1.stackTraces = false) (k2 : ∀ (h1 : (M.1 17 0 : Int32) ≤ (nI q : Int32)), AW l (pI pg 126) P kc ks 4 [(3, .int ((nI p) + Int32.ofInt 1)), (2, .int (v)), (1, .ref 17), (0, .ref 33)] [] SHF M) (Q3 : Int32 → aM → Prop) (c4 : ∀ (h1 : ¬ ((M.1 17 0 : Int32) ≤ (nI q : Int32))), AC l (pI pg 32) (fcI M Q3) 0 0 [.ref 17] SHF M) (Q5 : Int32 → aM → Int32 → aM → Prop) (c6 : ∀ (h1 : ¬ ((M.1 17 0 : Int32) ≤ (nI q : Int32))), ∀ (y3 : Int32), ∀ (M3 : aM), ∀ (e3 : M3.2.2 = M.2.2), ∀ (q3 : Q3 y3 M3), AC l (pI pg 18) (fcI M3 (Q5 y3 M3)) 0 0 [.ref 17] SHF M3) (Q7 : Int32 → aM → Int32 → aM → Int32 → aM → Prop) (c8 : ∀ (h1 : ¬ ((M.1 17 0 : Int32) ≤ (nI q : Int32))), ∀ (y3 : Int32), ∀ (M3 : aM), ∀ (e3 : M3.2.2 = M.2.2), ∀ (q3 : Q3 y3 M3), ∀ (y5 : Int32), ∀ (M5 : aM), ∀ (e5 : M5.2.2 = M3.2.2), ∀ (q5 : (Q5 y3 M3) y5 M5), AC l (pI pg 119) (fcI M5 (Q7 y3 M3 y5 M5)) 0 0 [.ref 33, .int (y5), .long ((Int64.ofNat (1 : Fin 2)) <<< ((((y3) ^^^ ((Int32.ofInt 1) <<< ((nI p) &&& 31))) ^^^ ((Int32.ofInt 1) <<< ((nI q) &&& 31))).toInt64 &&& 63))] SHF M5) (k10 : ∀ (h1 : ¬ ((M.1 17 0 : Int32) ≤ (nI q : Int32))), ∀ (y3 : Int32), ∀ (M3 : aM), ∀ (e3 : M3.2.2 = M.2.2), ∀ (q3 : Q3 y3 M3), ∀ (y5 : Int32), ∀ (M5 : aM), ∀ (e5 : M5.2.2 = M3.2.2), ∀ (q5 : (Q5 y3 M3) y5 M5), ∀ (y7 : Int32), ∀ (M7 : aM), ∀ (e7 : M7.2.2 = M5.2.2), ∀ (q7 : (Q7 y3 M3 y5 M5) y7 M7), ∀ (h9 : ¬ (y7 : Int32) = 0), AW l (pI pg 126) P kc ks 17 [(4, .int ((nI q) + Int32.ofInt 1)), (3, .int (nI p)), (2, .int (v)), (1, .ref 17), (0, .ref 33)] [] SHF M7) (k11 : ∀ (h1 : ¬ ((M.1 17 0 : Int32) ≤ (nI q : Int32))), ∀ (y3 : Int32), ∀ (M3 : aM), ∀ (e3 : M3.2.2 = M.2.2), ∀ (q3 : Q3 y3 M3), ∀ (y5 : Int32), ∀ (M5 : aM), ∀ (e5 : M5.2.2 = M3.2.2), ∀ (q5 : (Q5 y3 M3) y5 M5), ∀ (y7 : Int32), ∀ (M7 : aM), ∀ (e7 : M7.2.2 = M5.2.2), ∀ (q7 : (Q7 y3 M3 y5 M5) y7 M7), ∀ (h9 : (y7 : Int32) = 0), AW l (pI pg 126) P kc ks 17 [(4, .int ((nI q) + Int32.ofInt 1)), (3, .int (nI p)), (2, .int ((v) + Int32.ofInt 1)), (1, .ref 17), (0, .ref 33)] [] SHF M7) : AW l (pI pg 126) P kc ks 17 [(4, .int (nI q)), (3, .int (nI p)), (2, .int (v)), (1, .ref 17), (0, .ref 33)] [] SHF M := by
  refine AW.iload (dq rfl) rfl ?_
  show AW l (pI pg 126) P kc ks 19 _ _ SHF _
  refine AW.aload_n (dq rfl) rfl rfl ?_
  show AW l (pI pg 126) P kc ks 20 _ _ SHF _
  refine fw_get (dq rfl) (pg_ok.2.1 126 _ _ _ _ rfl) rfl (v := .int (M.1 17 0)) rfl ?_
  show AW l (pI pg 126) P kc ks 23 _ _ SHF _
  refine AW.icmp_ge (dq rfl) (tgt := 65) (by decide) (fun h1 => ?_) (fun h1 => ?_)
  · have _ := h1
    refine AW.iinc (dq rfl) rfl (by decide +kernel) ?_
    show AW l (pI pg 126) P kc ks 68 [(3, .int ((nI p) + Int32.ofInt 1)), (4, .int (nI q)), (2, .int (v)), (1, .ref 17), (0, .ref 33)] [] SHF _
    refine AW.goto (dq rfl) (tgt := 4) (by decide) ?_
    refine AW.drop (lv' := [(3, .int ((nI p) + Int32.ofInt 1)), (2, .int (v)), (1, .ref 17), (0, .ref 33)]) (List.forall_mem_cons.mpr ⟨List.mem_of_getElem? (i := 0) rfl, List.forall_mem_cons.mpr ⟨List.mem_of_getElem? (i := 2) rfl, List.forall_mem_cons.mpr ⟨List.mem_of_getElem? (i := 3) rfl, List.forall_mem_cons.mpr ⟨List.mem_of_getElem? (i := 4) rfl, fun _ h => absurd h List.not_mem_nil⟩⟩⟩⟩) ?_
    exact k2 h1
  · have _ := h1
    refine AW.aload_n (dq rfl) rfl rfl ?_
    show AW l (pI pg 126) P kc ks 27 _ _ SHF _
    refine fw_callVI (as := []) (dq rfl) (pg_ok.2.2.1 126 _ _ _ _ rfl) rfl (by decide +kernel) rfl rfl (c4 h1) (fun y3 M3 e3 q3 => ?_)
    show AW l (pI pg 126) P kc ks 30 [(4, .int (nI q)), (3, .int (nI p)), (2, .int (v)), (1, .ref 17), (0, .ref 33)] [.int (y3)] SHF _
    refine AW.iconst (dq rfl) ?_
    show AW l (pI pg 126) P kc ks 31 _ _ SHF _
    refine AW.iload_n (dq rfl) rfl ?_
    show AW l (pI pg 126) P kc ks 32 _ _ SHF _
    refine AW.ishl (dq rfl) ?_
    show AW l (pI pg 126) P kc ks 33 _ _ SHF _
    refine AW.ixor (dq rfl) ?_
    show AW l (pI pg 126) P kc ks 34 _ _ SHF _
    refine AW.iconst (dq rfl) ?_
    show AW l (pI pg 126) P kc ks 35 _ _ SHF _
    refine AW.iload (dq rfl) rfl ?_
    show AW l (pI pg 126) P kc ks 37 _ _ SHF _
    refine AW.ishl (dq rfl) ?_
    show AW l (pI pg 126) P kc ks 38 _ _ SHF _
    refine AW.ixor (dq rfl) ?_
    show AW l (pI pg 126) P kc ks 39 _ _ SHF _
    refine AW.istore (dq rfl) (by decide +kernel) ?_
    show AW l (pI pg 126) P kc ks 41 [(5, .int (((y3) ^^^ ((Int32.ofInt 1) <<< ((nI p) &&& 31))) ^^^ ((Int32.ofInt 1) <<< ((nI q) &&& 31)))), (4, .int (nI q)), (3, .int (nI p)), (2, .int (v)), (1, .ref 17), (0, .ref 33)] [] SHF _
    refine AW.aload_n (dq rfl) rfl rfl ?_
    show AW l (pI pg 126) P kc ks 42 _ _ SHF _
    refine AW.aload_n (dq rfl) rfl rfl ?_
    show AW l (pI pg 126) P kc ks 43 _ _ SHF _
    refine fw_callVI (as := []) (dq rfl) (pg_ok.2.2.1 126 _ _ _ _ rfl) rfl (by decide +kernel) rfl rfl (c6 h1 y3 M3 e3 q3) (fun y5 M5 e5 q5 => ?_)
    show AW l (pI pg 126) P kc ks 46 [(5, .int (((y3) ^^^ ((Int32.ofInt 1) <<< ((nI p) &&& 31))) ^^^ ((Int32.ofInt 1) <<< ((nI q) &&& 31)))), (4, .int (nI q)), (3, .int (nI p)), (2, .int (v)), (1, .ref 17), (0, .ref 33)] [.int (y5), .ref 33] SHF _
    refine AW.lconst (dq rfl) ?_
    show AW l (pI pg 126) P kc ks 47 _ _ SHF _
    refine AW.iload (dq rfl) rfl ?_
    show AW l (pI pg 126) P kc ks 49 _ _ SHF _
    refine AW.lshl (dq rfl) ?_
    show AW l (pI pg 126) P kc ks 50 _ _ SHF _
    refine fw_callVI (as := [.int (y5), .long ((Int64.ofNat (1 : Fin 2)) <<< ((((y3) ^^^ ((Int32.ofInt 1) <<< ((nI p) &&& 31))) ^^^ ((Int32.ofInt 1) <<< ((nI q) &&& 31))).toInt64 &&& 63))]) (dq rfl) (pg_ok.2.2.1 126 _ _ _ _ rfl) rfl (by decide +kernel) rfl rfl (c8 h1 y3 M3 e3 q3 y5 M5 e5 q5) (fun y7 M7 e7 q7 => ?_)
    show AW l (pI pg 126) P kc ks 53 [(5, .int (((y3) ^^^ ((Int32.ofInt 1) <<< ((nI p) &&& 31))) ^^^ ((Int32.ofInt 1) <<< ((nI q) &&& 31)))), (4, .int (nI q)), (3, .int (nI p)), (2, .int (v)), (1, .ref 17), (0, .ref 33)] [.int (y7)] SHF _
    refine AW.if_ne (dq rfl) (tgt := 59) (by decide) (fun h9 => ?_) (fun h9 => ?_)
    · have _ := h9
      refine AW.iinc (dq rfl) rfl (by decide +kernel) ?_
      show AW l (pI pg 126) P kc ks 62 [(4, .int ((nI q) + Int32.ofInt 1)), (5, .int (((y3) ^^^ ((Int32.ofInt 1) <<< ((nI p) &&& 31))) ^^^ ((Int32.ofInt 1) <<< ((nI q) &&& 31)))), (3, .int (nI p)), (2, .int (v)), (1, .ref 17), (0, .ref 33)] [] SHF _
      refine AW.goto (dq rfl) (tgt := 17) (by decide) ?_
      refine AW.drop (lv' := [(4, .int ((nI q) + Int32.ofInt 1)), (3, .int (nI p)), (2, .int (v)), (1, .ref 17), (0, .ref 33)]) (List.forall_mem_cons.mpr ⟨List.mem_of_getElem? (i := 0) rfl, List.forall_mem_cons.mpr ⟨List.mem_of_getElem? (i := 2) rfl, List.forall_mem_cons.mpr ⟨List.mem_of_getElem? (i := 3) rfl, List.forall_mem_cons.mpr ⟨List.mem_of_getElem? (i := 4) rfl, List.forall_mem_cons.mpr ⟨List.mem_of_getElem? (i := 5) rfl, fun _ h => absurd h List.not_mem_nil⟩⟩⟩⟩⟩) ?_
      exact k10 h1 y3 M3 e3 q3 y5 M5 e5 q5 y7 M7 e7 q7 h9
    · have _ := h9
      refine AW.iinc (dq rfl) rfl (by decide +kernel) ?_
      show AW l (pI pg 126) P kc ks 59 [(2, .int ((v) + Int32.ofInt 1)), (5, .int (((y3) ^^^ ((Int32.ofInt 1) <<< ((nI p) &&& 31))) ^^^ ((Int32.ofInt 1) <<< ((nI q) &&& 31)))), (4, .int (nI q)), (3, .int (nI p)), (1, .ref 17), (0, .ref 33)] [] SHF _
      refine AW.iinc (dq rfl) rfl (by decide +kernel) ?_
      show AW l (pI pg 126) P kc ks 62 [(4, .int ((nI q) + Int32.ofInt 1)), (2, .int ((v) + Int32.ofInt 1)), (5, .int (((y3) ^^^ ((Int32.ofInt 1) <<< ((nI p) &&& 31))) ^^^ ((Int32.ofInt 1) <<< ((nI q) &&& 31)))), (3, .int (nI p)), (1, .ref 17), (0, .ref 33)] [] SHF _
      refine AW.goto (dq rfl) (tgt := 17) (by decide) ?_
      refine AW.drop (lv' := [(4, .int ((nI q) + Int32.ofInt 1)), (3, .int (nI p)), (2, .int ((v) + Int32.ofInt 1)), (1, .ref 17), (0, .ref 33)]) (List.forall_mem_cons.mpr ⟨List.mem_of_getElem? (i := 0) rfl, List.forall_mem_cons.mpr ⟨List.mem_of_getElem? (i := 3) rfl, List.forall_mem_cons.mpr ⟨List.mem_of_getElem? (i := 1) rfl, List.forall_mem_cons.mpr ⟨List.mem_of_getElem? (i := 4) rfl, List.forall_mem_cons.mpr ⟨List.mem_of_getElem? (i := 5) rfl, fun _ h => absurd h List.not_mem_nil⟩⟩⟩⟩⟩) ?_
      exact k11 h1 y3 M3 e3 q3 y5 M5 e5 q5 y7 M7 e7 q7 h9

theorem anyb_0 {l : aL} {P : aP} {kc ks : Nat} {x : Int32} {M : aM} (hJ : ∀ e ∈ RRS.2, M.2.2 e.1 e.2.1 = e.2.2) (hl0 : l.1.stackTraces = false) (Q2 : Int32 → aM → Prop) (c3 : ∀ (h1 : (x : Int32) = Int32.ofInt 0), AC l (pI pg 125) (fcI M Q2) 0 0 [.ref 33, .ref 17] SHF M) (r4 : ∀ (h1 : (x : Int32) = Int32.ofInt 0), ∀ (y2 : Int32), ∀ (M2 : aM), ∀ (e2 : M2.2.2 = M.2.2), ∀ (q2 : Q2 y2 M2), P (.inl (some (.int (y2)))) SHF M2) (Q6 : Int32 → aM → Prop) (c7 : ∀ (h1 : ¬ (x : Int32) = Int32.ofInt 0), ∀ (h5 : (x : Int32) = Int32.ofInt 1), AC l (pI pg 126) (fcI M Q6) 0 0 [.ref 33, .ref 17] SHF M) (r8 : ∀ (h1 : ¬ (x : Int32) = Int32.ofInt 0), ∀ (h5 : (x : Int32) = Int32.ofInt 1), ∀ (y6 : Int32), ∀ (M6 : aM), ∀ (e6 : M6.2.2 = M.2.2), ∀ (q6 : Q6 y6 M6), P (.inl (some (.int (y6)))) SHF M6) (Q10 : Int32 → aM → Prop) (c11 : ∀ (h1 : ¬ (x : Int32) = Int32.ofInt 0), ∀ (h5 : ¬ (x : Int32) = Int32.ofInt 1), ∀ (h9 : (x : Int32) = Int32.ofInt 2), AC l (pI pg 18) (fcI M Q10) 0 0 [.ref 17] SHF M) (Q12 : Int32 → aM → Int64 → aM → Prop) (c13 : ∀ (h1 : ¬ (x : Int32) = Int32.ofInt 0), ∀ (h5 : ¬ (x : Int32) = Int32.ofInt 1), ∀ (h9 : (x : Int32) = Int32.ofInt 2), ∀ (y10 : Int32), ∀ (M10 : aM), ∀ (e10 : M10.2.2 = M.2.2), ∀ (q10 : Q10 y10 M10), AC l (pI pg 31) (fcJ M10 (Q12 y10 M10)) 0 0 [.ref 17] SHF M10) (Q14 : Int32 → aM → Int64 → aM → Int32 → aM → Prop) (c15 : ∀ (h1 : ¬ (x : Int32) = Int32.ofInt 0), ∀ (h5 : ¬ (x : Int32) = Int32.ofInt 1), ∀ (h9 : (x : Int32) = Int32.ofInt 2), ∀ (y10 : Int32), ∀ (M10 : aM), ∀ (e10 : M10.2.2 = M.2.2), ∀ (q10 : Q10 y10 M10), ∀ (y12 : Int64), ∀ (M12 : aM), ∀ (e12 : M12.2.2 = M10.2.2), ∀ (q12 : (Q12 y10 M10) y12 M12), AC l (pI pg 119) (fcI M12 (Q14 y10 M10 y12 M12)) 0 0 [.ref 33, .int (y10), .long (y12)] SHF M12) (r17 : ∀ (h1 : ¬ (x : Int32) = Int32.ofInt 0), ∀ (h5 : ¬ (x : Int32) = Int32.ofInt 1), ∀ (h9 : (x : Int32) = Int32.ofInt 2), ∀ (y10 : Int32), ∀ (M10 : aM), ∀ (e10 : M10.2.2 = M.2.2), ∀ (q10 : Q10 y10 M10), ∀ (y12 : Int64), ∀ (M12 : aM), ∀ (e12 : M12.2.2 = M10.2.2), ∀ (q12 : (Q12 y10 M10) y12 M12), ∀ (y14 : Int32), ∀ (M14 : aM), ∀ (e14 : M14.2.2 = M12.2.2), ∀ (q14 : (Q14 y10 M10 y12 M12) y14 M14), ∀ (h16 : (y14 : Int32) = 0), P (.inl (some (.int (Int32.ofInt 0)))) SHF M14) (r18 : ∀ (h1 : ¬ (x : Int32) = Int32.ofInt 0), ∀ (h5 : ¬ (x : Int32) = Int32.ofInt 1), ∀ (h9 : (x : Int32) = Int32.ofInt 2), ∀ (y10 : Int32), ∀ (M10 : aM), ∀ (e10 : M10.2.2 = M.2.2), ∀ (q10 : Q10 y10 M10), ∀ (y12 : Int64), ∀ (M12 : aM), ∀ (e12 : M12.2.2 = M10.2.2), ∀ (q12 : (Q12 y10 M10) y12 M12), ∀ (y14 : Int32), ∀ (M14 : aM), ∀ (e14 : M14.2.2 = M12.2.2), ∀ (q14 : (Q14 y10 M10 y12 M12) y14 M14), ∀ (h16 : ¬ ((y14 : Int32) = 0)), P (.inl (some (.int (Int32.ofInt 1)))) SHF M14) (Q20 : Int32 → aM → Prop) (c21 : ∀ (h1 : ¬ (x : Int32) = Int32.ofInt 0), ∀ (h5 : ¬ (x : Int32) = Int32.ofInt 1), ∀ (h9 : ¬ (x : Int32) = Int32.ofInt 2), ∀ (h19 : (x : Int32) = Int32.ofInt 3), AC l (pI pg 18) (fcI M Q20) 0 0 [.ref 17] SHF M) (Q22 : Int32 → aM → Int64 → aM → Prop) (c23 : ∀ (h1 : ¬ (x : Int32) = Int32.ofInt 0), ∀ (h5 : ¬ (x : Int32) = Int32.ofInt 1), ∀ (h9 : ¬ (x : Int32) = Int32.ofInt 2), ∀ (h19 : (x : Int32) = Int32.ofInt 3), ∀ (y20 : Int32), ∀ (M20 : aM), ∀ (e20 : M20.2.2 = M.2.2), ∀ (q20 : Q20 y20 M20), AC l (pI pg 127) (fcJ M20 (Q22 y20 M20)) 0 0 [.ref 17] SHF M20) (Q24 : Int32 → aM → Int64 → aM → Int32 → aM → Prop) (c25 : ∀ (h1 : ¬ (x : Int32) = Int32.ofInt 0), ∀ (h5 : ¬ (x : Int32) = Int32.ofInt 1), ∀ (h9 : ¬ (x : Int32) = Int32.ofInt 2), ∀ (h19 : (x : Int32) = Int32.ofInt 3), ∀ (y20 : Int32), ∀ (M20 : aM), ∀ (e20 : M20.2.2 = M.2.2), ∀ (q20 : Q20 y20 M20), ∀ (y22 : Int64), ∀ (M22 : aM), ∀ (e22 : M22.2.2 = M20.2.2), ∀ (q22 : (Q22 y20 M20) y22 M22), AC l (pI pg 119) (fcI M22 (Q24 y20 M20 y22 M22)) 0 0 [.ref 33, .int (y20), .long (y22)] SHF M22) (r27 : ∀ (h1 : ¬ (x : Int32) = Int32.ofInt 0), ∀ (h5 : ¬ (x : Int32) = Int32.ofInt 1), ∀ (h9 : ¬ (x : Int32) = Int32.ofInt 2), ∀ (h19 : (x : Int32) = Int32.ofInt 3), ∀ (y20 : Int32), ∀ (M20 : aM), ∀ (e20 : M20.2.2 = M.2.2), ∀ (q20 : Q20 y20 M20), ∀ (y22 : Int64), ∀ (M22 : aM), ∀ (e22 : M22.2.2 = M20.2.2), ∀ (q22 : (Q22 y20 M20) y22 M22), ∀ (y24 : Int32), ∀ (M24 : aM), ∀ (e24 : M24.2.2 = M22.2.2), ∀ (q24 : (Q24 y20 M20 y22 M22) y24 M24), ∀ (h26 : (y24 : Int32) = 0), P (.inl (some (.int (Int32.ofInt 0)))) SHF M24) (r28 : ∀ (h1 : ¬ (x : Int32) = Int32.ofInt 0), ∀ (h5 : ¬ (x : Int32) = Int32.ofInt 1), ∀ (h9 : ¬ (x : Int32) = Int32.ofInt 2), ∀ (h19 : (x : Int32) = Int32.ofInt 3), ∀ (y20 : Int32), ∀ (M20 : aM), ∀ (e20 : M20.2.2 = M.2.2), ∀ (q20 : Q20 y20 M20), ∀ (y22 : Int64), ∀ (M22 : aM), ∀ (e22 : M22.2.2 = M20.2.2), ∀ (q22 : (Q22 y20 M20) y22 M22), ∀ (y24 : Int32), ∀ (M24 : aM), ∀ (e24 : M24.2.2 = M22.2.2), ∀ (q24 : (Q24 y20 M20 y22 M22) y24 M24), ∀ (h26 : ¬ ((y24 : Int32) = 0)), P (.inl (some (.int (Int32.ofInt 1)))) SHF M24) (x29 : ∀ (h1 : ¬ (x : Int32) = Int32.ofInt 0), ∀ (h5 : ¬ (x : Int32) = Int32.ofInt 1), ∀ (h9 : ¬ (x : Int32) = Int32.ofInt 2), ∀ (h19 : ¬ (x : Int32) = Int32.ofInt 3), P (.inr "java/util/NoSuchElementException") SHF M) : AW l (pI pg 124) P (kc + 1) (ks + 6) 0 [(0, .ref 0), (1, .int (x))] [] SHF M := by
  refine AW.iload_n (dq rfl) rfl ?_
  show AW l (pI pg 124) P (kc + 1) (ks + 6) 1 _ _ SHF _
  by_cases h1 : (x : Int32) = Int32.ofInt 0
  · refine AW.tableIn (dq rfl) (by rw [h1]; decide) (by rw [h1]; decide) (off := 31) (by rw [h1]; decide) (tgt := 32) (by decide) ?_
    show AW l (pI pg 124) P (kc + 1) (ks + 6) 32 [(0, .ref 0), (1, .int (x))] [] SHF _
    refine AW.aload_n (dq rfl) rfl rfl ?_
    show AW l (pI pg 124) P (kc + 1) (ks + 6) 33 _ _ SHF _
    refine fw_get (dq rfl) (pg_ok.2.1 124 _ _ _ _ rfl) rfl (v := .ref 33) (isTA_ok rfl (rgR_ok hJ rfl)) ?_
    show AW l (pI pg 124) P (kc + 1) (ks + 6) 36 _ _ SHF _
    refine AW.aload_n (dq rfl) rfl rfl ?_
    show AW l (pI pg 124) P (kc + 1) (ks + 6) 37 _ _ SHF _
    refine fw_get (dq rfl) (pg_ok.2.1 124 _ _ _ _ rfl) rfl (v := .ref 17) (isTA_ok rfl (rgR_ok hJ rfl)) ?_
    show AW l (pI pg 124) P (kc + 1) (ks + 6) 40 _ _ SHF _
    refine fw_callVI (as := [.ref 17]) (dq rfl) (pg_ok.2.2.1 124 _ _ _ _ rfl) rfl (by decide +kernel) rfl rfl (c3 h1) (fun y2 M2 e2 q2 => ?_)
    have hJ2 : ∀ e ∈ RRS.2, M2.2.2 e.1 e.2.1 = e.2.2 := fun e he => by rw [e2]; exact hJ e he
    show AW l (pI pg 124) P (kc + 1) (ks + 6) 43 [(0, .ref 0), (1, .int (x))] [.int (y2)] SHF _
    refine AW.iret (dq rfl) rfl ?_
    exact r4 h1 y2 M2 e2 q2
  by_cases h5 : (x : Int32) = Int32.ofInt 1
  · refine AW.tableIn (dq rfl) (by rw [h5]; decide) (by rw [h5]; decide) (off := 43) (by rw [h5]; decide) (tgt := 44) (by decide) ?_
    show AW l (pI pg 124) P (kc + 1) (ks + 6) 44 [(0, .ref 0), (1, .int (x))] [] SHF _
    refine AW.aload_n (dq rfl) rfl rfl ?_
    show AW l (pI pg 124) P (kc + 1) (ks + 6) 45 _ _ SHF _
    refine fw_get (dq rfl) (pg_ok.2.1 124 _ _ _ _ rfl) rfl (v := .ref 33) (isTA_ok rfl (rgR_ok hJ rfl)) ?_
    show AW l (pI pg 124) P (kc + 1) (ks + 6) 48 _ _ SHF _
    refine AW.aload_n (dq rfl) rfl rfl ?_
    show AW l (pI pg 124) P (kc + 1) (ks + 6) 49 _ _ SHF _
    refine fw_get (dq rfl) (pg_ok.2.1 124 _ _ _ _ rfl) rfl (v := .ref 17) (isTA_ok rfl (rgR_ok hJ rfl)) ?_
    show AW l (pI pg 124) P (kc + 1) (ks + 6) 52 _ _ SHF _
    refine fw_callVI (as := [.ref 17]) (dq rfl) (pg_ok.2.2.1 124 _ _ _ _ rfl) rfl (by decide +kernel) rfl rfl (c7 h1 h5) (fun y6 M6 e6 q6 => ?_)
    have hJ6 : ∀ e ∈ RRS.2, M6.2.2 e.1 e.2.1 = e.2.2 := fun e he => by rw [e6]; exact hJ e he
    show AW l (pI pg 124) P (kc + 1) (ks + 6) 55 [(0, .ref 0), (1, .int (x))] [.int (y6)] SHF _
    refine AW.iret (dq rfl) rfl ?_
    exact r8 h1 h5 y6 M6 e6 q6
  by_cases h9 : (x : Int32) = Int32.ofInt 2
  · refine AW.tableIn (dq rfl) (by rw [h9]; decide) (by rw [h9]; decide) (off := 55) (by rw [h9]; decide) (tgt := 56) (by decide) ?_
    show AW l (pI pg 124) P (kc + 1) (ks + 6) 56 [(0, .ref 0), (1, .int (x))] [] SHF _
    refine AW.aload_n (dq rfl) rfl rfl ?_
    show AW l (pI pg 124) P (kc + 1) (ks + 6) 57 _ _ SHF _
    refine fw_get (dq rfl) (pg_ok.2.1 124 _ _ _ _ rfl) rfl (v := .ref 33) (isTA_ok rfl (rgR_ok hJ rfl)) ?_
    show AW l (pI pg 124) P (kc + 1) (ks + 6) 60 _ _ SHF _
    refine AW.aload_n (dq rfl) rfl rfl ?_
    show AW l (pI pg 124) P (kc + 1) (ks + 6) 61 _ _ SHF _
    refine fw_get (dq rfl) (pg_ok.2.1 124 _ _ _ _ rfl) rfl (v := .ref 17) (isTA_ok rfl (rgR_ok hJ rfl)) ?_
    show AW l (pI pg 124) P (kc + 1) (ks + 6) 64 _ _ SHF _
    refine fw_callVI (as := []) (dq rfl) (pg_ok.2.2.1 124 _ _ _ _ rfl) rfl (by decide +kernel) rfl rfl (c11 h1 h5 h9) (fun y10 M10 e10 q10 => ?_)
    have hJ10 : ∀ e ∈ RRS.2, M10.2.2 e.1 e.2.1 = e.2.2 := fun e he => by rw [e10]; exact hJ e he
    show AW l (pI pg 124) P (kc + 1) (ks + 6) 67 [(0, .ref 0), (1, .int (x))] [.int (y10), .ref 33] SHF _
    refine AW.aload_n (dq rfl) rfl rfl ?_
    show AW l (pI pg 124) P (kc + 1) (ks + 6) 68 _ _ SHF _
    refine fw_get (dq rfl) (pg_ok.2.1 124 _ _ _ _ rfl) rfl (v := .ref 17) (isTA_ok rfl (rgR_ok hJ10 rfl)) ?_
    show AW l (pI pg 124) P (kc + 1) (ks + 6) 71 _ _ SHF _
    refine fw_callVJ (as := []) (dq rfl) (pg_ok.2.2.1 124 _ _ _ _ rfl) rfl (by decide +kernel) rfl rfl (c13 h1 h5 h9 y10 M10 e10 q10) (fun y12 M12 e12 q12 => ?_)
    have hJ12 : ∀ e ∈ RRS.2, M12.2.2 e.1 e.2.1 = e.2.2 := fun e he => by rw [e12]; exact hJ10 e he
    show AW l (pI pg 124) P (kc + 1) (ks + 6) 74 [(0, .ref 0), (1, .int (x))] [.long (y12), .int (y10), .ref 33] SHF _
    refine fw_callVI (as := [.int (y10), .long (y12)]) (dq rfl) (pg_ok.2.2.1 124 _ _ _ _ rfl) rfl (by decide +kernel) rfl rfl (c15 h1 h5 h9 y10 M10 e10 q10 y12 M12 e12 q12) (fun y14 M14 e14 q14 => ?_)
    have hJ14 : ∀ e ∈ RRS.2, M14.2.2 e.1 e.2.1 = e.2.2 := fun e he => by rw [e14]; exact hJ12 e he
    show AW l (pI pg 124) P (kc + 1) (ks + 6) 77 [(0, .ref 0), (1, .int (x))] [.int (y14)] SHF _
    refine AW.if_eq (dq rfl) (tgt := 84) (by decide) (fun h16 => ?_) (fun h16 => ?_)
    · have _ := h16
      refine AW.iconst (dq rfl) ?_
      show AW l (pI pg 124) P (kc + 1) (ks + 6) 85 _ _ SHF _
      refine AW.iret (dq rfl) rfl ?_
      exact r17 h1 h5 h9 y10 M10 e10 q10 y12 M12 e12 q12 y14 M14 e14 q14 h16
    · have _ := h16
      refine AW.iconst (dq rfl) ?_
      show AW l (pI pg 124) P (kc + 1) (ks + 6) 81 _ _ SHF _
      refine AW.goto (dq rfl) (tgt := 85) (by decide) ?_
      refine AW.iret (dq rfl) rfl ?_
      exact r18 h1 h5 h9 y10 M10 e10 q10 y12 M12 e12 q12 y14 M14 e14 q14 h16
  by_cases h19 : (x : Int32) = Int32.ofInt 3
  · refine AW.tableIn (dq rfl) (by rw [h19]; decide) (by rw [h19]; decide) (off := 85) (by rw [h19]; decide) (tgt := 86) (by decide) ?_
    show AW l (pI pg 124) P (kc + 1) (ks + 6) 86 [(0, .ref 0), (1, .int (x))] [] SHF _
    refine AW.aload_n (dq rfl) rfl rfl ?_
    show AW l (pI pg 124) P (kc + 1) (ks + 6) 87 _ _ SHF _
    refine fw_get (dq rfl) (pg_ok.2.1 124 _ _ _ _ rfl) rfl (v := .ref 33) (isTA_ok rfl (rgR_ok hJ rfl)) ?_
    show AW l (pI pg 124) P (kc + 1) (ks + 6) 90 _ _ SHF _
    refine AW.aload_n (dq rfl) rfl rfl ?_
    show AW l (pI pg 124) P (kc + 1) (ks + 6) 91 _ _ SHF _
    refine fw_get (dq rfl) (pg_ok.2.1 124 _ _ _ _ rfl) rfl (v := .ref 17) (isTA_ok rfl (rgR_ok hJ rfl)) ?_
    show AW l (pI pg 124) P (kc + 1) (ks + 6) 94 _ _ SHF _
    refine fw_callVI (as := []) (dq rfl) (pg_ok.2.2.1 124 _ _ _ _ rfl) rfl (by decide +kernel) rfl rfl (c21 h1 h5 h9 h19) (fun y20 M20 e20 q20 => ?_)
    have hJ20 : ∀ e ∈ RRS.2, M20.2.2 e.1 e.2.1 = e.2.2 := fun e he => by rw [e20]; exact hJ e he
    show AW l (pI pg 124) P (kc + 1) (ks + 6) 97 [(0, .ref 0), (1, .int (x))] [.int (y20), .ref 33] SHF _
    refine AW.aload_n (dq rfl) rfl rfl ?_
    show AW l (pI pg 124) P (kc + 1) (ks + 6) 98 _ _ SHF _
    refine fw_get (dq rfl) (pg_ok.2.1 124 _ _ _ _ rfl) rfl (v := .ref 17) (isTA_ok rfl (rgR_ok hJ20 rfl)) ?_
    show AW l (pI pg 124) P (kc + 1) (ks + 6) 101 _ _ SHF _
    refine fw_callVJ (as := []) (dq rfl) (pg_ok.2.2.1 124 _ _ _ _ rfl) rfl (by decide +kernel) rfl rfl (c23 h1 h5 h9 h19 y20 M20 e20 q20) (fun y22 M22 e22 q22 => ?_)
    have hJ22 : ∀ e ∈ RRS.2, M22.2.2 e.1 e.2.1 = e.2.2 := fun e he => by rw [e22]; exact hJ20 e he
    show AW l (pI pg 124) P (kc + 1) (ks + 6) 104 [(0, .ref 0), (1, .int (x))] [.long (y22), .int (y20), .ref 33] SHF _
    refine fw_callVI (as := [.int (y20), .long (y22)]) (dq rfl) (pg_ok.2.2.1 124 _ _ _ _ rfl) rfl (by decide +kernel) rfl rfl (c25 h1 h5 h9 h19 y20 M20 e20 q20 y22 M22 e22 q22) (fun y24 M24 e24 q24 => ?_)
    have hJ24 : ∀ e ∈ RRS.2, M24.2.2 e.1 e.2.1 = e.2.2 := fun e he => by rw [e24]; exact hJ22 e he
    show AW l (pI pg 124) P (kc + 1) (ks + 6) 107 [(0, .ref 0), (1, .int (x))] [.int (y24)] SHF _
    refine AW.if_eq (dq rfl) (tgt := 114) (by decide) (fun h26 => ?_) (fun h26 => ?_)
    · have _ := h26
      refine AW.iconst (dq rfl) ?_
      show AW l (pI pg 124) P (kc + 1) (ks + 6) 115 _ _ SHF _
      refine AW.iret (dq rfl) rfl ?_
      exact r27 h1 h5 h9 h19 y20 M20 e20 q20 y22 M22 e22 q22 y24 M24 e24 q24 h26
    · have _ := h26
      refine AW.iconst (dq rfl) ?_
      show AW l (pI pg 124) P (kc + 1) (ks + 6) 111 _ _ SHF _
      refine AW.goto (dq rfl) (tgt := 115) (by decide) ?_
      refine AW.iret (dq rfl) rfl ?_
      exact r28 h1 h5 h9 h19 y20 M20 e20 q20 y22 M22 e22 q22 y24 M24 e24 q24 h26
  refine AW.tableOut (dq rfl) (tb_out3 h1 h5 h9 h19) (tgt := 116) (by decide) ?_
  show AW l (pI pg 124) P (kc + 1) (ks + 6) 116 [(0, .ref 0), (1, .int (x))] [] SHF _
  refine pg_ok.2.2.2.2.2.2.2.1 124 _ _ rfl _ _ _ _ _ _ _ ?_
  exact x29 h1 h5 h9 h19

theorem hol_0 {l : aL} {P : aP} {kc ks : Nat} {b : Int32} {M : aM} (hJ : ∀ e ∈ RM, M.2.2 e.1 e.2.1 = e.2.2) (hl0 : l.1.stackTraces = false) (k1 : AW l (pI pg 223) P kc ks 11 [(3, .int (Int32.ofInt 0)), (2, .int (((Int32.ofInt 1) <<< ((M.1 58 1) &&& 31)) - (Int32.ofInt 1))), (1, .int (b)), (0, .ref 58)] [] SHF M) : AW l (pI pg 223) P kc ks 0 [(0, .ref 58), (1, .int (b))] [] SHF M := by
  refine AW.iconst (dq rfl) ?_
  show AW l (pI pg 223) P kc ks 1 _ _ SHF _
  refine AW.aload_n (dq rfl) rfl rfl ?_
  show AW l (pI pg 223) P kc ks 2 _ _ SHF _
  refine fw_get (dq rfl) (pg_ok.2.1 223 _ _ _ _ rfl) rfl (v := .int (M.1 58 1)) rfl ?_
  show AW l (pI pg 223) P kc ks 5 _ _ SHF _
  refine AW.ishl (dq rfl) ?_
  show AW l (pI pg 223) P kc ks 6 _ _ SHF _
  refine AW.iconst (dq rfl) ?_
  show AW l (pI pg 223) P kc ks 7 _ _ SHF _
  refine AW.isub (dq rfl) ?_
  show AW l (pI pg 223) P kc ks 8 _ _ SHF _
  refine AW.istore_n (dq rfl) (by decide +kernel) ?_
  show AW l (pI pg 223) P kc ks 9 [(2, .int (((Int32.ofInt 1) <<< ((M.1 58 1) &&& 31)) - (Int32.ofInt 1))), (0, .ref 58), (1, .int (b))] [] SHF _
  refine AW.iconst (dq rfl) ?_
  show AW l (pI pg 223) P kc ks 10 _ _ SHF _
  refine AW.istore_n (dq rfl) (by decide +kernel) ?_
  show AW l (pI pg 223) P kc ks 11 [(3, .int (Int32.ofInt 0)), (2, .int (((Int32.ofInt 1) <<< ((M.1 58 1) &&& 31)) - (Int32.ofInt 1))), (0, .ref 58), (1, .int (b))] [] SHF _
  refine AW.drop (lv' := [(3, .int (Int32.ofInt 0)), (2, .int (((Int32.ofInt 1) <<< ((M.1 58 1) &&& 31)) - (Int32.ofInt 1))), (1, .int (b)), (0, .ref 58)]) (List.forall_mem_cons.mpr ⟨List.mem_of_getElem? (i := 0) rfl, List.forall_mem_cons.mpr ⟨List.mem_of_getElem? (i := 1) rfl, List.forall_mem_cons.mpr ⟨List.mem_of_getElem? (i := 3) rfl, List.forall_mem_cons.mpr ⟨List.mem_of_getElem? (i := 2) rfl, fun _ h => absurd h List.not_mem_nil⟩⟩⟩⟩) ?_
  exact k1

theorem hol_11 {l : aL} {P : aP} {kc ks : Nat} {p : Nat} {b v : Int32} {M : aM} (hJ : ∀ e ∈ RM, M.2.2 e.1 e.2.1 = e.2.2) (hl0 : l.1.stackTraces = false) (r2 : ∀ (h1 : (M.1 58 1 : Int32) ≤ (nI p : Int32)), P (.inl (some (.int (Int32.ofInt 1)))) SHF M) (Q4 : Int32 → aM → Prop) (c5 : ∀ (h1 : ¬ ((M.1 58 1 : Int32) ≤ (nI p : Int32))), ∀ (h3 : (b : Int32) = 0), AC l (pI pg 209) (fcI M Q4) 0 0 [.ref 58, .int ((v) &&& (((Int32.ofInt 1) <<< ((nI p) &&& 31)) ^^^ (Int32.ofInt (-1))))] SHF M) (k7 : ∀ (h1 : ¬ ((M.1 58 1 : Int32) ≤ (nI p : Int32))), ∀ (h3 : (b : Int32) = 0), ∀ (y4 : Int32), ∀ (M4 : aM), ∀ (e4 : M4.2.2 = M.2.2), ∀ (q4 : Q4 y4 M4), ∀ (h6 : ¬ (y4 : Int32) = 0), AW l (pI pg 223) P kc ks 50 [(4, .int (Int32.ofInt 0)), (3, .int (nI p)), (2, .int (v)), (1, .int (b)), (0, .ref 58)] [] SHF M4) (r8 : ∀ (h1 : ¬ ((M.1 58 1 : Int32) ≤ (nI p : Int32))), ∀ (h3 : (b : Int32) = 0), ∀ (y4 : Int32), ∀ (M4 : aM), ∀ (e4 : M4.2.2 = M.2.2), ∀ (q4 : Q4 y4 M4), ∀ (h6 : (y4 : Int32) = 0), P (.inl (some (.int (Int32.ofInt 0)))) SHF M4) (k10 : ∀ (h1 : ¬ ((M.1 58 1 : Int32) ≤ (nI p : Int32))), ∀ (h3 : ¬ ((b : Int32) = 0)), ∀ (h9 : ¬ (M.1 58 1 : Int32) = (Int32.ofInt 1 : Int32)), AW l (pI pg 223) P kc ks 50 [(4, .int (Int32.ofInt 0)), (3, .int (nI p)), (2, .int (v)), (1, .int (b)), (0, .ref 58)] [] SHF M) (Q11 : Int32 → aM → Prop) (c12 : ∀ (h1 : ¬ ((M.1 58 1 : Int32) ≤ (nI p : Int32))), ∀ (h3 : ¬ ((b : Int32) = 0)), ∀ (h9 : (M.1 58 1 : Int32) = (Int32.ofInt 1 : Int32)), AC l (pI pg 209) (fcI M Q11) 0 0 [.ref 58, .int ((v) &&& (((Int32.ofInt 1) <<< ((nI p) &&& 31)) ^^^ (Int32.ofInt (-1))))] SHF M) (k14 : ∀ (h1 : ¬ ((M.1 58 1 : Int32) ≤ (nI p : Int32))), ∀ (h3 : ¬ ((b : Int32) = 0)), ∀ (h9 : (M.1 58 1 : Int32) = (Int32.ofInt 1 : Int32)), ∀ (y11 : Int32), ∀ (M11 : aM), ∀ (e11 : M11.2.2 = M.2.2), ∀ (q11 : Q11 y11 M11), ∀ (h13 : ¬ (y11 : Int32) = 0), AW l (pI pg 223) P kc ks 50 [(4, .int (Int32.ofInt 0)), (3, .int (nI p)), (2, .int (v)), (1, .int (b)), (0, .ref 58)] [] SHF M11) (r15 : ∀ (h1 : ¬ ((M.1 58 1 : Int32) ≤ (nI p : Int32))), ∀ (h3 : ¬ ((b : Int32) = 0)), ∀ (h9 : (M.1 58 1 : Int32) = (Int32.ofInt 1 : Int32)), ∀ (y11 : Int32), ∀ (M11 : aM), ∀ (e11 : M11.2.2 = M.2.2), ∀ (q11 : Q11 y11 M11), ∀ (h13 : (y11 : Int32) = 0), P (.inl (some (.int (Int32.ofInt 0)))) SHF M11) : AW l (pI pg 223) P kc ks 11 [(3, .int (nI p)), (2, .int (v)), (1, .int (b)), (0, .ref 58)] [] SHF M := by
  refine AW.iload_n (dq rfl) rfl ?_
  show AW l (pI pg 223) P kc ks 12 _ _ SHF _
  refine AW.aload_n (dq rfl) rfl rfl ?_
  show AW l (pI pg 223) P kc ks 13 _ _ SHF _
  refine fw_get (dq rfl) (pg_ok.2.1 223 _ _ _ _ rfl) rfl (v := .int (M.1 58 1)) rfl ?_
  show AW l (pI pg 223) P kc ks 16 _ _ SHF _
  refine AW.icmp_ge (dq rfl) (tgt := 93) (by decide) (fun h1 => ?_) (fun h1 => ?_)
  · have _ := h1
    refine AW.iconst (dq rfl) ?_
    show AW l (pI pg 223) P kc ks 94 _ _ SHF _
    refine AW.zret (dq rfl) rfl (by decide) ?_
    exact r2 h1
  · have _ := h1
    refine AW.iload_n (dq rfl) rfl ?_
    show AW l (pI pg 223) P kc ks 20 _ _ SHF _
    refine AW.if_eq (dq rfl) (tgt := 31) (by decide) (fun h3 => ?_) (fun h3 => ?_)
    · have _ := h3
      refine AW.aload_n (dq rfl) rfl rfl ?_
      show AW l (pI pg 223) P kc ks 32 _ _ SHF _
      refine AW.iload_n (dq rfl) rfl ?_
      show AW l (pI pg 223) P kc ks 33 _ _ SHF _
      refine AW.iconst (dq rfl) ?_
      show AW l (pI pg 223) P kc ks 34 _ _ SHF _
      refine AW.iload_n (dq rfl) rfl ?_
      show AW l (pI pg 223) P kc ks 35 _ _ SHF _
      refine AW.ishl (dq rfl) ?_
      show AW l (pI pg 223) P kc ks 36 _ _ SHF _
      refine AW.iconst (dq rfl) ?_
      show AW l (pI pg 223) P kc ks 37 _ _ SHF _
      refine AW.ixor (dq rfl) ?_
      show AW l (pI pg 223) P kc ks 38 _ _ SHF _
      refine AW.iand (dq rfl) ?_
      show AW l (pI pg 223) P kc ks 39 _ _ SHF _
      refine fw_callVI (as := [.int ((v) &&& (((Int32.ofInt 1) <<< ((nI p) &&& 31)) ^^^ (Int32.ofInt (-1))))]) (dq rfl) (pg_ok.2.2.1 223 _ _ _ _ rfl) rfl (by decide +kernel) rfl rfl (c5 h1 h3) (fun y4 M4 e4 q4 => ?_)
      have hJ4 : ∀ e ∈ RM, M4.2.2 e.1 e.2.1 = e.2.2 := fun e he => by rw [e4]; exact hJ e he
      show AW l (pI pg 223) P kc ks 42 [(3, .int (nI p)), (2, .int (v)), (1, .int (b)), (0, .ref 58)] [.int (y4)] SHF _
      refine AW.if_ne (dq rfl) (tgt := 47) (by decide) (fun h6 => ?_) (fun h6 => ?_)
      · have _ := h6
        refine AW.iconst (dq rfl) ?_
        show AW l (pI pg 223) P kc ks 48 _ _ SHF _
        refine AW.istore (dq rfl) (by decide +kernel) ?_
        show AW l (pI pg 223) P kc ks 50 [(4, .int (Int32.ofInt 0)), (3, .int (nI p)), (2, .int (v)), (1, .int (b)), (0, .ref 58)] [] SHF _
        refine AW.drop (lv' := [(4, .int (Int32.ofInt 0)), (3, .int (nI p)), (2, .int (v)), (1, .int (b)), (0, .ref 58)]) (List.forall_mem_cons.mpr ⟨List.mem_of_getElem? (i := 0) rfl, List.forall_mem_cons.mpr ⟨List.mem_of_getElem? (i := 1) rfl, List.forall_mem_cons.mpr ⟨List.mem_of_getElem? (i := 2) rfl, List.forall_mem_cons.mpr ⟨List.mem_of_getElem? (i := 3) rfl, List.forall_mem_cons.mpr ⟨List.mem_of_getElem? (i := 4) rfl, fun _ h => absurd h List.not_mem_nil⟩⟩⟩⟩⟩) ?_
        exact k7 h1 h3 y4 M4 e4 q4 h6
      · have _ := h6
        refine AW.iconst (dq rfl) ?_
        show AW l (pI pg 223) P kc ks 46 _ _ SHF _
        refine AW.zret (dq rfl) rfl (by decide) ?_
        exact r8 h1 h3 y4 M4 e4 q4 h6
    · have _ := h3
      refine AW.aload_n (dq rfl) rfl rfl ?_
      show AW l (pI pg 223) P kc ks 24 _ _ SHF _
      refine fw_get (dq rfl) (pg_ok.2.1 223 _ _ _ _ rfl) rfl (v := .int (M.1 58 1)) rfl ?_
      show AW l (pI pg 223) P kc ks 27 _ _ SHF _
      refine AW.iconst (dq rfl) ?_
      show AW l (pI pg 223) P kc ks 28 _ _ SHF _
      refine AW.icmp_ne (dq rfl) (tgt := 47) (by decide) (fun h9 => ?_) (fun h9 => ?_)
      · have _ := h9
        refine AW.iconst (dq rfl) ?_
        show AW l (pI pg 223) P kc ks 48 _ _ SHF _
        refine AW.istore (dq rfl) (by decide +kernel) ?_
        show AW l (pI pg 223) P kc ks 50 [(4, .int (Int32.ofInt 0)), (3, .int (nI p)), (2, .int (v)), (1, .int (b)), (0, .ref 58)] [] SHF _
        refine AW.drop (lv' := [(4, .int (Int32.ofInt 0)), (3, .int (nI p)), (2, .int (v)), (1, .int (b)), (0, .ref 58)]) (List.forall_mem_cons.mpr ⟨List.mem_of_getElem? (i := 0) rfl, List.forall_mem_cons.mpr ⟨List.mem_of_getElem? (i := 1) rfl, List.forall_mem_cons.mpr ⟨List.mem_of_getElem? (i := 2) rfl, List.forall_mem_cons.mpr ⟨List.mem_of_getElem? (i := 3) rfl, List.forall_mem_cons.mpr ⟨List.mem_of_getElem? (i := 4) rfl, fun _ h => absurd h List.not_mem_nil⟩⟩⟩⟩⟩) ?_
        exact k10 h1 h3 h9
      · have _ := h9
        refine AW.aload_n (dq rfl) rfl rfl ?_
        show AW l (pI pg 223) P kc ks 32 _ _ SHF _
        refine AW.iload_n (dq rfl) rfl ?_
        show AW l (pI pg 223) P kc ks 33 _ _ SHF _
        refine AW.iconst (dq rfl) ?_
        show AW l (pI pg 223) P kc ks 34 _ _ SHF _
        refine AW.iload_n (dq rfl) rfl ?_
        show AW l (pI pg 223) P kc ks 35 _ _ SHF _
        refine AW.ishl (dq rfl) ?_
        show AW l (pI pg 223) P kc ks 36 _ _ SHF _
        refine AW.iconst (dq rfl) ?_
        show AW l (pI pg 223) P kc ks 37 _ _ SHF _
        refine AW.ixor (dq rfl) ?_
        show AW l (pI pg 223) P kc ks 38 _ _ SHF _
        refine AW.iand (dq rfl) ?_
        show AW l (pI pg 223) P kc ks 39 _ _ SHF _
        refine fw_callVI (as := [.int ((v) &&& (((Int32.ofInt 1) <<< ((nI p) &&& 31)) ^^^ (Int32.ofInt (-1))))]) (dq rfl) (pg_ok.2.2.1 223 _ _ _ _ rfl) rfl (by decide +kernel) rfl rfl (c12 h1 h3 h9) (fun y11 M11 e11 q11 => ?_)
        have hJ11 : ∀ e ∈ RM, M11.2.2 e.1 e.2.1 = e.2.2 := fun e he => by rw [e11]; exact hJ e he
        show AW l (pI pg 223) P kc ks 42 [(3, .int (nI p)), (2, .int (v)), (1, .int (b)), (0, .ref 58)] [.int (y11)] SHF _
        refine AW.if_ne (dq rfl) (tgt := 47) (by decide) (fun h13 => ?_) (fun h13 => ?_)
        · have _ := h13
          refine AW.iconst (dq rfl) ?_
          show AW l (pI pg 223) P kc ks 48 _ _ SHF _
          refine AW.istore (dq rfl) (by decide +kernel) ?_
          show AW l (pI pg 223) P kc ks 50 [(4, .int (Int32.ofInt 0)), (3, .int (nI p)), (2, .int (v)), (1, .int (b)), (0, .ref 58)] [] SHF _
          refine AW.drop (lv' := [(4, .int (Int32.ofInt 0)), (3, .int (nI p)), (2, .int (v)), (1, .int (b)), (0, .ref 58)]) (List.forall_mem_cons.mpr ⟨List.mem_of_getElem? (i := 0) rfl, List.forall_mem_cons.mpr ⟨List.mem_of_getElem? (i := 1) rfl, List.forall_mem_cons.mpr ⟨List.mem_of_getElem? (i := 2) rfl, List.forall_mem_cons.mpr ⟨List.mem_of_getElem? (i := 3) rfl, List.forall_mem_cons.mpr ⟨List.mem_of_getElem? (i := 4) rfl, fun _ h => absurd h List.not_mem_nil⟩⟩⟩⟩⟩) ?_
          exact k14 h1 h3 h9 y11 M11 e11 q11 h13
        · have _ := h13
          refine AW.iconst (dq rfl) ?_
          show AW l (pI pg 223) P kc ks 46 _ _ SHF _
          refine AW.zret (dq rfl) rfl (by decide) ?_
          exact r15 h1 h3 h9 y11 M11 e11 q11 h13

theorem hol_50 {l : aL} {P : aP} {kc ks : Nat} {p q : Nat} {b v : Int32} {M : aM} (hJ : ∀ e ∈ RM, M.2.2 e.1 e.2.1 = e.2.2) (hl0 : l.1.stackTraces = false) (k2 : ∀ (h1 : (b : Int32) = 0), AW l (pI pg 223) P kc ks 11 [(3, .int ((nI p) + Int32.ofInt 1)), (2, .int (v)), (1, .int (b)), (0, .ref 58)] [] SHF M) (k4 : ∀ (h1 : ¬ ((b : Int32) = 0)), ∀ (h3 : (nI p : Int32) ≤ (nI q : Int32)), AW l (pI pg 223) P kc ks 11 [(3, .int ((nI p) + Int32.ofInt 1)), (2, .int (v)), (1, .int (b)), (0, .ref 58)] [] SHF M) (Q5 : Int32 → aM → Prop) (c6 : ∀ (h1 : ¬ ((b : Int32) = 0)), ∀ (h3 : ¬ ((nI p : Int32) ≤ (nI q : Int32))), AC l (pI pg 209) (fcI M Q5) 0 0 [.ref 58, .int ((v) &&& ((((Int32.ofInt 1) <<< ((nI p) &&& 31)) ||| ((Int32.ofInt 1) <<< ((nI q) &&& 31))) ^^^ (Int32.ofInt (-1))))] SHF M) (k8 : ∀ (h1 : ¬ ((b : Int32) = 0)), ∀ (h3 : ¬ ((nI p : Int32) ≤ (nI q : Int32))), ∀ (y5 : Int32), ∀ (M5 : aM), ∀ (e5 : M5.2.2 = M.2.2), ∀ (q5 : Q5 y5 M5), ∀ (h7 : ¬ (y5 : Int32) = 0), AW l (pI pg 223) P kc ks 50 [(4, .int ((nI q) + Int32.ofInt 1)), (3, .int (nI p)), (2, .int (v)), (1, .int (b)), (0, .ref 58)] [] SHF M5) (r9 : ∀ (h1 : ¬ ((b : Int32) = 0)), ∀ (h3 : ¬ ((nI p : Int32) ≤ (nI q : Int32))), ∀ (y5 : Int32), ∀ (M5 : aM), ∀ (e5 : M5.2.2 = M.2.2), ∀ (q5 : Q5 y5 M5), ∀ (h7 : (y5 : Int32) = 0), P (.inl (some (.int (Int32.ofInt 0)))) SHF M5) : AW l (pI pg 223) P kc ks 50 [(4, .int (nI q)), (3, .int (nI p)), (2, .int (v)), (1, .int (b)), (0, .ref 58)] [] SHF M := by
  refine AW.iload_n (dq rfl) rfl ?_
  show AW l (pI pg 223) P kc ks 51 _ _ SHF _
  refine AW.if_eq (dq rfl) (tgt := 87) (by decide) (fun h1 => ?_) (fun h1 => ?_)
  · have _ := h1
    refine AW.iinc (dq rfl) rfl (by decide +kernel) ?_
    show AW l (pI pg 223) P kc ks 90 [(3, .int ((nI p) + Int32.ofInt 1)), (4, .int (nI q)), (2, .int (v)), (1, .int (b)), (0, .ref 58)] [] SHF _
    refine AW.goto (dq rfl) (tgt := 11) (by decide) ?_
    refine AW.drop (lv' := [(3, .int ((nI p) + Int32.ofInt 1)), (2, .int (v)), (1, .int (b)), (0, .ref 58)]) (List.forall_mem_cons.mpr ⟨List.mem_of_getElem? (i := 0) rfl, List.forall_mem_cons.mpr ⟨List.mem_of_getElem? (i := 2) rfl, List.forall_mem_cons.mpr ⟨List.mem_of_getElem? (i := 3) rfl, List.forall_mem_cons.mpr ⟨List.mem_of_getElem? (i := 4) rfl, fun _ h => absurd h List.not_mem_nil⟩⟩⟩⟩) ?_
    exact k2 h1
  · have _ := h1
    refine AW.iload (dq rfl) rfl ?_
    show AW l (pI pg 223) P kc ks 56 _ _ SHF _
    refine AW.iload_n (dq rfl) rfl ?_
    show AW l (pI pg 223) P kc ks 57 _ _ SHF _
    refine AW.icmp_ge (dq rfl) (tgt := 87) (by decide) (fun h3 => ?_) (fun h3 => ?_)
    · have _ := h3
      refine AW.iinc (dq rfl) rfl (by decide +kernel) ?_
      show AW l (pI pg 223) P kc ks 90 [(3, .int ((nI p) + Int32.ofInt 1)), (4, .int (nI q)), (2, .int (v)), (1, .int (b)), (0, .ref 58)] [] SHF _
      refine AW.goto (dq rfl) (tgt := 11) (by decide) ?_
      refine AW.drop (lv' := [(3, .int ((nI p) + Int32.ofInt 1)), (2, .int (v)), (1, .int (b)), (0, .ref 58)]) (List.forall_mem_cons.mpr ⟨List.mem_of_getElem? (i := 0) rfl, List.forall_mem_cons.mpr ⟨List.mem_of_getElem? (i := 2) rfl, List.forall_mem_cons.mpr ⟨List.mem_of_getElem? (i := 3) rfl, List.forall_mem_cons.mpr ⟨List.mem_of_getElem? (i := 4) rfl, fun _ h => absurd h List.not_mem_nil⟩⟩⟩⟩) ?_
      exact k4 h1 h3
    · have _ := h3
      refine AW.aload_n (dq rfl) rfl rfl ?_
      show AW l (pI pg 223) P kc ks 61 _ _ SHF _
      refine AW.iload_n (dq rfl) rfl ?_
      show AW l (pI pg 223) P kc ks 62 _ _ SHF _
      refine AW.iconst (dq rfl) ?_
      show AW l (pI pg 223) P kc ks 63 _ _ SHF _
      refine AW.iload_n (dq rfl) rfl ?_
      show AW l (pI pg 223) P kc ks 64 _ _ SHF _
      refine AW.ishl (dq rfl) ?_
      show AW l (pI pg 223) P kc ks 65 _ _ SHF _
      refine AW.iconst (dq rfl) ?_
      show AW l (pI pg 223) P kc ks 66 _ _ SHF _
      refine AW.iload (dq rfl) rfl ?_
      show AW l (pI pg 223) P kc ks 68 _ _ SHF _
      refine AW.ishl (dq rfl) ?_
      show AW l (pI pg 223) P kc ks 69 _ _ SHF _
      refine AW.ior (dq rfl) ?_
      show AW l (pI pg 223) P kc ks 70 _ _ SHF _
      refine AW.iconst (dq rfl) ?_
      show AW l (pI pg 223) P kc ks 71 _ _ SHF _
      refine AW.ixor (dq rfl) ?_
      show AW l (pI pg 223) P kc ks 72 _ _ SHF _
      refine AW.iand (dq rfl) ?_
      show AW l (pI pg 223) P kc ks 73 _ _ SHF _
      refine fw_callVI (as := [.int ((v) &&& ((((Int32.ofInt 1) <<< ((nI p) &&& 31)) ||| ((Int32.ofInt 1) <<< ((nI q) &&& 31))) ^^^ (Int32.ofInt (-1))))]) (dq rfl) (pg_ok.2.2.1 223 _ _ _ _ rfl) rfl (by decide +kernel) rfl rfl (c6 h1 h3) (fun y5 M5 e5 q5 => ?_)
      have hJ5 : ∀ e ∈ RM, M5.2.2 e.1 e.2.1 = e.2.2 := fun e he => by rw [e5]; exact hJ e he
      show AW l (pI pg 223) P kc ks 76 [(4, .int (nI q)), (3, .int (nI p)), (2, .int (v)), (1, .int (b)), (0, .ref 58)] [.int (y5)] SHF _
      refine AW.if_ne (dq rfl) (tgt := 81) (by decide) (fun h7 => ?_) (fun h7 => ?_)
      · have _ := h7
        refine AW.iinc (dq rfl) rfl (by decide +kernel) ?_
        show AW l (pI pg 223) P kc ks 84 [(4, .int ((nI q) + Int32.ofInt 1)), (3, .int (nI p)), (2, .int (v)), (1, .int (b)), (0, .ref 58)] [] SHF _
        refine AW.goto (dq rfl) (tgt := 50) (by decide) ?_
        refine AW.drop (lv' := [(4, .int ((nI q) + Int32.ofInt 1)), (3, .int (nI p)), (2, .int (v)), (1, .int (b)), (0, .ref 58)]) (List.forall_mem_cons.mpr ⟨List.mem_of_getElem? (i := 0) rfl, List.forall_mem_cons.mpr ⟨List.mem_of_getElem? (i := 1) rfl, List.forall_mem_cons.mpr ⟨List.mem_of_getElem? (i := 2) rfl, List.forall_mem_cons.mpr ⟨List.mem_of_getElem? (i := 3) rfl, List.forall_mem_cons.mpr ⟨List.mem_of_getElem? (i := 4) rfl, fun _ h => absurd h List.not_mem_nil⟩⟩⟩⟩⟩) ?_
        exact k8 h1 h3 y5 M5 e5 q5 h7
      · have _ := h7
        refine AW.iconst (dq rfl) ?_
        show AW l (pI pg 223) P kc ks 80 _ _ SHF _
        refine AW.zret (dq rfl) rfl (by decide) ?_
        exact r9 h1 h3 y5 M5 e5 q5 h7

theorem man_0 {l : aL} {P : aP} {kc ks : Nat} {x : Int32} {M : aM} (hJ : ∀ e ∈ RM, M.2.2 e.1 e.2.1 = e.2.2) (hl0 : l.1.stackTraces = false) (Q1 : Int32 → aM → Prop) (c2 : AC l (pI pg 195) (fcI (aset M 58 0 (.int (Int32.ofInt 0))) Q1) 0 0 [.int (x), .int (Int32.ofInt 0), .int (Int32.ofInt 3)] SHF (aset M 58 0 (.int (Int32.ofInt 0)))) (Q3 : Int32 → aM → Int32 → aM → Prop) (c4 : ∀ (y1 : Int32), ∀ (M1 : aM), ∀ (e1 : M1.2.2 = (aset M 58 0 (.int (Int32.ofInt 0))).2.2), ∀ (q1 : Q1 y1 M1), AC l (pI pg 175) (fcI M1 (Q3 y1 M1)) 0 0 [.ref 58, .int (y1), .int (Int32.ofInt 1)] SHF M1) (Q6 : Int32 → aM → Int32 → aM → aM → Prop) (c7 : ∀ (y1 : Int32), ∀ (M1 : aM), ∀ (e1 : M1.2.2 = (aset M 58 0 (.int (Int32.ofInt 0))).2.2), ∀ (q1 : Q1 y1 M1), ∀ (y3 : Int32), ∀ (M3 : aM), ∀ (e3 : M3.2.2 = M1.2.2), ∀ (q3 : (Q3 y1 M1) y3 M3), ∀ (h5 : ¬ (y3 : Int32) = 0), AC l (pI pg 204) (fcV M3 (Q6 y1 M1 y3 M3)) 0 0 [.ref 58, .int (Int32.ofInt 0)] SHF M3) (k9 : ∀ (y1 : Int32), ∀ (M1 : aM), ∀ (e1 : M1.2.2 = (aset M 58 0 (.int (Int32.ofInt 0))).2.2), ∀ (q1 : Q1 y1 M1), ∀ (y3 : Int32), ∀ (M3 : aM), ∀ (e3 : M3.2.2 = M1.2.2), ∀ (q3 : (Q3 y1 M1) y3 M3), ∀ (h5 : ¬ (y3 : Int32) = 0), ∀ (M6 : aM), ∀ (e6 : M6.2.2 = M3.2.2), ∀ (q6 : (Q6 y1 M1 y3 M3) M6), ∀ (h8 : (x : Int32) ≤ (Int32.ofInt 1 : Int32)), AW l (pI pg 222) P kc ks 71 [(5, .int (Int32.ofInt 0)), (4, .int (Int32.ofInt 0)), (3, .int (Int32.ofInt 0)), (2, .int (((Int32.ofInt 1) <<< ((M6.1 58 1) &&& 31)) - (Int32.ofInt 1))), (1, .int (x)), (0, .ref 58)] [] SHF M6) (Q11 : Int32 → aM → Int32 → aM → aM → Int32 → aM → Prop) (c12 : ∀ (y1 : Int32), ∀ (M1 : aM), ∀ (e1 : M1.2.2 = (aset M 58 0 (.int (Int32.ofInt 0))).2.2), ∀ (q1 : Q1 y1 M1), ∀ (y3 : Int32), ∀ (M3 : aM), ∀ (e3 : M3.2.2 = M1.2.2), ∀ (q3 : (Q3 y1 M1) y3 M3), ∀ (h5 : ¬ (y3 : Int32) = 0), ∀ (M6 : aM), ∀ (e6 : M6.2.2 = M3.2.2), ∀ (q6 : (Q6 y1 M1 y3 M3) M6), ∀ (h8 : ¬ ((x : Int32) ≤ (Int32.ofInt 1 : Int32))), ∀ (h10 : ¬ (x : Int32) = (Int32.ofInt 3 : Int32)), AC l (pI pg 223) (fcI M6 (Q11 y1 M1 y3 M3 M6)) 0 0 [.ref 58, .int (Int32.ofInt 0)] SHF M6) (r14 : ∀ (y1 : Int32), ∀ (M1 : aM), ∀ (e1 : M1.2.2 = (aset M 58 0 (.int (Int32.ofInt 0))).2.2), ∀ (q1 : Q1 y1 M1), ∀ (y3 : Int32), ∀ (M3 : aM), ∀ (e3 : M3.2.2 = M1.2.2), ∀ (q3 : (Q3 y1 M1) y3 M3), ∀ (h5 : ¬ (y3 : Int32) = 0), ∀ (M6 : aM), ∀ (e6 : M6.2.2 = M3.2.2), ∀ (q6 : (Q6 y1 M1 y3 M3) M6), ∀ (h8 : ¬ ((x : Int32) ≤ (Int32.ofInt 1 : Int32))), ∀ (h10 : ¬ (x : Int32) = (Int32.ofInt 3 : Int32)), ∀ (y11 : Int32), ∀ (M11 : aM), ∀ (e11 : M11.2.2 = M6.2.2), ∀ (q11 : (Q11 y1 M1 y3 M3 M6) y11 M11), ∀ (h13 : (y11 : Int32) = 0), P (.inl (some (.int (Int32.ofInt 0)))) SHF M11) (r15 : ∀ (y1 : Int32), ∀ (M1 : aM), ∀ (e1 : M1.2.2 = (aset M 58 0 (.int (Int32.ofInt 0))).2.2), ∀ (q1 : Q1 y1 M1), ∀ (y3 : Int32), ∀ (M3 : aM), ∀ (e3 : M3.2.2 = M1.2.2), ∀ (q3 : (Q3 y1 M1) y3 M3), ∀ (h5 : ¬ (y3 : Int32) = 0), ∀ (M6 : aM), ∀ (e6 : M6.2.2 = M3.2.2), ∀ (q6 : (Q6 y1 M1 y3 M3) M6), ∀ (h8 : ¬ ((x : Int32) ≤ (Int32.ofInt 1 : Int32))), ∀ (h10 : ¬ (x : Int32) = (Int32.ofInt 3 : Int32)), ∀ (y11 : Int32), ∀ (M11 : aM), ∀ (e11 : M11.2.2 = M6.2.2), ∀ (q11 : (Q11 y1 M1 y3 M3 M6) y11 M11), ∀ (h13 : ¬ ((y11 : Int32) = 0)), P (.inl (some (.int (Int32.ofInt 1)))) SHF M11) (Q16 : Int32 → aM → Int32 → aM → aM → Int32 → aM → Prop) (c17 : ∀ (y1 : Int32), ∀ (M1 : aM), ∀ (e1 : M1.2.2 = (aset M 58 0 (.int (Int32.ofInt 0))).2.2), ∀ (q1 : Q1 y1 M1), ∀ (y3 : Int32), ∀ (M3 : aM), ∀ (e3 : M3.2.2 = M1.2.2), ∀ (q3 : (Q3 y1 M1) y3 M3), ∀ (h5 : ¬ (y3 : Int32) = 0), ∀ (M6 : aM), ∀ (e6 : M6.2.2 = M3.2.2), ∀ (q6 : (Q6 y1 M1 y3 M3) M6), ∀ (h8 : ¬ ((x : Int32) ≤ (Int32.ofInt 1 : Int32))), ∀ (h10 : (x : Int32) = (Int32.ofInt 3 : Int32)), AC l (pI pg 223) (fcI M6 (Q16 y1 M1 y3 M3 M6)) 0 0 [.ref 58, .int (Int32.ofInt 1)] SHF M6) (r19 : ∀ (y1 : Int32), ∀ (M1 : aM), ∀ (e1 : M1.2.2 = (aset M 58 0 (.int (Int32.ofInt 0))).2.2), ∀ (q1 : Q1 y1 M1), ∀ (y3 : Int32), ∀ (M3 : aM), ∀ (e3 : M3.2.2 = M1.2.2), ∀ (q3 : (Q3 y1 M1) y3 M3), ∀ (h5 : ¬ (y3 : Int32) = 0), ∀ (M6 : aM), ∀ (e6 : M6.2.2 = M3.2.2), ∀ (q6 : (Q6 y1 M1 y3 M3) M6), ∀ (h8 : ¬ ((x : Int32) ≤ (Int32.ofInt 1 : Int32))), ∀ (h10 : (x : Int32) = (Int32.ofInt 3 : Int32)), ∀ (y16 : Int32), ∀ (M16 : aM), ∀ (e16 : M16.2.2 = M6.2.2), ∀ (q16 : (Q16 y1 M1 y3 M3 M6) y16 M16), ∀ (h18 : (y16 : Int32) = 0), P (.inl (some (.int (Int32.ofInt 0)))) SHF M16) (r20 : ∀ (y1 : Int32), ∀ (M1 : aM), ∀ (e1 : M1.2.2 = (aset M 58 0 (.int (Int32.ofInt 0))).2.2), ∀ (q1 : Q1 y1 M1), ∀ (y3 : Int32), ∀ (M3 : aM), ∀ (e3 : M3.2.2 = M1.2.2), ∀ (q3 : (Q3 y1 M1) y3 M3), ∀ (h5 : ¬ (y3 : Int32) = 0), ∀ (M6 : aM), ∀ (e6 : M6.2.2 = M3.2.2), ∀ (q6 : (Q6 y1 M1 y3 M3) M6), ∀ (h8 : ¬ ((x : Int32) ≤ (Int32.ofInt 1 : Int32))), ∀ (h10 : (x : Int32) = (Int32.ofInt 3 : Int32)), ∀ (y16 : Int32), ∀ (M16 : aM), ∀ (e16 : M16.2.2 = M6.2.2), ∀ (q16 : (Q16 y1 M1 y3 M3 M6) y16 M16), ∀ (h18 : ¬ ((y16 : Int32) = 0)), P (.inl (some (.int (Int32.ofInt 1)))) SHF M16) (r21 : ∀ (y1 : Int32), ∀ (M1 : aM), ∀ (e1 : M1.2.2 = (aset M 58 0 (.int (Int32.ofInt 0))).2.2), ∀ (q1 : Q1 y1 M1), ∀ (y3 : Int32), ∀ (M3 : aM), ∀ (e3 : M3.2.2 = M1.2.2), ∀ (q3 : (Q3 y1 M1) y3 M3), ∀ (h5 : (y3 : Int32) = 0), P (.inl (some (.int (Int32.ofInt 0)))) SHF M3) : AW l (pI pg 222) P kc ks 0 [(0, .ref 58), (1, .int (x))] [] SHF M := by
  refine AW.aload_n (dq rfl) rfl rfl ?_
  show AW l (pI pg 222) P kc ks 1 _ _ SHF _
  refine AW.iconst (dq rfl) ?_
  show AW l (pI pg 222) P kc ks 2 _ _ SHF _
  refine fw_putI (dq rfl) (pg_ok.2.1 222 _ _ _ _ rfl) rfl rfl rfl ?_
  show AW l (pI pg 222) P kc ks 5 _ _ SHF _
  refine AW.aload_n (dq rfl) rfl rfl ?_
  show AW l (pI pg 222) P kc ks 6 _ _ SHF _
  refine AW.iload_n (dq rfl) rfl ?_
  show AW l (pI pg 222) P kc ks 7 _ _ SHF _
  refine AW.iconst (dq rfl) ?_
  show AW l (pI pg 222) P kc ks 8 _ _ SHF _
  refine AW.iconst (dq rfl) ?_
  show AW l (pI pg 222) P kc ks 9 _ _ SHF _
  refine fw_callSI (as := [.int (x), .int (Int32.ofInt 0), .int (Int32.ofInt 3)]) (dq rfl) (pg_ok.2.2.1 222 _ _ _ _ rfl) (by decide +kernel) rfl rfl (c2) (fun y1 M1 e1 q1 => ?_)
  have hJ1 : ∀ e ∈ RM, M1.2.2 e.1 e.2.1 = e.2.2 := fun e he => by rw [e1]; exact hJ e he
  show AW l (pI pg 222) P kc ks 12 [(0, .ref 58), (1, .int (x))] [.int (y1), .ref 58] SHF _
  refine AW.iconst (dq rfl) ?_
  show AW l (pI pg 222) P kc ks 13 _ _ SHF _
  refine fw_callVI (as := [.int (y1), .int (Int32.ofInt 1)]) (dq rfl) (pg_ok.2.2.1 222 _ _ _ _ rfl) rfl (by decide +kernel) rfl rfl (c4 y1 M1 e1 q1) (fun y3 M3 e3 q3 => ?_)
  have hJ3 : ∀ e ∈ RM, M3.2.2 e.1 e.2.1 = e.2.2 := fun e he => by rw [e3]; exact hJ1 e he
  show AW l (pI pg 222) P kc ks 16 [(0, .ref 58), (1, .int (x))] [.int (y3)] SHF _
  refine AW.if_ne (dq rfl) (tgt := 21) (by decide) (fun h5 => ?_) (fun h5 => ?_)
  · have _ := h5
    refine AW.aload_n (dq rfl) rfl rfl ?_
    show AW l (pI pg 222) P kc ks 22 _ _ SHF _
    refine AW.iconst (dq rfl) ?_
    show AW l (pI pg 222) P kc ks 23 _ _ SHF _
    refine fw_callVV (as := [.int (Int32.ofInt 0)]) (dq rfl) (pg_ok.2.2.1 222 _ _ _ _ rfl) rfl (by decide +kernel) rfl rfl (c7 y1 M1 e1 q1 y3 M3 e3 q3 h5) (fun M6 e6 q6 => ?_)
    have hJ6 : ∀ e ∈ RM, M6.2.2 e.1 e.2.1 = e.2.2 := fun e he => by rw [e6]; exact hJ3 e he
    show AW l (pI pg 222) P kc ks 26 [(0, .ref 58), (1, .int (x))] [] SHF _
    refine AW.iload_n (dq rfl) rfl ?_
    show AW l (pI pg 222) P kc ks 27 _ _ SHF _
    refine AW.iconst (dq rfl) ?_
    show AW l (pI pg 222) P kc ks 28 _ _ SHF _
    refine AW.icmp_le (dq rfl) (tgt := 54) (by decide) (fun h8 => ?_) (fun h8 => ?_)
    · have _ := h8
      refine AW.iconst (dq rfl) ?_
      show AW l (pI pg 222) P kc ks 55 _ _ SHF _
      refine AW.aload_n (dq rfl) rfl rfl ?_
      show AW l (pI pg 222) P kc ks 56 _ _ SHF _
      refine fw_get (dq rfl) (pg_ok.2.1 222 _ _ _ _ rfl) rfl (v := .int (M6.1 58 1)) rfl ?_
      show AW l (pI pg 222) P kc ks 59 _ _ SHF _
      refine AW.ishl (dq rfl) ?_
      show AW l (pI pg 222) P kc ks 60 _ _ SHF _
      refine AW.iconst (dq rfl) ?_
      show AW l (pI pg 222) P kc ks 61 _ _ SHF _
      refine AW.isub (dq rfl) ?_
      show AW l (pI pg 222) P kc ks 62 _ _ SHF _
      refine AW.istore_n (dq rfl) (by decide +kernel) ?_
      show AW l (pI pg 222) P kc ks 63 [(2, .int (((Int32.ofInt 1) <<< ((M6.1 58 1) &&& 31)) - (Int32.ofInt 1))), (0, .ref 58), (1, .int (x))] [] SHF _
      refine AW.iconst (dq rfl) ?_
      show AW l (pI pg 222) P kc ks 64 _ _ SHF _
      refine AW.istore_n (dq rfl) (by decide +kernel) ?_
      show AW l (pI pg 222) P kc ks 65 [(3, .int (Int32.ofInt 0)), (2, .int (((Int32.ofInt 1) <<< ((M6.1 58 1) &&& 31)) - (Int32.ofInt 1))), (0, .ref 58), (1, .int (x))] [] SHF _
      refine AW.iconst (dq rfl) ?_
      show AW l (pI pg 222) P kc ks 66 _ _ SHF _
      refine AW.istore (dq rfl) (by decide +kernel) ?_
      show AW l (pI pg 222) P kc ks 68 [(4, .int (Int32.ofInt 0)), (3, .int (Int32.ofInt 0)), (2, .int (((Int32.ofInt 1) <<< ((M6.1 58 1) &&& 31)) - (Int32.ofInt 1))), (0, .ref 58), (1, .int (x))] [] SHF _
      refine AW.iconst (dq rfl) ?_
      show AW l (pI pg 222) P kc ks 69 _ _ SHF _
      refine AW.istore (dq rfl) (by decide +kernel) ?_
      show AW l (pI pg 222) P kc ks 71 [(5, .int (Int32.ofInt 0)), (4, .int (Int32.ofInt 0)), (3, .int (Int32.ofInt 0)), (2, .int (((Int32.ofInt 1) <<< ((M6.1 58 1) &&& 31)) - (Int32.ofInt 1))), (0, .ref 58), (1, .int (x))] [] SHF _
      refine AW.drop (lv' := [(5, .int (Int32.ofInt 0)), (4, .int (Int32.ofInt 0)), (3, .int (Int32.ofInt 0)), (2, .int (((Int32.ofInt 1) <<< ((M6.1 58 1) &&& 31)) - (Int32.ofInt 1))), (1, .int (x)), (0, .ref 58)]) (List.forall_mem_cons.mpr ⟨List.mem_of_getElem? (i := 0) rfl, List.forall_mem_cons.mpr ⟨List.mem_of_getElem? (i := 1) rfl, List.forall_mem_cons.mpr ⟨List.mem_of_getElem? (i := 2) rfl, List.forall_mem_cons.mpr ⟨List.mem_of_getElem? (i := 3) rfl, List.forall_mem_cons.mpr ⟨List.mem_of_getElem? (i := 5) rfl, List.forall_mem_cons.mpr ⟨List.mem_of_getElem? (i := 4) rfl, fun _ h => absurd h List.not_mem_nil⟩⟩⟩⟩⟩⟩) ?_
      exact k9 y1 M1 e1 q1 y3 M3 e3 q3 h5 M6 e6 q6 h8
    · have _ := h8
      refine AW.aload_n (dq rfl) rfl rfl ?_
      show AW l (pI pg 222) P kc ks 32 _ _ SHF _
      refine AW.iload_n (dq rfl) rfl ?_
      show AW l (pI pg 222) P kc ks 33 _ _ SHF _
      refine AW.iconst (dq rfl) ?_
      show AW l (pI pg 222) P kc ks 34 _ _ SHF _
      refine AW.icmp_ne (dq rfl) (tgt := 41) (by decide) (fun h10 => ?_) (fun h10 => ?_)
      · have _ := h10
        refine AW.iconst (dq rfl) ?_
        show AW l (pI pg 222) P kc ks 42 _ _ SHF _
        refine fw_callVI (as := [.int (Int32.ofInt 0)]) (dq rfl) (pg_ok.2.2.1 222 _ _ _ _ rfl) rfl (by decide +kernel) rfl rfl (c12 y1 M1 e1 q1 y3 M3 e3 q3 h5 M6 e6 q6 h8 h10) (fun y11 M11 e11 q11 => ?_)
        have hJ11 : ∀ e ∈ RM, M11.2.2 e.1 e.2.1 = e.2.2 := fun e he => by rw [e11]; exact hJ6 e he
        show AW l (pI pg 222) P kc ks 45 [(0, .ref 58), (1, .int (x))] [.int (y11)] SHF _
        refine AW.if_eq (dq rfl) (tgt := 52) (by decide) (fun h13 => ?_) (fun h13 => ?_)
        · have _ := h13
          refine AW.iconst (dq rfl) ?_
          show AW l (pI pg 222) P kc ks 53 _ _ SHF _
          refine AW.iret (dq rfl) rfl ?_
          exact r14 y1 M1 e1 q1 y3 M3 e3 q3 h5 M6 e6 q6 h8 h10 y11 M11 e11 q11 h13
        · have _ := h13
          refine AW.iconst (dq rfl) ?_
          show AW l (pI pg 222) P kc ks 49 _ _ SHF _
          refine AW.goto (dq rfl) (tgt := 53) (by decide) ?_
          refine AW.iret (dq rfl) rfl ?_
          exact r15 y1 M1 e1 q1 y3 M3 e3 q3 h5 M6 e6 q6 h8 h10 y11 M11 e11 q11 h13
      · have _ := h10
        refine AW.iconst (dq rfl) ?_
        show AW l (pI pg 222) P kc ks 38 _ _ SHF _
        refine AW.goto (dq rfl) (tgt := 42) (by decide) ?_
        refine fw_callVI (as := [.int (Int32.ofInt 1)]) (dq rfl) (pg_ok.2.2.1 222 _ _ _ _ rfl) rfl (by decide +kernel) rfl rfl (c17 y1 M1 e1 q1 y3 M3 e3 q3 h5 M6 e6 q6 h8 h10) (fun y16 M16 e16 q16 => ?_)
        have hJ16 : ∀ e ∈ RM, M16.2.2 e.1 e.2.1 = e.2.2 := fun e he => by rw [e16]; exact hJ6 e he
        show AW l (pI pg 222) P kc ks 45 [(0, .ref 58), (1, .int (x))] [.int (y16)] SHF _
        refine AW.if_eq (dq rfl) (tgt := 52) (by decide) (fun h18 => ?_) (fun h18 => ?_)
        · have _ := h18
          refine AW.iconst (dq rfl) ?_
          show AW l (pI pg 222) P kc ks 53 _ _ SHF _
          refine AW.iret (dq rfl) rfl ?_
          exact r19 y1 M1 e1 q1 y3 M3 e3 q3 h5 M6 e6 q6 h8 h10 y16 M16 e16 q16 h18
        · have _ := h18
          refine AW.iconst (dq rfl) ?_
          show AW l (pI pg 222) P kc ks 49 _ _ SHF _
          refine AW.goto (dq rfl) (tgt := 53) (by decide) ?_
          refine AW.iret (dq rfl) rfl ?_
          exact r20 y1 M1 e1 q1 y3 M3 e3 q3 h5 M6 e6 q6 h8 h10 y16 M16 e16 q16 h18
  · have _ := h5
    refine AW.iconst (dq rfl) ?_
    show AW l (pI pg 222) P kc ks 20 _ _ SHF _
    refine AW.iret (dq rfl) rfl ?_
    exact r21 y1 M1 e1 q1 y3 M3 e3 q3 h5

theorem man_71 {l : aL} {P : aP} {kc ks : Nat} {p : Nat} {c m v x : Int32} {M : aM} (hJ : ∀ e ∈ RM, M.2.2 e.1 e.2.1 = e.2.2) (hl0 : l.1.stackTraces = false) (r3 : ∀ (h1 : (M.1 58 1 : Int32) ≤ (nI p : Int32)), ∀ (h2 : ¬ (x : Int32) = 0), P (.inl (some (.int (c)))) SHF M) (r4 : ∀ (h1 : (M.1 58 1 : Int32) ≤ (nI p : Int32)), ∀ (h2 : (x : Int32) = 0), P (.inl (some (.int (m)))) SHF M) (Q5 : Int32 → aM → Prop) (c6 : ∀ (h1 : ¬ ((M.1 58 1 : Int32) ≤ (nI p : Int32))), AC l (pI pg 209) (fcI M Q5) 0 0 [.ref 58, .int ((v) &&& (((Int32.ofInt 1) <<< ((nI p) &&& 31)) ^^^ (Int32.ofInt (-1))))] SHF M) (k8 : ∀ (h1 : ¬ ((M.1 58 1 : Int32) ≤ (nI p : Int32))), ∀ (y5 : Int32), ∀ (M5 : aM), ∀ (e5 : M5.2.2 = M.2.2), ∀ (q5 : Q5 y5 M5), ∀ (h7 : (y5 : Int32) = 0), AW l (pI pg 222) P kc ks 109 [(6, .int (Int32.ofInt 0)), (5, .int (nI p)), (4, .int (c)), (3, .int ((m) ||| ((Int32.ofInt 1) <<< ((nI p) &&& 31)))), (2, .int (v)), (1, .int (x)), (0, .ref 58)] [] SHF M5) (k9 : ∀ (h1 : ¬ ((M.1 58 1 : Int32) ≤ (nI p : Int32))), ∀ (y5 : Int32), ∀ (M5 : aM), ∀ (e5 : M5.2.2 = M.2.2), ∀ (q5 : Q5 y5 M5), ∀ (h7 : ¬ ((y5 : Int32) = 0)), AW l (pI pg 222) P kc ks 109 [(6, .int (Int32.ofInt 0)), (5, .int (nI p)), (4, .int (c)), (3, .int ((m) ||| (Int32.ofInt 0))), (2, .int (v)), (1, .int (x)), (0, .ref 58)] [] SHF M5) : AW l (pI pg 222) P kc ks 71 [(5, .int (nI p)), (4, .int (c)), (3, .int (m)), (2, .int (v)), (1, .int (x)), (0, .ref 58)] [] SHF M := by
  refine AW.iload (dq rfl) rfl ?_
  show AW l (pI pg 222) P kc ks 73 _ _ SHF _
  refine AW.aload_n (dq rfl) rfl rfl ?_
  show AW l (pI pg 222) P kc ks 74 _ _ SHF _
  refine fw_get (dq rfl) (pg_ok.2.1 222 _ _ _ _ rfl) rfl (v := .int (M.1 58 1)) rfl ?_
  show AW l (pI pg 222) P kc ks 77 _ _ SHF _
  refine AW.icmp_ge (dq rfl) (tgt := 158) (by decide) (fun h1 => ?_) (fun h1 => ?_)
  · have _ := h1
    refine AW.iload_n (dq rfl) rfl ?_
    show AW l (pI pg 222) P kc ks 159 _ _ SHF _
    refine AW.if_ne (dq rfl) (tgt := 166) (by decide) (fun h2 => ?_) (fun h2 => ?_)
    · have _ := h2
      refine AW.iload (dq rfl) rfl ?_
      show AW l (pI pg 222) P kc ks 168 _ _ SHF _
      refine AW.iret (dq rfl) rfl ?_
      exact r3 h1 h2
    · have _ := h2
      refine AW.iload_n (dq rfl) rfl ?_
      show AW l (pI pg 222) P kc ks 163 _ _ SHF _
      refine AW.goto (dq rfl) (tgt := 168) (by decide) ?_
      refine AW.iret (dq rfl) rfl ?_
      exact r4 h1 h2
  · have _ := h1
    refine AW.iload_n (dq rfl) rfl ?_
    show AW l (pI pg 222) P kc ks 81 _ _ SHF _
    refine AW.aload_n (dq rfl) rfl rfl ?_
    show AW l (pI pg 222) P kc ks 82 _ _ SHF _
    refine AW.iload_n (dq rfl) rfl ?_
    show AW l (pI pg 222) P kc ks 83 _ _ SHF _
    refine AW.iconst (dq rfl) ?_
    show AW l (pI pg 222) P kc ks 84 _ _ SHF _
    refine AW.iload (dq rfl) rfl ?_
    show AW l (pI pg 222) P kc ks 86 _ _ SHF _
    refine AW.ishl (dq rfl) ?_
    show AW l (pI pg 222) P kc ks 87 _ _ SHF _
    refine AW.iconst (dq rfl) ?_
    show AW l (pI pg 222) P kc ks 88 _ _ SHF _
    refine AW.ixor (dq rfl) ?_
    show AW l (pI pg 222) P kc ks 89 _ _ SHF _
    refine AW.iand (dq rfl) ?_
    show AW l (pI pg 222) P kc ks 90 _ _ SHF _
    refine fw_callVI (as := [.int ((v) &&& (((Int32.ofInt 1) <<< ((nI p) &&& 31)) ^^^ (Int32.ofInt (-1))))]) (dq rfl) (pg_ok.2.2.1 222 _ _ _ _ rfl) rfl (by decide +kernel) rfl rfl (c6 h1) (fun y5 M5 e5 q5 => ?_)
    have hJ5 : ∀ e ∈ RM, M5.2.2 e.1 e.2.1 = e.2.2 := fun e he => by rw [e5]; exact hJ e he
    show AW l (pI pg 222) P kc ks 93 [(5, .int (nI p)), (4, .int (c)), (3, .int (m)), (2, .int (v)), (1, .int (x)), (0, .ref 58)] [.int (y5), .int (m)] SHF _
    refine AW.if_eq (dq rfl) (tgt := 100) (by decide) (fun h7 => ?_) (fun h7 => ?_)
    · have _ := h7
      refine AW.iconst (dq rfl) ?_
      show AW l (pI pg 222) P kc ks 101 _ _ SHF _
      refine AW.iload (dq rfl) rfl ?_
      show AW l (pI pg 222) P kc ks 103 _ _ SHF _
      refine AW.ishl (dq rfl) ?_
      show AW l (pI pg 222) P kc ks 104 _ _ SHF _
      refine AW.ior (dq rfl) ?_
      show AW l (pI pg 222) P kc ks 105 _ _ SHF _
      refine AW.istore_n (dq rfl) (by decide +kernel) ?_
      show AW l (pI pg 222) P kc ks 106 [(3, .int ((m) ||| ((Int32.ofInt 1) <<< ((nI p) &&& 31)))), (5, .int (nI p)), (4, .int (c)), (2, .int (v)), (1, .int (x)), (0, .ref 58)] [] SHF _
      refine AW.iconst (dq rfl) ?_
      show AW l (pI pg 222) P kc ks 107 _ _ SHF _
      refine AW.istore (dq rfl) (by decide +kernel) ?_
      show AW l (pI pg 222) P kc ks 109 [(6, .int (Int32.ofInt 0)), (3, .int ((m) ||| ((Int32.ofInt 1) <<< ((nI p) &&& 31)))), (5, .int (nI p)), (4, .int (c)), (2, .int (v)), (1, .int (x)), (0, .ref 58)] [] SHF _
      refine AW.drop (lv' := [(6, .int (Int32.ofInt 0)), (5, .int (nI p)), (4, .int (c)), (3, .int ((m) ||| ((Int32.ofInt 1) <<< ((nI p) &&& 31)))), (2, .int (v)), (1, .int (x)), (0, .ref 58)]) (List.forall_mem_cons.mpr ⟨List.mem_of_getElem? (i := 0) rfl, List.forall_mem_cons.mpr ⟨List.mem_of_getElem? (i := 2) rfl, List.forall_mem_cons.mpr ⟨List.mem_of_getElem? (i := 3) rfl, List.forall_mem_cons.mpr ⟨List.mem_of_getElem? (i := 1) rfl, List.forall_mem_cons.mpr ⟨List.mem_of_getElem? (i := 4) rfl, List.forall_mem_cons.mpr ⟨List.mem_of_getElem? (i := 5) rfl, List.forall_mem_cons.mpr ⟨List.mem_of_getElem? (i := 6) rfl, fun _ h => absurd h List.not_mem_nil⟩⟩⟩⟩⟩⟩⟩) ?_
      exact k8 h1 y5 M5 e5 q5 h7
    · have _ := h7
      refine AW.iconst (dq rfl) ?_
      show AW l (pI pg 222) P kc ks 97 _ _ SHF _
      refine AW.goto (dq rfl) (tgt := 104) (by decide) ?_
      refine AW.ior (dq rfl) ?_
      show AW l (pI pg 222) P kc ks 105 _ _ SHF _
      refine AW.istore_n (dq rfl) (by decide +kernel) ?_
      show AW l (pI pg 222) P kc ks 106 [(3, .int ((m) ||| (Int32.ofInt 0))), (5, .int (nI p)), (4, .int (c)), (2, .int (v)), (1, .int (x)), (0, .ref 58)] [] SHF _
      refine AW.iconst (dq rfl) ?_
      show AW l (pI pg 222) P kc ks 107 _ _ SHF _
      refine AW.istore (dq rfl) (by decide +kernel) ?_
      show AW l (pI pg 222) P kc ks 109 [(6, .int (Int32.ofInt 0)), (3, .int ((m) ||| (Int32.ofInt 0))), (5, .int (nI p)), (4, .int (c)), (2, .int (v)), (1, .int (x)), (0, .ref 58)] [] SHF _
      refine AW.drop (lv' := [(6, .int (Int32.ofInt 0)), (5, .int (nI p)), (4, .int (c)), (3, .int ((m) ||| (Int32.ofInt 0))), (2, .int (v)), (1, .int (x)), (0, .ref 58)]) (List.forall_mem_cons.mpr ⟨List.mem_of_getElem? (i := 0) rfl, List.forall_mem_cons.mpr ⟨List.mem_of_getElem? (i := 2) rfl, List.forall_mem_cons.mpr ⟨List.mem_of_getElem? (i := 3) rfl, List.forall_mem_cons.mpr ⟨List.mem_of_getElem? (i := 1) rfl, List.forall_mem_cons.mpr ⟨List.mem_of_getElem? (i := 4) rfl, List.forall_mem_cons.mpr ⟨List.mem_of_getElem? (i := 5) rfl, List.forall_mem_cons.mpr ⟨List.mem_of_getElem? (i := 6) rfl, fun _ h => absurd h List.not_mem_nil⟩⟩⟩⟩⟩⟩⟩) ?_
      exact k9 h1 y5 M5 e5 q5 h7

theorem man_109 {l : aL} {P : aP} {kc ks : Nat} {p q : Nat} {c m v x : Int32} {M : aM} (hJ : ∀ e ∈ RM, M.2.2 e.1 e.2.1 = e.2.2) (hl0 : l.1.stackTraces = false) (k2 : ∀ (h1 : (nI p : Int32) ≤ (nI q : Int32)), AW l (pI pg 222) P kc ks 71 [(5, .int ((nI p) + Int32.ofInt 1)), (4, .int (c)), (3, .int (m)), (2, .int (v)), (1, .int (x)), (0, .ref 58)] [] SHF M) (Q3 : Int32 → aM → Prop) (c4 : ∀ (h1 : ¬ ((nI p : Int32) ≤ (nI q : Int32))), AC l (pI pg 209) (fcI M Q3) 0 0 [.ref 58, .int ((v) &&& ((((Int32.ofInt 1) <<< ((nI p) &&& 31)) ||| ((Int32.ofInt 1) <<< ((nI q) &&& 31))) ^^^ (Int32.ofInt (-1))))] SHF M) (k6 : ∀ (h1 : ¬ ((nI p : Int32) ≤ (nI q : Int32))), ∀ (y3 : Int32), ∀ (M3 : aM), ∀ (e3 : M3.2.2 = M.2.2), ∀ (q3 : Q3 y3 M3), ∀ (h5 : (y3 : Int32) = 0), AW l (pI pg 222) P kc ks 109 [(6, .int ((nI q) + Int32.ofInt 1)), (5, .int (nI p)), (4, .int ((c) + (Int32.ofInt 1))), (3, .int (m)), (2, .int (v)), (1, .int (x)), (0, .ref 58)] [] SHF M3) (k7 : ∀ (h1 : ¬ ((nI p : Int32) ≤ (nI q : Int32))), ∀ (y3 : Int32), ∀ (M3 : aM), ∀ (e3 : M3.2.2 = M.2.2), ∀ (q3 : Q3 y3 M3), ∀ (h5 : ¬ ((y3 : Int32) = 0)), AW l (pI pg 222) P kc ks 109 [(6, .int ((nI q) + Int32.ofInt 1)), (5, .int (nI p)), (4, .int ((c) + (Int32.ofInt 0))), (3, .int (m)), (2, .int (v)), (1, .int (x)), (0, .ref 58)] [] SHF M3) : AW l (pI pg 222) P kc ks 109 [(6, .int (nI q)), (5, .int (nI p)), (4, .int (c)), (3, .int (m)), (2, .int (v)), (1, .int (x)), (0, .ref 58)] [] SHF M := by
  refine AW.iload (dq rfl) rfl ?_
  show AW l (pI pg 222) P kc ks 111 _ _ SHF _
  refine AW.iload (dq rfl) rfl ?_
  show AW l (pI pg 222) P kc ks 113 _ _ SHF _
  refine AW.icmp_ge (dq rfl) (tgt := 152) (by decide) (fun h1 => ?_) (fun h1 => ?_)
  · have _ := h1
    refine AW.iinc (dq rfl) rfl (by decide +kernel) ?_
    show AW l (pI pg 222) P kc ks 155 [(5, .int ((nI p) + Int32.ofInt 1)), (6, .int (nI q)), (4, .int (c)), (3, .int (m)), (2, .int (v)), (1, .int (x)), (0, .ref 58)] [] SHF _
    refine AW.goto (dq rfl) (tgt := 71) (by decide) ?_
    refine AW.drop (lv' := [(5, .int ((nI p) + Int32.ofInt 1)), (4, .int (c)), (3, .int (m)), (2, .int (v)), (1, .int (x)), (0, .ref 58)]) (List.forall_mem_cons.mpr ⟨List.mem_of_getElem? (i := 0) rfl, List.forall_mem_cons.mpr ⟨List.mem_of_getElem? (i := 2) rfl, List.forall_mem_cons.mpr ⟨List.mem_of_getElem? (i := 3) rfl, List.forall_mem_cons.mpr ⟨List.mem_of_getElem? (i := 4) rfl, List.forall_mem_cons.mpr ⟨List.mem_of_getElem? (i := 5) rfl, List.forall_mem_cons.mpr ⟨List.mem_of_getElem? (i := 6) rfl, fun _ h => absurd h List.not_mem_nil⟩⟩⟩⟩⟩⟩) ?_
    exact k2 h1
  · have _ := h1
    refine AW.iload (dq rfl) rfl ?_
    show AW l (pI pg 222) P kc ks 118 _ _ SHF _
    refine AW.aload_n (dq rfl) rfl rfl ?_
    show AW l (pI pg 222) P kc ks 119 _ _ SHF _
    refine AW.iload_n (dq rfl) rfl ?_
    show AW l (pI pg 222) P kc ks 120 _ _ SHF _
    refine AW.iconst (dq rfl) ?_
    show AW l (pI pg 222) P kc ks 121 _ _ SHF _
    refine AW.iload (dq rfl) rfl ?_
    show AW l (pI pg 222) P kc ks 123 _ _ SHF _
    refine AW.ishl (dq rfl) ?_
    show AW l (pI pg 222) P kc ks 124 _ _ SHF _
    refine AW.iconst (dq rfl) ?_
    show AW l (pI pg 222) P kc ks 125 _ _ SHF _
    refine AW.iload (dq rfl) rfl ?_
    show AW l (pI pg 222) P kc ks 127 _ _ SHF _
    refine AW.ishl (dq rfl) ?_
    show AW l (pI pg 222) P kc ks 128 _ _ SHF _
    refine AW.ior (dq rfl) ?_
    show AW l (pI pg 222) P kc ks 129 _ _ SHF _
    refine AW.iconst (dq rfl) ?_
    show AW l (pI pg 222) P kc ks 130 _ _ SHF _
    refine AW.ixor (dq rfl) ?_
    show AW l (pI pg 222) P kc ks 131 _ _ SHF _
    refine AW.iand (dq rfl) ?_
    show AW l (pI pg 222) P kc ks 132 _ _ SHF _
    refine fw_callVI (as := [.int ((v) &&& ((((Int32.ofInt 1) <<< ((nI p) &&& 31)) ||| ((Int32.ofInt 1) <<< ((nI q) &&& 31))) ^^^ (Int32.ofInt (-1))))]) (dq rfl) (pg_ok.2.2.1 222 _ _ _ _ rfl) rfl (by decide +kernel) rfl rfl (c4 h1) (fun y3 M3 e3 q3 => ?_)
    have hJ3 : ∀ e ∈ RM, M3.2.2 e.1 e.2.1 = e.2.2 := fun e he => by rw [e3]; exact hJ e he
    show AW l (pI pg 222) P kc ks 135 [(6, .int (nI q)), (5, .int (nI p)), (4, .int (c)), (3, .int (m)), (2, .int (v)), (1, .int (x)), (0, .ref 58)] [.int (y3), .int (c)] SHF _
    refine AW.if_eq (dq rfl) (tgt := 142) (by decide) (fun h5 => ?_) (fun h5 => ?_)
    · have _ := h5
      refine AW.iconst (dq rfl) ?_
      show AW l (pI pg 222) P kc ks 143 _ _ SHF _
      refine AW.iadd (dq rfl) ?_
      show AW l (pI pg 222) P kc ks 144 _ _ SHF _
      refine AW.istore (dq rfl) (by decide +kernel) ?_
      show AW l (pI pg 222) P kc ks 146 [(4, .int ((c) + (Int32.ofInt 1))), (6, .int (nI q)), (5, .int (nI p)), (3, .int (m)), (2, .int (v)), (1, .int (x)), (0, .ref 58)] [] SHF _
      refine AW.iinc (dq rfl) rfl (by decide +kernel) ?_
      show AW l (pI pg 222) P kc ks 149 [(6, .int ((nI q) + Int32.ofInt 1)), (4, .int ((c) + (Int32.ofInt 1))), (5, .int (nI p)), (3, .int (m)), (2, .int (v)), (1, .int (x)), (0, .ref 58)] [] SHF _
      refine AW.goto (dq rfl) (tgt := 109) (by decide) ?_
      refine AW.drop (lv' := [(6, .int ((nI q) + Int32.ofInt 1)), (5, .int (nI p)), (4, .int ((c) + (Int32.ofInt 1))), (3, .int (m)), (2, .int (v)), (1, .int (x)), (0, .ref 58)]) (List.forall_mem_cons.mpr ⟨List.mem_of_getElem? (i := 0) rfl, List.forall_mem_cons.mpr ⟨List.mem_of_getElem? (i := 2) rfl, List.forall_mem_cons.mpr ⟨List.mem_of_getElem? (i := 1) rfl, List.forall_mem_cons.mpr ⟨List.mem_of_getElem? (i := 3) rfl, List.forall_mem_cons.mpr ⟨List.mem_of_getElem? (i := 4) rfl, List.forall_mem_cons.mpr ⟨List.mem_of_getElem? (i := 5) rfl, List.forall_mem_cons.mpr ⟨List.mem_of_getElem? (i := 6) rfl, fun _ h => absurd h List.not_mem_nil⟩⟩⟩⟩⟩⟩⟩) ?_
      exact k6 h1 y3 M3 e3 q3 h5
    · have _ := h5
      refine AW.iconst (dq rfl) ?_
      show AW l (pI pg 222) P kc ks 139 _ _ SHF _
      refine AW.goto (dq rfl) (tgt := 143) (by decide) ?_
      refine AW.iadd (dq rfl) ?_
      show AW l (pI pg 222) P kc ks 144 _ _ SHF _
      refine AW.istore (dq rfl) (by decide +kernel) ?_
      show AW l (pI pg 222) P kc ks 146 [(4, .int ((c) + (Int32.ofInt 0))), (6, .int (nI q)), (5, .int (nI p)), (3, .int (m)), (2, .int (v)), (1, .int (x)), (0, .ref 58)] [] SHF _
      refine AW.iinc (dq rfl) rfl (by decide +kernel) ?_
      show AW l (pI pg 222) P kc ks 149 [(6, .int ((nI q) + Int32.ofInt 1)), (4, .int ((c) + (Int32.ofInt 0))), (5, .int (nI p)), (3, .int (m)), (2, .int (v)), (1, .int (x)), (0, .ref 58)] [] SHF _
      refine AW.goto (dq rfl) (tgt := 109) (by decide) ?_
      refine AW.drop (lv' := [(6, .int ((nI q) + Int32.ofInt 1)), (5, .int (nI p)), (4, .int ((c) + (Int32.ofInt 0))), (3, .int (m)), (2, .int (v)), (1, .int (x)), (0, .ref 58)]) (List.forall_mem_cons.mpr ⟨List.mem_of_getElem? (i := 0) rfl, List.forall_mem_cons.mpr ⟨List.mem_of_getElem? (i := 2) rfl, List.forall_mem_cons.mpr ⟨List.mem_of_getElem? (i := 1) rfl, List.forall_mem_cons.mpr ⟨List.mem_of_getElem? (i := 3) rfl, List.forall_mem_cons.mpr ⟨List.mem_of_getElem? (i := 4) rfl, List.forall_mem_cons.mpr ⟨List.mem_of_getElem? (i := 5) rfl, List.forall_mem_cons.mpr ⟨List.mem_of_getElem? (i := 6) rfl, fun _ h => absurd h List.not_mem_nil⟩⟩⟩⟩⟩⟩⟩) ?_
      exact k7 h1 y3 M3 e3 q3 h5

