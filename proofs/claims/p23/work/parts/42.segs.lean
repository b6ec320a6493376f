/-! stretches of methods, printed by wip/gen/segs_a.py -/
def RM : List (Nat × Nat × Nat) := [(58, 5, 60), (58, 6, 61), (58, 7, 62), (58, 8, 63), (58, 9, 64), (58, 10, 65), (58, 11, 66), (58, 15, 67), (58, 29, 68), (58, 30, 69), (58, 31, 70), (58, 32, 71), (58, 33, 72), (58, 34, 73), (58, 37, 74), (58, 38, 75), (58, 39, 76), (58, 40, 77), (58, 41, 78), (58, 42, 79), (58, 43, 80), (58, 44, 81), (58, 47, 82), (58, 48, 83), (58, 49, 84), (58, 50, 85), (58, 53, 86), (58, 54, 87), (58, 55, 88), (58, 56, 89), (58, 60, 90), (58, 61, 91), (58, 62, 92), (58, 63, 93)]
theorem s191_0 {l : aL} {P : aP} {kc ks : Nat} {M : aM} (hJ : ∀ e ∈ RM, M.2.2 e.1 e.2.1 = e.2.2)  (k1 : AW l (pI pg 192) P kc ks 2 [(3, .int (Int32.ofInt 0)), (0, .ref 58), (1, .ref 78), (2, .ref 77)] [] SHF M) : AW l (pI pg 192) P kc ks 0 [(0, .ref 58), (1, .ref 78), (2, .ref 77)] [] SHF M := by
  refine AW.iconst (dq rfl) ?_
  show AW l (pI pg 192) P kc ks 1 _ _ SHF _
  refine AW.istore_n (dq rfl) (by decide +kernel) ?_
  show AW l (pI pg 192) P kc ks 2 [(3, .int (Int32.ofInt 0)), (0, .ref 58), (1, .ref 78), (2, .ref 77)] [] SHF _
  refine AW.drop (lv' := [(3, .int (Int32.ofInt 0)), (0, .ref 58), (1, .ref 78), (2, .ref 77)]) (List.forall_mem_cons.mpr ⟨List.mem_of_getElem? (i := 0) rfl, List.forall_mem_cons.mpr ⟨List.mem_of_getElem? (i := 1) rfl, List.forall_mem_cons.mpr ⟨List.mem_of_getElem? (i := 2) rfl, List.forall_mem_cons.mpr ⟨List.mem_of_getElem? (i := 3) rfl, fun _ h => absurd h List.not_mem_nil⟩⟩⟩⟩) ?_
  exact k1

theorem s191_2 {l : aL} {P : aP} {kc ks : Nat} {k : Nat} {M : aM} (hJ : ∀ e ∈ RM, M.2.2 e.1 e.2.1 = e.2.2)  (r2 : ∀ (h1 : (Int32.ofNat 256 : Int32) ≤ (nI k : Int32)), P (.inl none) SHF M) (o3 : ∀ (h1 : ¬ ((Int32.ofNat 256 : Int32) ≤ (nI k : Int32))), vp_in (nI k) 256) (k4 : ∀ (h1 : ¬ ((Int32.ofNat 256 : Int32) ≤ (nI k : Int32))), AW l (pI pg 192) P kc ks 2 [(3, .int ((nI k) + Int32.ofInt 1)), (0, .ref 58), (1, .ref 78), (2, .ref 77)] [] SHF (aset M 77 (nI k).toNatClampNeg (.int (M.1 78 (nI k).toNatClampNeg)))) : AW l (pI pg 192) P kc ks 2 [(3, .int (nI k)), (0, .ref 58), (1, .ref 78), (2, .ref 77)] [] SHF M := by
  refine AW.iload_n (dq rfl) rfl ?_
  show AW l (pI pg 192) P kc ks 3 _ _ SHF _
  refine AW.aload_n (dq rfl) rfl rfl ?_
  show AW l (pI pg 192) P kc ks 4 _ _ SHF _
  refine AW.alen (dq rfl) rfl ?_
  show AW l (pI pg 192) P kc ks 5 _ _ SHF _
  refine AW.icmp_ge (dq rfl) (tgt := 20) (by decide) (fun h1 => ?_) (fun h1 => ?_)
  · have _ := h1
    refine AW.vret (dq rfl) rfl ?_
    exact r2 h1
  · have _ := h1
    refine AW.aload_n (dq rfl) rfl rfl ?_
    show AW l (pI pg 192) P kc ks 9 _ _ SHF _
    refine AW.iload_n (dq rfl) rfl ?_
    show AW l (pI pg 192) P kc ks 10 _ _ SHF _
    refine AW.aload_n (dq rfl) rfl rfl ?_
    show AW l (pI pg 192) P kc ks 11 _ _ SHF _
    refine AW.iload_n (dq rfl) rfl ?_
    show AW l (pI pg 192) P kc ks 12 _ _ SHF _
    refine AW.iald (dq rfl) rfl (o3 h1) ?_
    show AW l (pI pg 192) P kc ks 13 _ _ SHF _
    refine AW.iast (dq rfl) rfl (o3 h1) ?_
    show AW l (pI pg 192) P kc ks 14 _ _ SHF _
    refine AW.iinc (dq rfl) rfl (by decide +kernel) ?_
    show AW l (pI pg 192) P kc ks 17 [(3, .int ((nI k) + Int32.ofInt 1)), (0, .ref 58), (1, .ref 78), (2, .ref 77)] [] SHF _
    refine AW.goto (dq rfl) (tgt := 2) (by decide) ?_
    refine AW.drop (lv' := [(3, .int ((nI k) + Int32.ofInt 1)), (0, .ref 58), (1, .ref 78), (2, .ref 77)]) (List.forall_mem_cons.mpr ⟨List.mem_of_getElem? (i := 0) rfl, List.forall_mem_cons.mpr ⟨List.mem_of_getElem? (i := 1) rfl, List.forall_mem_cons.mpr ⟨List.mem_of_getElem? (i := 2) rfl, List.forall_mem_cons.mpr ⟨List.mem_of_getElem? (i := 3) rfl, fun _ h => absurd h List.not_mem_nil⟩⟩⟩⟩) ?_
    exact k4 h1

theorem s209_0 {l : aL} {P : aP} {kc ks : Nat} {M : aM} (hJ : ∀ e ∈ RM, M.2.2 e.1 e.2.1 = e.2.2)  (k1 : AW l (pI pg 210) P kc ks 2 [(1, .int (Int32.ofInt 0)), (0, .ref 58)] [] SHF M) : AW l (pI pg 210) P kc ks 0 [(0, .ref 58)] [] SHF M := by
  refine AW.iconst (dq rfl) ?_
  show AW l (pI pg 210) P kc ks 1 _ _ SHF _
  refine AW.istore_n (dq rfl) (by decide +kernel) ?_
  show AW l (pI pg 210) P kc ks 2 [(1, .int (Int32.ofInt 0)), (0, .ref 58)] [] SHF _
  refine AW.drop (lv' := [(1, .int (Int32.ofInt 0)), (0, .ref 58)]) (List.forall_mem_cons.mpr ⟨List.mem_of_getElem? (i := 0) rfl, List.forall_mem_cons.mpr ⟨List.mem_of_getElem? (i := 1) rfl, fun _ h => absurd h List.not_mem_nil⟩⟩) ?_
  exact k1

theorem s209_2 {l : aL} {P : aP} {kc ks : Nat} {w : Nat} {M : aM} (hJ : ∀ e ∈ RM, M.2.2 e.1 e.2.1 = e.2.2)  (r2 : ∀ (h1 : ((Int8.ofInt 8).toInt32 : Int32) ≤ (nI w : Int32)), P (.inl none) SHF M) (o3 : ∀ (h1 : ¬ (((Int8.ofInt 8).toInt32 : Int32) ≤ (nI w : Int32))), vp_in (nI w) 8) (k4 : ∀ (h1 : ¬ (((Int8.ofInt 8).toInt32 : Int32) ≤ (nI w : Int32))), AW l (pI pg 210) P kc ks 2 [(1, .int ((nI w) + Int32.ofInt 1)), (0, .ref 58)] [] SHF (aset M 76 (nI w).toNatClampNeg (.int (Int32.ofInt (-1))))) : AW l (pI pg 210) P kc ks 2 [(1, .int (nI w)), (0, .ref 58)] [] SHF M := by
  refine AW.iload_n (dq rfl) rfl ?_
  show AW l (pI pg 210) P kc ks 3 _ _ SHF _
  refine AW.bipush (dq rfl) ?_
  show AW l (pI pg 210) P kc ks 5 _ _ SHF _
  refine AW.icmp_ge (dq rfl) (tgt := 21) (by decide) (fun h1 => ?_) (fun h1 => ?_)
  · have _ := h1
    refine AW.vret (dq rfl) rfl ?_
    exact r2 h1
  · have _ := h1
    refine AW.aload_n (dq rfl) rfl rfl ?_
    show AW l (pI pg 210) P kc ks 9 _ _ SHF _
    refine fw_get (dq rfl) (pg_ok.2.1 210 _ _ _ _ rfl) rfl (v := .ref 76) (isTA_ok rfl (rgR_ok hJ rfl)) ?_
    show AW l (pI pg 210) P kc ks 12 _ _ SHF _
    refine AW.iload_n (dq rfl) rfl ?_
    show AW l (pI pg 210) P kc ks 13 _ _ SHF _
    refine AW.iconst (dq rfl) ?_
    show AW l (pI pg 210) P kc ks 14 _ _ SHF _
    refine AW.iast (dq rfl) rfl (o3 h1) ?_
    show AW l (pI pg 210) P kc ks 15 _ _ SHF _
    refine AW.iinc (dq rfl) rfl (by decide +kernel) ?_
    show AW l (pI pg 210) P kc ks 18 [(1, .int ((nI w) + Int32.ofInt 1)), (0, .ref 58)] [] SHF _
    refine AW.goto (dq rfl) (tgt := 2) (by decide) ?_
    refine AW.drop (lv' := [(1, .int ((nI w) + Int32.ofInt 1)), (0, .ref 58)]) (List.forall_mem_cons.mpr ⟨List.mem_of_getElem? (i := 0) rfl, List.forall_mem_cons.mpr ⟨List.mem_of_getElem? (i := 1) rfl, fun _ h => absurd h List.not_mem_nil⟩⟩) ?_
    exact k4 h1

theorem s211_0 {l : aL} {P : aP} {kc ks : Nat} {p t : Nat} {M : aM} (hJ : ∀ e ∈ RM, M.2.2 e.1 e.2.1 = e.2.2)  (k1 : AW l (pI pg 212) P kc ks 2 [(3, .int (Int32.ofInt 0)), (0, .ref 58), (1, .int (nI p)), (2, .int (nI t))] [] SHF M) : AW l (pI pg 212) P kc ks 0 [(0, .ref 58), (1, .int (nI p)), (2, .int (nI t))] [] SHF M := by
  refine AW.iconst (dq rfl) ?_
  show AW l (pI pg 212) P kc ks 1 _ _ SHF _
  refine AW.istore_n (dq rfl) (by decide +kernel) ?_
  show AW l (pI pg 212) P kc ks 2 [(3, .int (Int32.ofInt 0)), (0, .ref 58), (1, .int (nI p)), (2, .int (nI t))] [] SHF _
  refine AW.drop (lv' := [(3, .int (Int32.ofInt 0)), (0, .ref 58), (1, .int (nI p)), (2, .int (nI t))]) (List.forall_mem_cons.mpr ⟨List.mem_of_getElem? (i := 0) rfl, List.forall_mem_cons.mpr ⟨List.mem_of_getElem? (i := 1) rfl, List.forall_mem_cons.mpr ⟨List.mem_of_getElem? (i := 2) rfl, List.forall_mem_cons.mpr ⟨List.mem_of_getElem? (i := 3) rfl, fun _ h => absurd h List.not_mem_nil⟩⟩⟩⟩) ?_
  exact k1

theorem s211_2 {l : aL} {P : aP} {kc ks : Nat} {w p t : Nat} {M : aM} (hJ : ∀ e ∈ RM, M.2.2 e.1 e.2.1 = e.2.2)  (r2 : ∀ (h1 : (M.1 58 2 : Int32) ≤ (nI w : Int32)), P (.inl (some (.int (Int32.ofInt 1)))) SHF M) (o4 : ∀ (h1 : ¬ ((M.1 58 2 : Int32) ≤ (nI w : Int32))), ∀ (h3 : ¬ (((nI t) >>> ((nI w) &&& 31)) &&& (Int32.ofInt 1) : Int32) = (Int32.ofInt 1 : Int32)), vp_in (nI w) 8) (k6 : ∀ (h1 : ¬ ((M.1 58 2 : Int32) ≤ (nI w : Int32))), ∀ (h3 : ¬ (((nI t) >>> ((nI w) &&& 31)) &&& (Int32.ofInt 1) : Int32) = (Int32.ofInt 1 : Int32)), ∀ (h5 : (M.1 76 (nI w).toNatClampNeg : Int32) = (Int32.ofInt (-1) : Int32)), AW l (pI pg 212) P kc ks 2 [(3, .int ((nI w) + Int32.ofInt 1)), (0, .ref 58), (1, .int (nI p)), (2, .int (nI t))] [] SHF M) (k9 : ∀ (h1 : ¬ ((M.1 58 2 : Int32) ≤ (nI w : Int32))), ∀ (h3 : ¬ (((nI t) >>> ((nI w) &&& 31)) &&& (Int32.ofInt 1) : Int32) = (Int32.ofInt 1 : Int32)), ∀ (h5 : ¬ ((M.1 76 (nI w).toNatClampNeg : Int32) = (Int32.ofInt (-1) : Int32))), ∀ (h7 : ¬ (M.1 76 (nI w).toNatClampNeg : Int32) = (nI p : Int32)), AW l (pI pg 212) P kc ks 2 [(3, .int ((nI w) + Int32.ofInt 1)), (0, .ref 58), (1, .int (nI p)), (2, .int (nI t))] [] SHF M) (r11 : ∀ (h1 : ¬ ((M.1 58 2 : Int32) ≤ (nI w : Int32))), ∀ (h3 : ¬ (((nI t) >>> ((nI w) &&& 31)) &&& (Int32.ofInt 1) : Int32) = (Int32.ofInt 1 : Int32)), ∀ (h5 : ¬ ((M.1 76 (nI w).toNatClampNeg : Int32) = (Int32.ofInt (-1) : Int32))), ∀ (h7 : (M.1 76 (nI w).toNatClampNeg : Int32) = (nI p : Int32)), P (.inl (some (.int (Int32.ofInt 0)))) SHF M) (o12 : ∀ (h1 : ¬ ((M.1 58 2 : Int32) ≤ (nI w : Int32))), ∀ (h3 : (((nI t) >>> ((nI w) &&& 31)) &&& (Int32.ofInt 1) : Int32) = (Int32.ofInt 1 : Int32)), vp_in (nI w) 8) (k14 : ∀ (h1 : ¬ ((M.1 58 2 : Int32) ≤ (nI w : Int32))), ∀ (h3 : (((nI t) >>> ((nI w) &&& 31)) &&& (Int32.ofInt 1) : Int32) = (Int32.ofInt 1 : Int32)), ∀ (h13 : (M.1 76 (nI w).toNatClampNeg : Int32) = (Int32.ofInt (-1) : Int32)), AW l (pI pg 212) P kc ks 2 [(3, .int ((nI w) + Int32.ofInt 1)), (0, .ref 58), (1, .int (nI p)), (2, .int (nI t))] [] SHF M) (r17 : ∀ (h1 : ¬ ((M.1 58 2 : Int32) ≤ (nI w : Int32))), ∀ (h3 : (((nI t) >>> ((nI w) &&& 31)) &&& (Int32.ofInt 1) : Int32) = (Int32.ofInt 1 : Int32)), ∀ (h13 : ¬ ((M.1 76 (nI w).toNatClampNeg : Int32) = (Int32.ofInt (-1) : Int32))), ∀ (h15 : ¬ (M.1 76 (nI w).toNatClampNeg : Int32) = (nI p : Int32)), P (.inl (some (.int (Int32.ofInt 0)))) SHF M) (k19 : ∀ (h1 : ¬ ((M.1 58 2 : Int32) ≤ (nI w : Int32))), ∀ (h3 : (((nI t) >>> ((nI w) &&& 31)) &&& (Int32.ofInt 1) : Int32) = (Int32.ofInt 1 : Int32)), ∀ (h13 : ¬ ((M.1 76 (nI w).toNatClampNeg : Int32) = (Int32.ofInt (-1) : Int32))), ∀ (h15 : (M.1 76 (nI w).toNatClampNeg : Int32) = (nI p : Int32)), AW l (pI pg 212) P kc ks 2 [(3, .int ((nI w) + Int32.ofInt 1)), (0, .ref 58), (1, .int (nI p)), (2, .int (nI t))] [] SHF M) : AW l (pI pg 212) P kc ks 2 [(3, .int (nI w)), (0, .ref 58), (1, .int (nI p)), (2, .int (nI t))] [] SHF M := by
  refine AW.iload_n (dq rfl) rfl ?_
  show AW l (pI pg 212) P kc ks 3 _ _ SHF _
  refine AW.aload_n (dq rfl) rfl rfl ?_
  show AW l (pI pg 212) P kc ks 4 _ _ SHF _
  refine fw_get (dq rfl) (pg_ok.2.1 212 _ _ _ _ rfl) rfl (v := .int (M.1 58 2)) rfl ?_
  show AW l (pI pg 212) P kc ks 7 _ _ SHF _
  refine AW.icmp_ge (dq rfl) (tgt := 64) (by decide) (fun h1 => ?_) (fun h1 => ?_)
  · have _ := h1
    refine AW.iconst (dq rfl) ?_
    show AW l (pI pg 212) P kc ks 65 _ _ SHF _
    refine AW.zret (dq rfl) rfl (by decide) ?_
    exact r2 h1
  · have _ := h1
    refine AW.iload_n (dq rfl) rfl ?_
    show AW l (pI pg 212) P kc ks 11 _ _ SHF _
    refine AW.iload_n (dq rfl) rfl ?_
    show AW l (pI pg 212) P kc ks 12 _ _ SHF _
    refine AW.ishr (dq rfl) ?_
    show AW l (pI pg 212) P kc ks 13 _ _ SHF _
    refine AW.iconst (dq rfl) ?_
    show AW l (pI pg 212) P kc ks 14 _ _ SHF _
    refine AW.iand (dq rfl) ?_
    show AW l (pI pg 212) P kc ks 15 _ _ SHF _
    refine AW.iconst (dq rfl) ?_
    show AW l (pI pg 212) P kc ks 16 _ _ SHF _
    refine AW.icmp_ne (dq rfl) (tgt := 23) (by decide) (fun h3 => ?_) (fun h3 => ?_)
    · have _ := h3
      refine AW.iconst (dq rfl) ?_
      show AW l (pI pg 212) P kc ks 24 _ _ SHF _
      refine AW.istore (dq rfl) (by decide +kernel) ?_
      show AW l (pI pg 212) P kc ks 26 [(4, .int (Int32.ofInt 0)), (3, .int (nI w)), (0, .ref 58), (1, .int (nI p)), (2, .int (nI t))] [] SHF _
      refine AW.aload_n (dq rfl) rfl rfl ?_
      show AW l (pI pg 212) P kc ks 27 _ _ SHF _
      refine fw_get (dq rfl) (pg_ok.2.1 212 _ _ _ _ rfl) rfl (v := .ref 76) (isTA_ok rfl (rgR_ok hJ rfl)) ?_
      show AW l (pI pg 212) P kc ks 30 _ _ SHF _
      refine AW.iload_n (dq rfl) rfl ?_
      show AW l (pI pg 212) P kc ks 31 _ _ SHF _
      refine AW.iald (dq rfl) rfl (o4 h1 h3) ?_
      show AW l (pI pg 212) P kc ks 32 _ _ SHF _
      refine AW.iconst (dq rfl) ?_
      show AW l (pI pg 212) P kc ks 33 _ _ SHF _
      refine AW.icmp_eq (dq rfl) (tgt := 58) (by decide) (fun h5 => ?_) (fun h5 => ?_)
      · have _ := h5
        refine AW.iinc (dq rfl) rfl (by decide +kernel) ?_
        show AW l (pI pg 212) P kc ks 61 [(3, .int ((nI w) + Int32.ofInt 1)), (4, .int (Int32.ofInt 0)), (0, .ref 58), (1, .int (nI p)), (2, .int (nI t))] [] SHF _
        refine AW.goto (dq rfl) (tgt := 2) (by decide) ?_
        refine AW.drop (lv' := [(3, .int ((nI w) + Int32.ofInt 1)), (0, .ref 58), (1, .int (nI p)), (2, .int (nI t))]) (List.forall_mem_cons.mpr ⟨List.mem_of_getElem? (i := 0) rfl, List.forall_mem_cons.mpr ⟨List.mem_of_getElem? (i := 2) rfl, List.forall_mem_cons.mpr ⟨List.mem_of_getElem? (i := 3) rfl, List.forall_mem_cons.mpr ⟨List.mem_of_getElem? (i := 4) rfl, fun _ h => absurd h List.not_mem_nil⟩⟩⟩⟩) ?_
        exact k6 h1 h3 h5
      · have _ := h5
        refine AW.iload (dq rfl) rfl ?_
        show AW l (pI pg 212) P kc ks 38 _ _ SHF _
        refine AW.aload_n (dq rfl) rfl rfl ?_
        show AW l (pI pg 212) P kc ks 39 _ _ SHF _
        refine fw_get (dq rfl) (pg_ok.2.1 212 _ _ _ _ rfl) rfl (v := .ref 76) (isTA_ok rfl (rgR_ok hJ rfl)) ?_
        show AW l (pI pg 212) P kc ks 42 _ _ SHF _
        refine AW.iload_n (dq rfl) rfl ?_
        show AW l (pI pg 212) P kc ks 43 _ _ SHF _
        refine AW.iald (dq rfl) rfl (o4 h1 h3) ?_
        show AW l (pI pg 212) P kc ks 44 _ _ SHF _
        refine AW.iload_n (dq rfl) rfl ?_
        show AW l (pI pg 212) P kc ks 45 _ _ SHF _
        refine AW.icmp_ne (dq rfl) (tgt := 52) (by decide) (fun h7 => ?_) (fun h7 => ?_)
        · have _ := h7
          refine AW.iconst (dq rfl) ?_
          show AW l (pI pg 212) P kc ks 53 _ _ SHF _
          refine AW.icmp_eq (dq rfl) (tgt := 58) (by decide) (fun h8 => ?_) (fun h8 => ?_)
          rotate_left
          · exact absurd h8 (by decide)
          refine AW.iinc (dq rfl) rfl (by decide +kernel) ?_
          show AW l (pI pg 212) P kc ks 61 [(3, .int ((nI w) + Int32.ofInt 1)), (4, .int (Int32.ofInt 0)), (0, .ref 58), (1, .int (nI p)), (2, .int (nI t))] [] SHF _
          refine AW.goto (dq rfl) (tgt := 2) (by decide) ?_
          refine AW.drop (lv' := [(3, .int ((nI w) + Int32.ofInt 1)), (0, .ref 58), (1, .int (nI p)), (2, .int (nI t))]) (List.forall_mem_cons.mpr ⟨List.mem_of_getElem? (i := 0) rfl, List.forall_mem_cons.mpr ⟨List.mem_of_getElem? (i := 2) rfl, List.forall_mem_cons.mpr ⟨List.mem_of_getElem? (i := 3) rfl, List.forall_mem_cons.mpr ⟨List.mem_of_getElem? (i := 4) rfl, fun _ h => absurd h List.not_mem_nil⟩⟩⟩⟩) ?_
          exact k9 h1 h3 h5 h7
        · have _ := h7
          refine AW.iconst (dq rfl) ?_
          show AW l (pI pg 212) P kc ks 49 _ _ SHF _
          refine AW.goto (dq rfl) (tgt := 53) (by decide) ?_
          refine AW.icmp_eq (dq rfl) (tgt := 58) (by decide) (fun h10 => ?_) (fun h10 => ?_)
          · exact absurd h10 (by decide)
          refine AW.iconst (dq rfl) ?_
          show AW l (pI pg 212) P kc ks 57 _ _ SHF _
          refine AW.zret (dq rfl) rfl (by decide) ?_
          exact r11 h1 h3 h5 h7
    · have _ := h3
      refine AW.iconst (dq rfl) ?_
      show AW l (pI pg 212) P kc ks 20 _ _ SHF _
      refine AW.goto (dq rfl) (tgt := 24) (by decide) ?_
      refine AW.istore (dq rfl) (by decide +kernel) ?_
      show AW l (pI pg 212) P kc ks 26 [(4, .int (Int32.ofInt 1)), (3, .int (nI w)), (0, .ref 58), (1, .int (nI p)), (2, .int (nI t))] [] SHF _
      refine AW.aload_n (dq rfl) rfl rfl ?_
      show AW l (pI pg 212) P kc ks 27 _ _ SHF _
      refine fw_get (dq rfl) (pg_ok.2.1 212 _ _ _ _ rfl) rfl (v := .ref 76) (isTA_ok rfl (rgR_ok hJ rfl)) ?_
      show AW l (pI pg 212) P kc ks 30 _ _ SHF _
      refine AW.iload_n (dq rfl) rfl ?_
      show AW l (pI pg 212) P kc ks 31 _ _ SHF _
      refine AW.iald (dq rfl) rfl (o12 h1 h3) ?_
      show AW l (pI pg 212) P kc ks 32 _ _ SHF _
      refine AW.iconst (dq rfl) ?_
      show AW l (pI pg 212) P kc ks 33 _ _ SHF _
      refine AW.icmp_eq (dq rfl) (tgt := 58) (by decide) (fun h13 => ?_) (fun h13 => ?_)
      · have _ := h13
        refine AW.iinc (dq rfl) rfl (by decide +kernel) ?_
        show AW l (pI pg 212) P kc ks 61 [(3, .int ((nI w) + Int32.ofInt 1)), (4, .int (Int32.ofInt 1)), (0, .ref 58), (1, .int (nI p)), (2, .int (nI t))] [] SHF _
        refine AW.goto (dq rfl) (tgt := 2) (by decide) ?_
        refine AW.drop (lv' := [(3, .int ((nI w) + Int32.ofInt 1)), (0, .ref 58), (1, .int (nI p)), (2, .int (nI t))]) (List.forall_mem_cons.mpr ⟨List.mem_of_getElem? (i := 0) rfl, List.forall_mem_cons.mpr ⟨List.mem_of_getElem? (i := 2) rfl, List.forall_mem_cons.mpr ⟨List.mem_of_getElem? (i := 3) rfl, List.forall_mem_cons.mpr ⟨List.mem_of_getElem? (i := 4) rfl, fun _ h => absurd h List.not_mem_nil⟩⟩⟩⟩) ?_
        exact k14 h1 h3 h13
      · have _ := h13
        refine AW.iload (dq rfl) rfl ?_
        show AW l (pI pg 212) P kc ks 38 _ _ SHF _
        refine AW.aload_n (dq rfl) rfl rfl ?_
        show AW l (pI pg 212) P kc ks 39 _ _ SHF _
        refine fw_get (dq rfl) (pg_ok.2.1 212 _ _ _ _ rfl) rfl (v := .ref 76) (isTA_ok rfl (rgR_ok hJ rfl)) ?_
        show AW l (pI pg 212) P kc ks 42 _ _ SHF _
        refine AW.iload_n (dq rfl) rfl ?_
        show AW l (pI pg 212) P kc ks 43 _ _ SHF _
        refine AW.iald (dq rfl) rfl (o12 h1 h3) ?_
        show AW l (pI pg 212) P kc ks 44 _ _ SHF _
        refine AW.iload_n (dq rfl) rfl ?_
        show AW l (pI pg 212) P kc ks 45 _ _ SHF _
        refine AW.icmp_ne (dq rfl) (tgt := 52) (by decide) (fun h15 => ?_) (fun h15 => ?_)
        · have _ := h15
          refine AW.iconst (dq rfl) ?_
          show AW l (pI pg 212) P kc ks 53 _ _ SHF _
          refine AW.icmp_eq (dq rfl) (tgt := 58) (by decide) (fun h16 => ?_) (fun h16 => ?_)
          · exact absurd h16 (by decide)
          refine AW.iconst (dq rfl) ?_
          show AW l (pI pg 212) P kc ks 57 _ _ SHF _
          refine AW.zret (dq rfl) rfl (by decide) ?_
          exact r17 h1 h3 h13 h15
        · have _ := h15
          refine AW.iconst (dq rfl) ?_
          show AW l (pI pg 212) P kc ks 49 _ _ SHF _
          refine AW.goto (dq rfl) (tgt := 53) (by decide) ?_
          refine AW.icmp_eq (dq rfl) (tgt := 58) (by decide) (fun h18 => ?_) (fun h18 => ?_)
          rotate_left
          · exact absurd h18 (by decide)
          refine AW.iinc (dq rfl) rfl (by decide +kernel) ?_
          show AW l (pI pg 212) P kc ks 61 [(3, .int ((nI w) + Int32.ofInt 1)), (4, .int (Int32.ofInt 1)), (0, .ref 58), (1, .int (nI p)), (2, .int (nI t))] [] SHF _
          refine AW.goto (dq rfl) (tgt := 2) (by decide) ?_
          refine AW.drop (lv' := [(3, .int ((nI w) + Int32.ofInt 1)), (0, .ref 58), (1, .int (nI p)), (2, .int (nI t))]) (List.forall_mem_cons.mpr ⟨List.mem_of_getElem? (i := 0) rfl, List.forall_mem_cons.mpr ⟨List.mem_of_getElem? (i := 2) rfl, List.forall_mem_cons.mpr ⟨List.mem_of_getElem? (i := 3) rfl, List.forall_mem_cons.mpr ⟨List.mem_of_getElem? (i := 4) rfl, fun _ h => absurd h List.not_mem_nil⟩⟩⟩⟩) ?_
          exact k19 h1 h3 h13 h15

theorem s212_0 {l : aL} {P : aP} {kc ks : Nat} {p t : Nat} {M : aM} (hJ : ∀ e ∈ RM, M.2.2 e.1 e.2.1 = e.2.2)  (k1 : AW l (pI pg 213) P kc ks 5 [(4, .int (Int32.ofInt 0)), (3, .int (Int32.ofInt 0)), (0, .ref 58), (1, .int (nI p)), (2, .int (nI t))] [] SHF M) : AW l (pI pg 213) P kc ks 0 [(0, .ref 58), (1, .int (nI p)), (2, .int (nI t))] [] SHF M := by
  refine AW.iconst (dq rfl) ?_
  show AW l (pI pg 213) P kc ks 1 _ _ SHF _
  refine AW.istore_n (dq rfl) (by decide +kernel) ?_
  show AW l (pI pg 213) P kc ks 2 [(3, .int (Int32.ofInt 0)), (0, .ref 58), (1, .int (nI p)), (2, .int (nI t))] [] SHF _
  refine AW.iconst (dq rfl) ?_
  show AW l (pI pg 213) P kc ks 3 _ _ SHF _
  refine AW.istore (dq rfl) (by decide +kernel) ?_
  show AW l (pI pg 213) P kc ks 5 [(4, .int (Int32.ofInt 0)), (3, .int (Int32.ofInt 0)), (0, .ref 58), (1, .int (nI p)), (2, .int (nI t))] [] SHF _
  refine AW.drop (lv' := [(4, .int (Int32.ofInt 0)), (3, .int (Int32.ofInt 0)), (0, .ref 58), (1, .int (nI p)), (2, .int (nI t))]) (List.forall_mem_cons.mpr ⟨List.mem_of_getElem? (i := 0) rfl, List.forall_mem_cons.mpr ⟨List.mem_of_getElem? (i := 1) rfl, List.forall_mem_cons.mpr ⟨List.mem_of_getElem? (i := 2) rfl, List.forall_mem_cons.mpr ⟨List.mem_of_getElem? (i := 3) rfl, List.forall_mem_cons.mpr ⟨List.mem_of_getElem? (i := 4) rfl, fun _ h => absurd h List.not_mem_nil⟩⟩⟩⟩⟩) ?_
  exact k1

theorem s212_5 {l : aL} {P : aP} {kc ks : Nat} {w p t : Nat} {v : Int32} {M : aM} (hJ : ∀ e ∈ RM, M.2.2 e.1 e.2.1 = e.2.2)  (r2 : ∀ (h1 : (M.1 58 2 : Int32) ≤ (nI w : Int32)), P (.inl (some (.int (v)))) SHF M) (k4 : ∀ (h1 : ¬ ((M.1 58 2 : Int32) ≤ (nI w : Int32))), ∀ (h3 : ¬ (((nI t) >>> ((nI w) &&& 31)) &&& (Int32.ofInt 1) : Int32) = (Int32.ofInt 1 : Int32)), AW l (pI pg 213) P kc ks 5 [(4, .int ((nI w) + Int32.ofInt 1)), (3, .int ((v) + (Int32.ofInt 0))), (0, .ref 58), (1, .int (nI p)), (2, .int (nI t))] [] SHF M) (o5 : ∀ (h1 : ¬ ((M.1 58 2 : Int32) ≤ (nI w : Int32))), ∀ (h3 : (((nI t) >>> ((nI w) &&& 31)) &&& (Int32.ofInt 1) : Int32) = (Int32.ofInt 1 : Int32)), vp_in ((((Int8.ofInt 8).toInt32) * (nI p)) + (nI w)) 48) (k6 : ∀ (h1 : ¬ ((M.1 58 2 : Int32) ≤ (nI w : Int32))), ∀ (h3 : (((nI t) >>> ((nI w) &&& 31)) &&& (Int32.ofInt 1) : Int32) = (Int32.ofInt 1 : Int32)), AW l (pI pg 213) P kc ks 5 [(4, .int ((nI w) + Int32.ofInt 1)), (3, .int ((v) + (M.1 75 ((((Int8.ofInt 8).toInt32) * (nI p)) + (nI w)).toNatClampNeg))), (0, .ref 58), (1, .int (nI p)), (2, .int (nI t))] [] SHF M) : AW l (pI pg 213) P kc ks 5 [(4, .int (nI w)), (3, .int (v)), (0, .ref 58), (1, .int (nI p)), (2, .int (nI t))] [] SHF M := by
  refine AW.iload (dq rfl) rfl ?_
  show AW l (pI pg 213) P kc ks 7 _ _ SHF _
  refine AW.aload_n (dq rfl) rfl rfl ?_
  show AW l (pI pg 213) P kc ks 8 _ _ SHF _
  refine fw_get (dq rfl) (pg_ok.2.1 213 _ _ _ _ rfl) rfl (v := .int (M.1 58 2)) rfl ?_
  show AW l (pI pg 213) P kc ks 11 _ _ SHF _
  refine AW.icmp_ge (dq rfl) (tgt := 49) (by decide) (fun h1 => ?_) (fun h1 => ?_)
  · have _ := h1
    refine AW.iload_n (dq rfl) rfl ?_
    show AW l (pI pg 213) P kc ks 50 _ _ SHF _
    refine AW.iret (dq rfl) rfl ?_
    exact r2 h1
  · have _ := h1
    refine AW.iload_n (dq rfl) rfl ?_
    show AW l (pI pg 213) P kc ks 15 _ _ SHF _
    refine AW.iload_n (dq rfl) rfl ?_
    show AW l (pI pg 213) P kc ks 16 _ _ SHF _
    refine AW.iload (dq rfl) rfl ?_
    show AW l (pI pg 213) P kc ks 18 _ _ SHF _
    refine AW.ishr (dq rfl) ?_
    show AW l (pI pg 213) P kc ks 19 _ _ SHF _
    refine AW.iconst (dq rfl) ?_
    show AW l (pI pg 213) P kc ks 20 _ _ SHF _
    refine AW.iand (dq rfl) ?_
    show AW l (pI pg 213) P kc ks 21 _ _ SHF _
    refine AW.iconst (dq rfl) ?_
    show AW l (pI pg 213) P kc ks 22 _ _ SHF _
    refine AW.icmp_ne (dq rfl) (tgt := 40) (by decide) (fun h3 => ?_) (fun h3 => ?_)
    · have _ := h3
      refine AW.iconst (dq rfl) ?_
      show AW l (pI pg 213) P kc ks 41 _ _ SHF _
      refine AW.iadd (dq rfl) ?_
      show AW l (pI pg 213) P kc ks 42 _ _ SHF _
      refine AW.istore_n (dq rfl) (by decide +kernel) ?_
      show AW l (pI pg 213) P kc ks 43 [(3, .int ((v) + (Int32.ofInt 0))), (4, .int (nI w)), (0, .ref 58), (1, .int (nI p)), (2, .int (nI t))] [] SHF _
      refine AW.iinc (dq rfl) rfl (by decide +kernel) ?_
      show AW l (pI pg 213) P kc ks 46 [(4, .int ((nI w) + Int32.ofInt 1)), (3, .int ((v) + (Int32.ofInt 0))), (0, .ref 58), (1, .int (nI p)), (2, .int (nI t))] [] SHF _
      refine AW.goto (dq rfl) (tgt := 5) (by decide) ?_
      refine AW.drop (lv' := [(4, .int ((nI w) + Int32.ofInt 1)), (3, .int ((v) + (Int32.ofInt 0))), (0, .ref 58), (1, .int (nI p)), (2, .int (nI t))]) (List.forall_mem_cons.mpr ⟨List.mem_of_getElem? (i := 0) rfl, List.forall_mem_cons.mpr ⟨List.mem_of_getElem? (i := 1) rfl, List.forall_mem_cons.mpr ⟨List.mem_of_getElem? (i := 2) rfl, List.forall_mem_cons.mpr ⟨List.mem_of_getElem? (i := 3) rfl, List.forall_mem_cons.mpr ⟨List.mem_of_getElem? (i := 4) rfl, fun _ h => absurd h List.not_mem_nil⟩⟩⟩⟩⟩) ?_
      exact k4 h1 h3
    · have _ := h3
      refine AW.aload_n (dq rfl) rfl rfl ?_
      show AW l (pI pg 213) P kc ks 26 _ _ SHF _
      refine fw_get (dq rfl) (pg_ok.2.1 213 _ _ _ _ rfl) rfl (v := .ref 75) (isTA_ok rfl (rgR_ok hJ rfl)) ?_
      show AW l (pI pg 213) P kc ks 29 _ _ SHF _
      refine AW.bipush (dq rfl) ?_
      show AW l (pI pg 213) P kc ks 31 _ _ SHF _
      refine AW.iload_n (dq rfl) rfl ?_
      show AW l (pI pg 213) P kc ks 32 _ _ SHF _
      refine AW.imul (dq rfl) ?_
      show AW l (pI pg 213) P kc ks 33 _ _ SHF _
      refine AW.iload (dq rfl) rfl ?_
      show AW l (pI pg 213) P kc ks 35 _ _ SHF _
      refine AW.iadd (dq rfl) ?_
      show AW l (pI pg 213) P kc ks 36 _ _ SHF _
      refine AW.iald (dq rfl) rfl (o5 h1 h3) ?_
      show AW l (pI pg 213) P kc ks 37 _ _ SHF _
      refine AW.goto (dq rfl) (tgt := 41) (by decide) ?_
      refine AW.iadd (dq rfl) ?_
      show AW l (pI pg 213) P kc ks 42 _ _ SHF _
      refine AW.istore_n (dq rfl) (by decide +kernel) ?_
      show AW l (pI pg 213) P kc ks 43 [(3, .int ((v) + (M.1 75 ((((Int8.ofInt 8).toInt32) * (nI p)) + (nI w)).toNatClampNeg))), (4, .int (nI w)), (0, .ref 58), (1, .int (nI p)), (2, .int (nI t))] [] SHF _
      refine AW.iinc (dq rfl) rfl (by decide +kernel) ?_
      show AW l (pI pg 213) P kc ks 46 [(4, .int ((nI w) + Int32.ofInt 1)), (3, .int ((v) + (M.1 75 ((((Int8.ofInt 8).toInt32) * (nI p)) + (nI w)).toNatClampNeg))), (0, .ref 58), (1, .int (nI p)), (2, .int (nI t))] [] SHF _
      refine AW.goto (dq rfl) (tgt := 5) (by decide) ?_
      refine AW.drop (lv' := [(4, .int ((nI w) + Int32.ofInt 1)), (3, .int ((v) + (M.1 75 ((((Int8.ofInt 8).toInt32) * (nI p)) + (nI w)).toNatClampNeg))), (0, .ref 58), (1, .int (nI p)), (2, .int (nI t))]) (List.forall_mem_cons.mpr ⟨List.mem_of_getElem? (i := 0) rfl, List.forall_mem_cons.mpr ⟨List.mem_of_getElem? (i := 1) rfl, List.forall_mem_cons.mpr ⟨List.mem_of_getElem? (i := 2) rfl, List.forall_mem_cons.mpr ⟨List.mem_of_getElem? (i := 3) rfl, List.forall_mem_cons.mpr ⟨List.mem_of_getElem? (i := 4) rfl, fun _ h => absurd h List.not_mem_nil⟩⟩⟩⟩⟩) ?_
      exact k6 h1 h3

theorem s210_0 {l : aL} {P : aP} {kc ks : Nat} {left : Nat} {M : aM} (hJ : ∀ e ∈ RM, M.2.2 e.1 e.2.1 = e.2.2)  (k1 : AW l (pI pg 211) P kc ks 2 [(2, .int (Int32.ofInt 0)), (0, .ref 58), (1, .int (nI left))] [] SHF M) : AW l (pI pg 211) P kc ks 0 [(0, .ref 58), (1, .int (nI left))] [] SHF M := by
  refine AW.iconst (dq rfl) ?_
  show AW l (pI pg 211) P kc ks 1 _ _ SHF _
  refine AW.istore_n (dq rfl) (by decide +kernel) ?_
  show AW l (pI pg 211) P kc ks 2 [(2, .int (Int32.ofInt 0)), (0, .ref 58), (1, .int (nI left))] [] SHF _
  refine AW.drop (lv' := [(2, .int (Int32.ofInt 0)), (0, .ref 58), (1, .int (nI left))]) (List.forall_mem_cons.mpr ⟨List.mem_of_getElem? (i := 0) rfl, List.forall_mem_cons.mpr ⟨List.mem_of_getElem? (i := 1) rfl, List.forall_mem_cons.mpr ⟨List.mem_of_getElem? (i := 2) rfl, fun _ h => absurd h List.not_mem_nil⟩⟩⟩) ?_
  exact k1

theorem s210_2 {l : aL} {P : aP} {kc ks : Nat} {s left : Nat} {M : aM} (hJ : ∀ e ∈ RM, M.2.2 e.1 e.2.1 = e.2.2)  (k2 : ∀ (h1 : ((Int32.ofInt 1) <<< ((M.1 58 2) &&& 31) : Int32) ≤ (nI s : Int32)), AW l (pI pg 211) P kc ks 35 [(2, .int (Int32.ofInt 0)), (0, .ref 58), (1, .int (nI left))] [] SHF M) (o4 : ∀ (h1 : ¬ (((Int32.ofInt 1) <<< ((M.1 58 2) &&& 31) : Int32) ≤ (nI s : Int32))), ∀ (h3 : ¬ (nI s : Int32) = 0), vp_in (nI s) 256) (k5 : ∀ (h1 : ¬ (((Int32.ofInt 1) <<< ((M.1 58 2) &&& 31) : Int32) ≤ (nI s : Int32))), ∀ (h3 : ¬ (nI s : Int32) = 0), AW l (pI pg 211) P kc ks 2 [(2, .int ((nI s) + Int32.ofInt 1)), (0, .ref 58), (1, .int (nI left))] [] SHF (aset M 77 (nI s).toNatClampNeg (.int (Int32.ofInt (-1))))) (o6 : ∀ (h1 : ¬ (((Int32.ofInt 1) <<< ((M.1 58 2) &&& 31) : Int32) ≤ (nI s : Int32))), ∀ (h3 : (nI s : Int32) = 0), vp_in (nI s) 256) (k7 : ∀ (h1 : ¬ (((Int32.ofInt 1) <<< ((M.1 58 2) &&& 31) : Int32) ≤ (nI s : Int32))), ∀ (h3 : (nI s : Int32) = 0), AW l (pI pg 211) P kc ks 2 [(2, .int ((nI s) + Int32.ofInt 1)), (0, .ref 58), (1, .int (nI left))] [] SHF (aset M 77 (nI s).toNatClampNeg (.int (Int32.ofInt 0)))) : AW l (pI pg 211) P kc ks 2 [(2, .int (nI s)), (0, .ref 58), (1, .int (nI left))] [] SHF M := by
  refine AW.iload_n (dq rfl) rfl ?_
  show AW l (pI pg 211) P kc ks 3 _ _ SHF _
  refine AW.iconst (dq rfl) ?_
  show AW l (pI pg 211) P kc ks 4 _ _ SHF _
  refine AW.aload_n (dq rfl) rfl rfl ?_
  show AW l (pI pg 211) P kc ks 5 _ _ SHF _
  refine fw_get (dq rfl) (pg_ok.2.1 211 _ _ _ _ rfl) rfl (v := .int (M.1 58 2)) rfl ?_
  show AW l (pI pg 211) P kc ks 8 _ _ SHF _
  refine AW.ishl (dq rfl) ?_
  show AW l (pI pg 211) P kc ks 9 _ _ SHF _
  refine AW.icmp_ge (dq rfl) (tgt := 33) (by decide) (fun h1 => ?_) (fun h1 => ?_)
  · have _ := h1
    refine AW.iconst (dq rfl) ?_
    show AW l (pI pg 211) P kc ks 34 _ _ SHF _
    refine AW.istore_n (dq rfl) (by decide +kernel) ?_
    show AW l (pI pg 211) P kc ks 35 [(2, .int (Int32.ofInt 0)), (0, .ref 58), (1, .int (nI left))] [] SHF _
    refine AW.drop (lv' := [(2, .int (Int32.ofInt 0)), (0, .ref 58), (1, .int (nI left))]) (List.forall_mem_cons.mpr ⟨List.mem_of_getElem? (i := 0) rfl, List.forall_mem_cons.mpr ⟨List.mem_of_getElem? (i := 1) rfl, List.forall_mem_cons.mpr ⟨List.mem_of_getElem? (i := 2) rfl, fun _ h => absurd h List.not_mem_nil⟩⟩⟩) ?_
    exact k2 h1
  · have _ := h1
    refine AW.aload_n (dq rfl) rfl rfl ?_
    show AW l (pI pg 211) P kc ks 13 _ _ SHF _
    refine fw_get (dq rfl) (pg_ok.2.1 211 _ _ _ _ rfl) rfl (v := .ref 77) (isTA_ok rfl (rgR_ok hJ rfl)) ?_
    show AW l (pI pg 211) P kc ks 16 _ _ SHF _
    refine AW.iload_n (dq rfl) rfl ?_
    show AW l (pI pg 211) P kc ks 17 _ _ SHF _
    refine AW.iload_n (dq rfl) rfl ?_
    show AW l (pI pg 211) P kc ks 18 _ _ SHF _
    refine AW.if_ne (dq rfl) (tgt := 25) (by decide) (fun h3 => ?_) (fun h3 => ?_)
    · have _ := h3
      refine AW.iconst (dq rfl) ?_
      show AW l (pI pg 211) P kc ks 26 _ _ SHF _
      refine AW.iast (dq rfl) rfl (o4 h1 h3) ?_
      show AW l (pI pg 211) P kc ks 27 _ _ SHF _
      refine AW.iinc (dq rfl) rfl (by decide +kernel) ?_
      show AW l (pI pg 211) P kc ks 30 [(2, .int ((nI s) + Int32.ofInt 1)), (0, .ref 58), (1, .int (nI left))] [] SHF _
      refine AW.goto (dq rfl) (tgt := 2) (by decide) ?_
      refine AW.drop (lv' := [(2, .int ((nI s) + Int32.ofInt 1)), (0, .ref 58), (1, .int (nI left))]) (List.forall_mem_cons.mpr ⟨List.mem_of_getElem? (i := 0) rfl, List.forall_mem_cons.mpr ⟨List.mem_of_getElem? (i := 1) rfl, List.forall_mem_cons.mpr ⟨List.mem_of_getElem? (i := 2) rfl, fun _ h => absurd h List.not_mem_nil⟩⟩⟩) ?_
      exact k5 h1 h3
    · have _ := h3
      refine AW.iconst (dq rfl) ?_
      show AW l (pI pg 211) P kc ks 22 _ _ SHF _
      refine AW.goto (dq rfl) (tgt := 26) (by decide) ?_
      refine AW.iast (dq rfl) rfl (o6 h1 h3) ?_
      show AW l (pI pg 211) P kc ks 27 _ _ SHF _
      refine AW.iinc (dq rfl) rfl (by decide +kernel) ?_
      show AW l (pI pg 211) P kc ks 30 [(2, .int ((nI s) + Int32.ofInt 1)), (0, .ref 58), (1, .int (nI left))] [] SHF _
      refine AW.goto (dq rfl) (tgt := 2) (by decide) ?_
      refine AW.drop (lv' := [(2, .int ((nI s) + Int32.ofInt 1)), (0, .ref 58), (1, .int (nI left))]) (List.forall_mem_cons.mpr ⟨List.mem_of_getElem? (i := 0) rfl, List.forall_mem_cons.mpr ⟨List.mem_of_getElem? (i := 1) rfl, List.forall_mem_cons.mpr ⟨List.mem_of_getElem? (i := 2) rfl, fun _ h => absurd h List.not_mem_nil⟩⟩⟩) ?_
      exact k7 h1 h3

theorem s210_35 {l : aL} {P : aP} {kc ks : Nat} {p left : Nat} {M : aM} (hJ : ∀ e ∈ RM, M.2.2 e.1 e.2.1 = e.2.2)  (r2 : ∀ (h1 : (M.1 58 1 : Int32) ≤ (nI p : Int32)), P (.inl none) SHF M) (k4 : ∀ (h1 : ¬ ((M.1 58 1 : Int32) ≤ (nI p : Int32))), ∀ (h3 : ¬ (((nI left) >>> ((nI p) &&& 31)) &&& (Int32.ofInt 1) : Int32) = 0), AW l (pI pg 211) P kc ks 56 [(3, .int (Int32.ofInt 0)), (2, .int (nI p)), (0, .ref 58), (1, .int (nI left))] [] SHF M) (k5 : ∀ (h1 : ¬ ((M.1 58 1 : Int32) ≤ (nI p : Int32))), ∀ (h3 : (((nI left) >>> ((nI p) &&& 31)) &&& (Int32.ofInt 1) : Int32) = 0), AW l (pI pg 211) P kc ks 35 [(2, .int ((nI p) + Int32.ofInt 1)), (0, .ref 58), (1, .int (nI left))] [] SHF M) : AW l (pI pg 211) P kc ks 35 [(2, .int (nI p)), (0, .ref 58), (1, .int (nI left))] [] SHF M := by
  refine AW.iload_n (dq rfl) rfl ?_
  show AW l (pI pg 211) P kc ks 36 _ _ SHF _
  refine AW.aload_n (dq rfl) rfl rfl ?_
  show AW l (pI pg 211) P kc ks 37 _ _ SHF _
  refine fw_get (dq rfl) (pg_ok.2.1 211 _ _ _ _ rfl) rfl (v := .int (M.1 58 1)) rfl ?_
  show AW l (pI pg 211) P kc ks 40 _ _ SHF _
  refine AW.icmp_ge (dq rfl) (tgt := 236) (by decide) (fun h1 => ?_) (fun h1 => ?_)
  · have _ := h1
    refine AW.vret (dq rfl) rfl ?_
    exact r2 h1
  · have _ := h1
    refine AW.iload_n (dq rfl) rfl ?_
    show AW l (pI pg 211) P kc ks 44 _ _ SHF _
    refine AW.iload_n (dq rfl) rfl ?_
    show AW l (pI pg 211) P kc ks 45 _ _ SHF _
    refine AW.ishr (dq rfl) ?_
    show AW l (pI pg 211) P kc ks 46 _ _ SHF _
    refine AW.iconst (dq rfl) ?_
    show AW l (pI pg 211) P kc ks 47 _ _ SHF _
    refine AW.iand (dq rfl) ?_
    show AW l (pI pg 211) P kc ks 48 _ _ SHF _
    refine AW.if_ne (dq rfl) (tgt := 54) (by decide) (fun h3 => ?_) (fun h3 => ?_)
    · have _ := h3
      refine AW.iconst (dq rfl) ?_
      show AW l (pI pg 211) P kc ks 55 _ _ SHF _
      refine AW.istore_n (dq rfl) (by decide +kernel) ?_
      show AW l (pI pg 211) P kc ks 56 [(3, .int (Int32.ofInt 0)), (2, .int (nI p)), (0, .ref 58), (1, .int (nI left))] [] SHF _
      refine AW.drop (lv' := [(3, .int (Int32.ofInt 0)), (2, .int (nI p)), (0, .ref 58), (1, .int (nI left))]) (List.forall_mem_cons.mpr ⟨List.mem_of_getElem? (i := 0) rfl, List.forall_mem_cons.mpr ⟨List.mem_of_getElem? (i := 1) rfl, List.forall_mem_cons.mpr ⟨List.mem_of_getElem? (i := 2) rfl, List.forall_mem_cons.mpr ⟨List.mem_of_getElem? (i := 3) rfl, fun _ h => absurd h List.not_mem_nil⟩⟩⟩⟩) ?_
      exact k4 h1 h3
    · have _ := h3
      refine AW.goto (dq rfl) (tgt := 230) (by decide) ?_
      refine AW.iinc (dq rfl) rfl (by decide +kernel) ?_
      show AW l (pI pg 211) P kc ks 233 [(2, .int ((nI p) + Int32.ofInt 1)), (0, .ref 58), (1, .int (nI left))] [] SHF _
      refine AW.goto (dq rfl) (tgt := 35) (by decide) ?_
      refine AW.drop (lv' := [(2, .int ((nI p) + Int32.ofInt 1)), (0, .ref 58), (1, .int (nI left))]) (List.forall_mem_cons.mpr ⟨List.mem_of_getElem? (i := 0) rfl, List.forall_mem_cons.mpr ⟨List.mem_of_getElem? (i := 1) rfl, List.forall_mem_cons.mpr ⟨List.mem_of_getElem? (i := 2) rfl, fun _ h => absurd h List.not_mem_nil⟩⟩⟩) ?_
      exact k5 h1 h3

theorem s210_56 {l : aL} {P : aP} {kc ks : Nat} {s p left : Nat} {M : aM} (hJ : ∀ e ∈ RM, M.2.2 e.1 e.2.1 = e.2.2)  (k2 : ∀ (h1 : ((Int32.ofInt 1) <<< ((M.1 58 2) &&& 31) : Int32) ≤ (nI s : Int32)), AW l (pI pg 211) P kc ks 81 [(3, .int (Int32.ofInt 0)), (2, .int (nI p)), (0, .ref 58), (1, .int (nI left))] [] SHF M) (o3 : ∀ (h1 : ¬ (((Int32.ofInt 1) <<< ((M.1 58 2) &&& 31) : Int32) ≤ (nI s : Int32))), vp_in (nI s) 256) (k4 : ∀ (h1 : ¬ (((Int32.ofInt 1) <<< ((M.1 58 2) &&& 31) : Int32) ≤ (nI s : Int32))), AW l (pI pg 211) P kc ks 56 [(3, .int ((nI s) + Int32.ofInt 1)), (2, .int (nI p)), (0, .ref 58), (1, .int (nI left))] [] SHF (aset M 78 (nI s).toNatClampNeg (.int (Int32.ofInt (-1))))) : AW l (pI pg 211) P kc ks 56 [(3, .int (nI s)), (2, .int (nI p)), (0, .ref 58), (1, .int (nI left))] [] SHF M := by
  refine AW.iload_n (dq rfl) rfl ?_
  show AW l (pI pg 211) P kc ks 57 _ _ SHF _
  refine AW.iconst (dq rfl) ?_
  show AW l (pI pg 211) P kc ks 58 _ _ SHF _
  refine AW.aload_n (dq rfl) rfl rfl ?_
  show AW l (pI pg 211) P kc ks 59 _ _ SHF _
  refine fw_get (dq rfl) (pg_ok.2.1 211 _ _ _ _ rfl) rfl (v := .int (M.1 58 2)) rfl ?_
  show AW l (pI pg 211) P kc ks 62 _ _ SHF _
  refine AW.ishl (dq rfl) ?_
  show AW l (pI pg 211) P kc ks 63 _ _ SHF _
  refine AW.icmp_ge (dq rfl) (tgt := 79) (by decide) (fun h1 => ?_) (fun h1 => ?_)
  · have _ := h1
    refine AW.iconst (dq rfl) ?_
    show AW l (pI pg 211) P kc ks 80 _ _ SHF _
    refine AW.istore_n (dq rfl) (by decide +kernel) ?_
    show AW l (pI pg 211) P kc ks 81 [(3, .int (Int32.ofInt 0)), (2, .int (nI p)), (0, .ref 58), (1, .int (nI left))] [] SHF _
    refine AW.drop (lv' := [(3, .int (Int32.ofInt 0)), (2, .int (nI p)), (0, .ref 58), (1, .int (nI left))]) (List.forall_mem_cons.mpr ⟨List.mem_of_getElem? (i := 0) rfl, List.forall_mem_cons.mpr ⟨List.mem_of_getElem? (i := 1) rfl, List.forall_mem_cons.mpr ⟨List.mem_of_getElem? (i := 2) rfl, List.forall_mem_cons.mpr ⟨List.mem_of_getElem? (i := 3) rfl, fun _ h => absurd h List.not_mem_nil⟩⟩⟩⟩) ?_
    exact k2 h1
  · have _ := h1
    refine AW.aload_n (dq rfl) rfl rfl ?_
    show AW l (pI pg 211) P kc ks 67 _ _ SHF _
    refine fw_get (dq rfl) (pg_ok.2.1 211 _ _ _ _ rfl) rfl (v := .ref 78) (isTA_ok rfl (rgR_ok hJ rfl)) ?_
    show AW l (pI pg 211) P kc ks 70 _ _ SHF _
    refine AW.iload_n (dq rfl) rfl ?_
    show AW l (pI pg 211) P kc ks 71 _ _ SHF _
    refine AW.iconst (dq rfl) ?_
    show AW l (pI pg 211) P kc ks 72 _ _ SHF _
    refine AW.iast (dq rfl) rfl (o3 h1) ?_
    show AW l (pI pg 211) P kc ks 73 _ _ SHF _
    refine AW.iinc (dq rfl) rfl (by decide +kernel) ?_
    show AW l (pI pg 211) P kc ks 76 [(3, .int ((nI s) + Int32.ofInt 1)), (2, .int (nI p)), (0, .ref 58), (1, .int (nI left))] [] SHF _
    refine AW.goto (dq rfl) (tgt := 56) (by decide) ?_
    refine AW.drop (lv' := [(3, .int ((nI s) + Int32.ofInt 1)), (2, .int (nI p)), (0, .ref 58), (1, .int (nI left))]) (List.forall_mem_cons.mpr ⟨List.mem_of_getElem? (i := 0) rfl, List.forall_mem_cons.mpr ⟨List.mem_of_getElem? (i := 1) rfl, List.forall_mem_cons.mpr ⟨List.mem_of_getElem? (i := 2) rfl, List.forall_mem_cons.mpr ⟨List.mem_of_getElem? (i := 3) rfl, fun _ h => absurd h List.not_mem_nil⟩⟩⟩⟩) ?_
    exact k4 h1

theorem s210_81 {l : aL} {P : aP} {kc ks : Nat} {k p left : Nat} {M : aM} (hJ : ∀ e ∈ RM, M.2.2 e.1 e.2.1 = e.2.2)  (o1 : vp_in (nI p) 6) (Q3 : aM → Prop) (c4 : ∀ (h2 : (M.1 74 (nI p).toNatClampNeg : Int32) ≤ (nI k : Int32)), AC l (pI pg 192) (fcV M Q3) 0 0 [.ref 58, .ref 78, .ref 77] SHF M) (k5 : ∀ (h2 : (M.1 74 (nI p).toNatClampNeg : Int32) ≤ (nI k : Int32)), ∀ (M3 : aM), ∀ (e3 : M3.2.2 = M.2.2), ∀ (q3 : Q3 M3), AW l (pI pg 211) P kc ks 35 [(2, .int ((nI p) + Int32.ofInt 1)), (0, .ref 58), (1, .int (nI left))] [] SHF M3) (o6 : ∀ (h2 : ¬ ((M.1 74 (nI p).toNatClampNeg : Int32) ≤ (nI k : Int32))), vp_in ((((Int16.ofInt 256).toInt32) * (nI p)) + (nI k)) 1536) (Q7 : Int32 → aM → Prop) (c8 : ∀ (h2 : ¬ ((M.1 74 (nI p).toNatClampNeg : Int32) ≤ (nI k : Int32))), AC l (pI pg 212) (fcI M Q7) 0 0 [.ref 58, .int (nI p), .int (M.1 73 ((((Int16.ofInt 256).toInt32) * (nI p)) + (nI k)).toNatClampNeg)] SHF M) (Q10 : Int32 → aM → Int32 → aM → Prop) (c11 : ∀ (h2 : ¬ ((M.1 74 (nI p).toNatClampNeg : Int32) ≤ (nI k : Int32))), ∀ (y7 : Int32), ∀ (M7 : aM), ∀ (e7 : M7.2.2 = M.2.2), ∀ (q7 : Q7 y7 M7), ∀ (h9 : ¬ (y7 : Int32) = 0), AC l (pI pg 213) (fcI M7 (Q10 y7 M7)) 0 0 [.ref 58, .int (nI p), .int (M.1 73 ((((Int16.ofInt 256).toInt32) * (nI p)) + (nI k)).toNatClampNeg)] SHF M7) (k12 : ∀ (h2 : ¬ ((M.1 74 (nI p).toNatClampNeg : Int32) ≤ (nI k : Int32))), ∀ (y7 : Int32), ∀ (M7 : aM), ∀ (e7 : M7.2.2 = M.2.2), ∀ (q7 : Q7 y7 M7), ∀ (h9 : ¬ (y7 : Int32) = 0), ∀ (y10 : Int32), ∀ (M10 : aM), ∀ (e10 : M10.2.2 = M7.2.2), ∀ (q10 : (Q10 y7 M7) y10 M10), AW l (pI pg 211) P kc ks 130 [(6, .int (Int32.ofInt 0)), (5, .int (y10)), (4, .int (M.1 73 ((((Int16.ofInt 256).toInt32) * (nI p)) + (nI k)).toNatClampNeg)), (3, .int (nI k)), (2, .int (nI p)), (0, .ref 58), (1, .int (nI left))] [] SHF M10) (k13 : ∀ (h2 : ¬ ((M.1 74 (nI p).toNatClampNeg : Int32) ≤ (nI k : Int32))), ∀ (y7 : Int32), ∀ (M7 : aM), ∀ (e7 : M7.2.2 = M.2.2), ∀ (q7 : Q7 y7 M7), ∀ (h9 : (y7 : Int32) = 0), AW l (pI pg 211) P kc ks 81 [(3, .int ((nI k) + Int32.ofInt 1)), (2, .int (nI p)), (0, .ref 58), (1, .int (nI left))] [] SHF M7) : AW l (pI pg 211) P kc ks 81 [(3, .int (nI k)), (2, .int (nI p)), (0, .ref 58), (1, .int (nI left))] [] SHF M := by
  refine AW.iload_n (dq rfl) rfl ?_
  show AW l (pI pg 211) P kc ks 82 _ _ SHF _
  refine AW.aload_n (dq rfl) rfl rfl ?_
  show AW l (pI pg 211) P kc ks 83 _ _ SHF _
  refine fw_get (dq rfl) (pg_ok.2.1 211 _ _ _ _ rfl) rfl (v := .ref 74) (isTA_ok rfl (rgR_ok hJ rfl)) ?_
  show AW l (pI pg 211) P kc ks 86 _ _ SHF _
  refine AW.iload_n (dq rfl) rfl ?_
  show AW l (pI pg 211) P kc ks 87 _ _ SHF _
  refine AW.iald (dq rfl) rfl (o1) ?_
  show AW l (pI pg 211) P kc ks 88 _ _ SHF _
  refine AW.icmp_ge (dq rfl) (tgt := 218) (by decide) (fun h2 => ?_) (fun h2 => ?_)
  · have _ := h2
    refine AW.aload_n (dq rfl) rfl rfl ?_
    show AW l (pI pg 211) P kc ks 219 _ _ SHF _
    refine AW.aload_n (dq rfl) rfl rfl ?_
    show AW l (pI pg 211) P kc ks 220 _ _ SHF _
    refine fw_get (dq rfl) (pg_ok.2.1 211 _ _ _ _ rfl) rfl (v := .ref 78) (isTA_ok rfl (rgR_ok hJ rfl)) ?_
    show AW l (pI pg 211) P kc ks 223 _ _ SHF _
    refine AW.aload_n (dq rfl) rfl rfl ?_
    show AW l (pI pg 211) P kc ks 224 _ _ SHF _
    refine fw_get (dq rfl) (pg_ok.2.1 211 _ _ _ _ rfl) rfl (v := .ref 77) (isTA_ok rfl (rgR_ok hJ rfl)) ?_
    show AW l (pI pg 211) P kc ks 227 _ _ SHF _
    refine fw_callVV (as := [.ref 78, .ref 77]) (dq rfl) (pg_ok.2.2.1 211 _ _ _ _ rfl) rfl (by decide +kernel) rfl rfl (c4 h2) (fun M3 e3 q3 => ?_)
    have hJ3 : ∀ e ∈ RM, M3.2.2 e.1 e.2.1 = e.2.2 := fun e he => by rw [e3]; exact hJ e he
    show AW l (pI pg 211) P kc ks 230 [(3, .int (nI k)), (2, .int (nI p)), (0, .ref 58), (1, .int (nI left))] [] SHF _
    refine AW.iinc (dq rfl) rfl (by decide +kernel) ?_
    show AW l (pI pg 211) P kc ks 233 [(2, .int ((nI p) + Int32.ofInt 1)), (3, .int (nI k)), (0, .ref 58), (1, .int (nI left))] [] SHF _
    refine AW.goto (dq rfl) (tgt := 35) (by decide) ?_
    refine AW.drop (lv' := [(2, .int ((nI p) + Int32.ofInt 1)), (0, .ref 58), (1, .int (nI left))]) (List.forall_mem_cons.mpr ⟨List.mem_of_getElem? (i := 0) rfl, List.forall_mem_cons.mpr ⟨List.mem_of_getElem? (i := 2) rfl, List.forall_mem_cons.mpr ⟨List.mem_of_getElem? (i := 3) rfl, fun _ h => absurd h List.not_mem_nil⟩⟩⟩) ?_
    exact k5 h2 M3 e3 q3
  · have _ := h2
    refine AW.aload_n (dq rfl) rfl rfl ?_
    show AW l (pI pg 211) P kc ks 92 _ _ SHF _
    refine fw_get (dq rfl) (pg_ok.2.1 211 _ _ _ _ rfl) rfl (v := .ref 73) (isTA_ok rfl (rgR_ok hJ rfl)) ?_
    show AW l (pI pg 211) P kc ks 95 _ _ SHF _
    refine AW.sipush (dq rfl) ?_
    show AW l (pI pg 211) P kc ks 98 _ _ SHF _
    refine AW.iload_n (dq rfl) rfl ?_
    show AW l (pI pg 211) P kc ks 99 _ _ SHF _
    refine AW.imul (dq rfl) ?_
    show AW l (pI pg 211) P kc ks 100 _ _ SHF _
    refine AW.iload_n (dq rfl) rfl ?_
    show AW l (pI pg 211) P kc ks 101 _ _ SHF _
    refine AW.iadd (dq rfl) ?_
    show AW l (pI pg 211) P kc ks 102 _ _ SHF _
    refine AW.iald (dq rfl) rfl (o6 h2) ?_
    show AW l (pI pg 211) P kc ks 103 _ _ SHF _
    refine AW.istore (dq rfl) (by decide +kernel) ?_
    show AW l (pI pg 211) P kc ks 105 [(4, .int (M.1 73 ((((Int16.ofInt 256).toInt32) * (nI p)) + (nI k)).toNatClampNeg)), (3, .int (nI k)), (2, .int (nI p)), (0, .ref 58), (1, .int (nI left))] [] SHF _
    refine AW.aload_n (dq rfl) rfl rfl ?_
    show AW l (pI pg 211) P kc ks 106 _ _ SHF _
    refine AW.iload_n (dq rfl) rfl ?_
    show AW l (pI pg 211) P kc ks 107 _ _ SHF _
    refine AW.iload (dq rfl) rfl ?_
    show AW l (pI pg 211) P kc ks 109 _ _ SHF _
    refine fw_callVI (as := [.int (nI p), .int (M.1 73 ((((Int16.ofInt 256).toInt32) * (nI p)) + (nI k)).toNatClampNeg)]) (dq rfl) (pg_ok.2.2.1 211 _ _ _ _ rfl) rfl (by decide +kernel) rfl rfl (c8 h2) (fun y7 M7 e7 q7 => ?_)
    have hJ7 : ∀ e ∈ RM, M7.2.2 e.1 e.2.1 = e.2.2 := fun e he => by rw [e7]; exact hJ e he
    show AW l (pI pg 211) P kc ks 112 [(4, .int (M.1 73 ((((Int16.ofInt 256).toInt32) * (nI p)) + (nI k)).toNatClampNeg)), (3, .int (nI k)), (2, .int (nI p)), (0, .ref 58), (1, .int (nI left))] [.int (y7)] SHF _
    refine AW.if_ne (dq rfl) (tgt := 118) (by decide) (fun h9 => ?_) (fun h9 => ?_)
    · have _ := h9
      refine AW.aload_n (dq rfl) rfl rfl ?_
      show AW l (pI pg 211) P kc ks 119 _ _ SHF _
      refine AW.iload_n (dq rfl) rfl ?_
      show AW l (pI pg 211) P kc ks 120 _ _ SHF _
      refine AW.iload (dq rfl) rfl ?_
      show AW l (pI pg 211) P kc ks 122 _ _ SHF _
      refine fw_callVI (as := [.int (nI p), .int (M.1 73 ((((Int16.ofInt 256).toInt32) * (nI p)) + (nI k)).toNatClampNeg)]) (dq rfl) (pg_ok.2.2.1 211 _ _ _ _ rfl) rfl (by decide +kernel) rfl rfl (c11 h2 y7 M7 e7 q7 h9) (fun y10 M10 e10 q10 => ?_)
      have hJ10 : ∀ e ∈ RM, M10.2.2 e.1 e.2.1 = e.2.2 := fun e he => by rw [e10]; exact hJ7 e he
      show AW l (pI pg 211) P kc ks 125 [(4, .int (M.1 73 ((((Int16.ofInt 256).toInt32) * (nI p)) + (nI k)).toNatClampNeg)), (3, .int (nI k)), (2, .int (nI p)), (0, .ref 58), (1, .int (nI left))] [.int (y10)] SHF _
      refine AW.istore (dq rfl) (by decide +kernel) ?_
      show AW l (pI pg 211) P kc ks 127 [(5, .int (y10)), (4, .int (M.1 73 ((((Int16.ofInt 256).toInt32) * (nI p)) + (nI k)).toNatClampNeg)), (3, .int (nI k)), (2, .int (nI p)), (0, .ref 58), (1, .int (nI left))] [] SHF _
      refine AW.iconst (dq rfl) ?_
      show AW l (pI pg 211) P kc ks 128 _ _ SHF _
      refine AW.istore (dq rfl) (by decide +kernel) ?_
      show AW l (pI pg 211) P kc ks 130 [(6, .int (Int32.ofInt 0)), (5, .int (y10)), (4, .int (M.1 73 ((((Int16.ofInt 256).toInt32) * (nI p)) + (nI k)).toNatClampNeg)), (3, .int (nI k)), (2, .int (nI p)), (0, .ref 58), (1, .int (nI left))] [] SHF _
      refine AW.drop (lv' := [(6, .int (Int32.ofInt 0)), (5, .int (y10)), (4, .int (M.1 73 ((((Int16.ofInt 256).toInt32) * (nI p)) + (nI k)).toNatClampNeg)), (3, .int (nI k)), (2, .int (nI p)), (0, .ref 58), (1, .int (nI left))]) (List.forall_mem_cons.mpr ⟨List.mem_of_getElem? (i := 0) rfl, List.forall_mem_cons.mpr ⟨List.mem_of_getElem? (i := 1) rfl, List.forall_mem_cons.mpr ⟨List.mem_of_getElem? (i := 2) rfl, List.forall_mem_cons.mpr ⟨List.mem_of_getElem? (i := 3) rfl, List.forall_mem_cons.mpr ⟨List.mem_of_getElem? (i := 4) rfl, List.forall_mem_cons.mpr ⟨List.mem_of_getElem? (i := 5) rfl, List.forall_mem_cons.mpr ⟨List.mem_of_getElem? (i := 6) rfl, fun _ h => absurd h List.not_mem_nil⟩⟩⟩⟩⟩⟩⟩) ?_
      exact k12 h2 y7 M7 e7 q7 h9 y10 M10 e10 q10
    · have _ := h9
      refine AW.goto (dq rfl) (tgt := 212) (by decide) ?_
      refine AW.iinc (dq rfl) rfl (by decide +kernel) ?_
      show AW l (pI pg 211) P kc ks 215 [(3, .int ((nI k) + Int32.ofInt 1)), (4, .int (M.1 73 ((((Int16.ofInt 256).toInt32) * (nI p)) + (nI k)).toNatClampNeg)), (2, .int (nI p)), (0, .ref 58), (1, .int (nI left))] [] SHF _
      refine AW.goto (dq rfl) (tgt := 81) (by decide) ?_
      refine AW.drop (lv' := [(3, .int ((nI k) + Int32.ofInt 1)), (2, .int (nI p)), (0, .ref 58), (1, .int (nI left))]) (List.forall_mem_cons.mpr ⟨List.mem_of_getElem? (i := 0) rfl, List.forall_mem_cons.mpr ⟨List.mem_of_getElem? (i := 2) rfl, List.forall_mem_cons.mpr ⟨List.mem_of_getElem? (i := 3) rfl, List.forall_mem_cons.mpr ⟨List.mem_of_getElem? (i := 4) rfl, fun _ h => absurd h List.not_mem_nil⟩⟩⟩⟩) ?_
      exact k13 h2 y7 M7 e7 q7 h9

theorem s210_130 {l : aL} {P : aP} {kc ks : Nat} {s q k p left : Nat} {v : Int32} {M : aM} (hJ : ∀ e ∈ RM, M.2.2 e.1 e.2.1 = e.2.2)  (k2 : ∀ (h1 : ((Int32.ofInt 1) <<< ((M.1 58 2) &&& 31) : Int32) ≤ (nI s : Int32)), AW l (pI pg 211) P kc ks 81 [(3, .int ((nI k) + Int32.ofInt 1)), (2, .int (nI p)), (0, .ref 58), (1, .int (nI left))] [] SHF M) (o3 : ∀ (h1 : ¬ (((Int32.ofInt 1) <<< ((M.1 58 2) &&& 31) : Int32) ≤ (nI s : Int32))), vp_in (nI s) 256) (k5 : ∀ (h1 : ¬ (((Int32.ofInt 1) <<< ((M.1 58 2) &&& 31) : Int32) ≤ (nI s : Int32))), ∀ (h4 : (M.1 77 (nI s).toNatClampNeg : Int32) = (Int32.ofInt (-1) : Int32)), AW l (pI pg 211) P kc ks 130 [(6, .int ((nI s) + Int32.ofInt 1)), (5, .int (v)), (4, .int (nI q)), (3, .int (nI k)), (2, .int (nI p)), (0, .ref 58), (1, .int (nI left))] [] SHF M) (k7 : ∀ (h1 : ¬ (((Int32.ofInt 1) <<< ((M.1 58 2) &&& 31) : Int32) ≤ (nI s : Int32))), ∀ (h4 : ¬ ((M.1 77 (nI s).toNatClampNeg : Int32) = (Int32.ofInt (-1) : Int32))), ∀ (h6 : ¬ ((nI s) &&& (nI q) : Int32) = 0), AW l (pI pg 211) P kc ks 130 [(6, .int ((nI s) + Int32.ofInt 1)), (5, .int (v)), (4, .int (nI q)), (3, .int (nI k)), (2, .int (nI p)), (0, .ref 58), (1, .int (nI left))] [] SHF M) (o8 : ∀ (h1 : ¬ (((Int32.ofInt 1) <<< ((M.1 58 2) &&& 31) : Int32) ≤ (nI s : Int32))), ∀ (h4 : ¬ ((M.1 77 (nI s).toNatClampNeg : Int32) = (Int32.ofInt (-1) : Int32))), ∀ (h6 : ((nI s) &&& (nI q) : Int32) = 0), vp_in ((nI s) ||| (nI q)) 256) (k10 : ∀ (h1 : ¬ (((Int32.ofInt 1) <<< ((M.1 58 2) &&& 31) : Int32) ≤ (nI s : Int32))), ∀ (h4 : ¬ ((M.1 77 (nI s).toNatClampNeg : Int32) = (Int32.ofInt (-1) : Int32))), ∀ (h6 : ((nI s) &&& (nI q) : Int32) = 0), ∀ (h9 : (M.1 78 ((nI s) ||| (nI q)).toNatClampNeg : Int32) < ((M.1 77 (nI s).toNatClampNeg) + (v) : Int32)), AW l (pI pg 211) P kc ks 130 [(6, .int ((nI s) + Int32.ofInt 1)), (5, .int (v)), (4, .int (nI q)), (3, .int (nI k)), (2, .int (nI p)), (0, .ref 58), (1, .int (nI left))] [] SHF (aset M 78 ((nI s) ||| (nI q)).toNatClampNeg (.int ((M.1 77 (nI s).toNatClampNeg) + (v))))) (k11 : ∀ (h1 : ¬ (((Int32.ofInt 1) <<< ((M.1 58 2) &&& 31) : Int32) ≤ (nI s : Int32))), ∀ (h4 : ¬ ((M.1 77 (nI s).toNatClampNeg : Int32) = (Int32.ofInt (-1) : Int32))), ∀ (h6 : ((nI s) &&& (nI q) : Int32) = 0), ∀ (h9 : ¬ ((M.1 78 ((nI s) ||| (nI q)).toNatClampNeg : Int32) < ((M.1 77 (nI s).toNatClampNeg) + (v) : Int32))), AW l (pI pg 211) P kc ks 130 [(6, .int ((nI s) + Int32.ofInt 1)), (5, .int (v)), (4, .int (nI q)), (3, .int (nI k)), (2, .int (nI p)), (0, .ref 58), (1, .int (nI left))] [] SHF M) : AW l (pI pg 211) P kc ks 130 [(6, .int (nI s)), (5, .int (v)), (4, .int (nI q)), (3, .int (nI k)), (2, .int (nI p)), (0, .ref 58), (1, .int (nI left))] [] SHF M := by
  refine AW.iload (dq rfl) rfl ?_
  show AW l (pI pg 211) P kc ks 132 _ _ SHF _
  refine AW.iconst (dq rfl) ?_
  show AW l (pI pg 211) P kc ks 133 _ _ SHF _
  refine AW.aload_n (dq rfl) rfl rfl ?_
  show AW l (pI pg 211) P kc ks 134 _ _ SHF _
  refine fw_get (dq rfl) (pg_ok.2.1 211 _ _ _ _ rfl) rfl (v := .int (M.1 58 2)) rfl ?_
  show AW l (pI pg 211) P kc ks 137 _ _ SHF _
  refine AW.ishl (dq rfl) ?_
  show AW l (pI pg 211) P kc ks 138 _ _ SHF _
  refine AW.icmp_ge (dq rfl) (tgt := 212) (by decide) (fun h1 => ?_) (fun h1 => ?_)
  · have _ := h1
    refine AW.iinc (dq rfl) rfl (by decide +kernel) ?_
    show AW l (pI pg 211) P kc ks 215 [(3, .int ((nI k) + Int32.ofInt 1)), (6, .int (nI s)), (5, .int (v)), (4, .int (nI q)), (2, .int (nI p)), (0, .ref 58), (1, .int (nI left))] [] SHF _
    refine AW.goto (dq rfl) (tgt := 81) (by decide) ?_
    refine AW.drop (lv' := [(3, .int ((nI k) + Int32.ofInt 1)), (2, .int (nI p)), (0, .ref 58), (1, .int (nI left))]) (List.forall_mem_cons.mpr ⟨List.mem_of_getElem? (i := 0) rfl, List.forall_mem_cons.mpr ⟨List.mem_of_getElem? (i := 4) rfl, List.forall_mem_cons.mpr ⟨List.mem_of_getElem? (i := 5) rfl, List.forall_mem_cons.mpr ⟨List.mem_of_getElem? (i := 6) rfl, fun _ h => absurd h List.not_mem_nil⟩⟩⟩⟩) ?_
    exact k2 h1
  · have _ := h1
    refine AW.aload_n (dq rfl) rfl rfl ?_
    show AW l (pI pg 211) P kc ks 142 _ _ SHF _
    refine fw_get (dq rfl) (pg_ok.2.1 211 _ _ _ _ rfl) rfl (v := .ref 77) (isTA_ok rfl (rgR_ok hJ rfl)) ?_
    show AW l (pI pg 211) P kc ks 145 _ _ SHF _
    refine AW.iload (dq rfl) rfl ?_
    show AW l (pI pg 211) P kc ks 147 _ _ SHF _
    refine AW.iald (dq rfl) rfl (o3 h1) ?_
    show AW l (pI pg 211) P kc ks 148 _ _ SHF _
    refine AW.iconst (dq rfl) ?_
    show AW l (pI pg 211) P kc ks 149 _ _ SHF _
    refine AW.icmp_eq (dq rfl) (tgt := 206) (by decide) (fun h4 => ?_) (fun h4 => ?_)
    · have _ := h4
      refine AW.iinc (dq rfl) rfl (by decide +kernel) ?_
      show AW l (pI pg 211) P kc ks 209 [(6, .int ((nI s) + Int32.ofInt 1)), (5, .int (v)), (4, .int (nI q)), (3, .int (nI k)), (2, .int (nI p)), (0, .ref 58), (1, .int (nI left))] [] SHF _
      refine AW.goto (dq rfl) (tgt := 130) (by decide) ?_
      refine AW.drop (lv' := [(6, .int ((nI s) + Int32.ofInt 1)), (5, .int (v)), (4, .int (nI q)), (3, .int (nI k)), (2, .int (nI p)), (0, .ref 58), (1, .int (nI left))]) (List.forall_mem_cons.mpr ⟨List.mem_of_getElem? (i := 0) rfl, List.forall_mem_cons.mpr ⟨List.mem_of_getElem? (i := 1) rfl, List.forall_mem_cons.mpr ⟨List.mem_of_getElem? (i := 2) rfl, List.forall_mem_cons.mpr ⟨List.mem_of_getElem? (i := 3) rfl, List.forall_mem_cons.mpr ⟨List.mem_of_getElem? (i := 4) rfl, List.forall_mem_cons.mpr ⟨List.mem_of_getElem? (i := 5) rfl, List.forall_mem_cons.mpr ⟨List.mem_of_getElem? (i := 6) rfl, fun _ h => absurd h List.not_mem_nil⟩⟩⟩⟩⟩⟩⟩) ?_
      exact k5 h1 h4
    · have _ := h4
      refine AW.iload (dq rfl) rfl ?_
      show AW l (pI pg 211) P kc ks 154 _ _ SHF _
      refine AW.iload (dq rfl) rfl ?_
      show AW l (pI pg 211) P kc ks 156 _ _ SHF _
      refine AW.iand (dq rfl) ?_
      show AW l (pI pg 211) P kc ks 157 _ _ SHF _
      refine AW.if_ne (dq rfl) (tgt := 206) (by decide) (fun h6 => ?_) (fun h6 => ?_)
      · have _ := h6
        refine AW.iinc (dq rfl) rfl (by decide +kernel) ?_
        show AW l (pI pg 211) P kc ks 209 [(6, .int ((nI s) + Int32.ofInt 1)), (5, .int (v)), (4, .int (nI q)), (3, .int (nI k)), (2, .int (nI p)), (0, .ref 58), (1, .int (nI left))] [] SHF _
        refine AW.goto (dq rfl) (tgt := 130) (by decide) ?_
        refine AW.drop (lv' := [(6, .int ((nI s) + Int32.ofInt 1)), (5, .int (v)), (4, .int (nI q)), (3, .int (nI k)), (2, .int (nI p)), (0, .ref 58), (1, .int (nI left))]) (List.forall_mem_cons.mpr ⟨List.mem_of_getElem? (i := 0) rfl, List.forall_mem_cons.mpr ⟨List.mem_of_getElem? (i := 1) rfl, List.forall_mem_cons.mpr ⟨List.mem_of_getElem? (i := 2) rfl, List.forall_mem_cons.mpr ⟨List.mem_of_getElem? (i := 3) rfl, List.forall_mem_cons.mpr ⟨List.mem_of_getElem? (i := 4) rfl, List.forall_mem_cons.mpr ⟨List.mem_of_getElem? (i := 5) rfl, List.forall_mem_cons.mpr ⟨List.mem_of_getElem? (i := 6) rfl, fun _ h => absurd h List.not_mem_nil⟩⟩⟩⟩⟩⟩⟩) ?_
        exact k7 h1 h4 h6
      · have _ := h6
        refine AW.aload_n (dq rfl) rfl rfl ?_
        show AW l (pI pg 211) P kc ks 161 _ _ SHF _
        refine fw_get (dq rfl) (pg_ok.2.1 211 _ _ _ _ rfl) rfl (v := .ref 77) (isTA_ok rfl (rgR_ok hJ rfl)) ?_
        show AW l (pI pg 211) P kc ks 164 _ _ SHF _
        refine AW.iload (dq rfl) rfl ?_
        show AW l (pI pg 211) P kc ks 166 _ _ SHF _
        refine AW.iald (dq rfl) rfl (o3 h1) ?_
        show AW l (pI pg 211) P kc ks 167 _ _ SHF _
        refine AW.iload (dq rfl) rfl ?_
        show AW l (pI pg 211) P kc ks 169 _ _ SHF _
        refine AW.iadd (dq rfl) ?_
        show AW l (pI pg 211) P kc ks 170 _ _ SHF _
        refine AW.aload_n (dq rfl) rfl rfl ?_
        show AW l (pI pg 211) P kc ks 171 _ _ SHF _
        refine fw_get (dq rfl) (pg_ok.2.1 211 _ _ _ _ rfl) rfl (v := .ref 78) (isTA_ok rfl (rgR_ok hJ rfl)) ?_
        show AW l (pI pg 211) P kc ks 174 _ _ SHF _
        refine AW.iload (dq rfl) rfl ?_
        show AW l (pI pg 211) P kc ks 176 _ _ SHF _
        refine AW.iload (dq rfl) rfl ?_
        show AW l (pI pg 211) P kc ks 178 _ _ SHF _
        refine AW.ior (dq rfl) ?_
        show AW l (pI pg 211) P kc ks 179 _ _ SHF _
        refine AW.iald (dq rfl) rfl (o8 h1 h4 h6) ?_
        show AW l (pI pg 211) P kc ks 180 _ _ SHF _
        refine AW.icmp_gt (dq rfl) (tgt := 186) (by decide) (fun h9 => ?_) (fun h9 => ?_)
        · have _ := h9
          refine AW.aload_n (dq rfl) rfl rfl ?_
          show AW l (pI pg 211) P kc ks 187 _ _ SHF _
          refine fw_get (dq rfl) (pg_ok.2.1 211 _ _ _ _ rfl) rfl (v := .ref 78) (isTA_ok rfl (rgR_ok hJ rfl)) ?_
          show AW l (pI pg 211) P kc ks 190 _ _ SHF _
          refine AW.iload (dq rfl) rfl ?_
          show AW l (pI pg 211) P kc ks 192 _ _ SHF _
          refine AW.iload (dq rfl) rfl ?_
          show AW l (pI pg 211) P kc ks 194 _ _ SHF _
          refine AW.ior (dq rfl) ?_
          show AW l (pI pg 211) P kc ks 195 _ _ SHF _
          refine AW.aload_n (dq rfl) rfl rfl ?_
          show AW l (pI pg 211) P kc ks 196 _ _ SHF _
          refine fw_get (dq rfl) (pg_ok.2.1 211 _ _ _ _ rfl) rfl (v := .ref 77) (isTA_ok rfl (rgR_ok hJ rfl)) ?_
          show AW l (pI pg 211) P kc ks 199 _ _ SHF _
          refine AW.iload (dq rfl) rfl ?_
          show AW l (pI pg 211) P kc ks 201 _ _ SHF _
          refine AW.iald (dq rfl) rfl (o3 h1) ?_
          show AW l (pI pg 211) P kc ks 202 _ _ SHF _
          refine AW.iload (dq rfl) rfl ?_
          show AW l (pI pg 211) P kc ks 204 _ _ SHF _
          refine AW.iadd (dq rfl) ?_
          show AW l (pI pg 211) P kc ks 205 _ _ SHF _
          refine AW.iast (dq rfl) rfl (o8 h1 h4 h6) ?_
          show AW l (pI pg 211) P kc ks 206 _ _ SHF _
          refine AW.iinc (dq rfl) rfl (by decide +kernel) ?_
          show AW l (pI pg 211) P kc ks 209 [(6, .int ((nI s) + Int32.ofInt 1)), (5, .int (v)), (4, .int (nI q)), (3, .int (nI k)), (2, .int (nI p)), (0, .ref 58), (1, .int (nI left))] [] SHF _
          refine AW.goto (dq rfl) (tgt := 130) (by decide) ?_
          refine AW.drop (lv' := [(6, .int ((nI s) + Int32.ofInt 1)), (5, .int (v)), (4, .int (nI q)), (3, .int (nI k)), (2, .int (nI p)), (0, .ref 58), (1, .int (nI left))]) (List.forall_mem_cons.mpr ⟨List.mem_of_getElem? (i := 0) rfl, List.forall_mem_cons.mpr ⟨List.mem_of_getElem? (i := 1) rfl, List.forall_mem_cons.mpr ⟨List.mem_of_getElem? (i := 2) rfl, List.forall_mem_cons.mpr ⟨List.mem_of_getElem? (i := 3) rfl, List.forall_mem_cons.mpr ⟨List.mem_of_getElem? (i := 4) rfl, List.forall_mem_cons.mpr ⟨List.mem_of_getElem? (i := 5) rfl, List.forall_mem_cons.mpr ⟨List.mem_of_getElem? (i := 6) rfl, fun _ h => absurd h List.not_mem_nil⟩⟩⟩⟩⟩⟩⟩) ?_
          exact k10 h1 h4 h6 h9
        · have _ := h9
          refine AW.goto (dq rfl) (tgt := 206) (by decide) ?_
          refine AW.iinc (dq rfl) rfl (by decide +kernel) ?_
          show AW l (pI pg 211) P kc ks 209 [(6, .int ((nI s) + Int32.ofInt 1)), (5, .int (v)), (4, .int (nI q)), (3, .int (nI k)), (2, .int (nI p)), (0, .ref 58), (1, .int (nI left))] [] SHF _
          refine AW.goto (dq rfl) (tgt := 130) (by decide) ?_
          refine AW.drop (lv' := [(6, .int ((nI s) + Int32.ofInt 1)), (5, .int (v)), (4, .int (nI q)), (3, .int (nI k)), (2, .int (nI p)), (0, .ref 58), (1, .int (nI left))]) (List.forall_mem_cons.mpr ⟨List.mem_of_getElem? (i := 0) rfl, List.forall_mem_cons.mpr ⟨List.mem_of_getElem? (i := 1) rfl, List.forall_mem_cons.mpr ⟨List.mem_of_getElem? (i := 2) rfl, List.forall_mem_cons.mpr ⟨List.mem_of_getElem? (i := 3) rfl, List.forall_mem_cons.mpr ⟨List.mem_of_getElem? (i := 4) rfl, List.forall_mem_cons.mpr ⟨List.mem_of_getElem? (i := 5) rfl, List.forall_mem_cons.mpr ⟨List.mem_of_getElem? (i := 6) rfl, fun _ h => absurd h List.not_mem_nil⟩⟩⟩⟩⟩⟩⟩) ?_
          exact k11 h1 h4 h6 h9

theorem s241_0 {l : aL} {P : aP} {kc ks : Nat} {M : aM} (hJ : ∀ e ∈ RM, M.2.2 e.1 e.2.1 = e.2.2)  (k1 : AW l (pI pg 242) P kc ks 4 [(2, .int (Int32.ofInt 0)), (1, .int (Int32.ofInt 0)), (0, .ref 58)] [] SHF M) : AW l (pI pg 242) P kc ks 0 [(0, .ref 58)] [] SHF M := by
  refine AW.iconst (dq rfl) ?_
  show AW l (pI pg 242) P kc ks 1 _ _ SHF _
  refine AW.istore_n (dq rfl) (by decide +kernel) ?_
  show AW l (pI pg 242) P kc ks 2 [(1, .int (Int32.ofInt 0)), (0, .ref 58)] [] SHF _
  refine AW.iconst (dq rfl) ?_
  show AW l (pI pg 242) P kc ks 3 _ _ SHF _
  refine AW.istore_n (dq rfl) (by decide +kernel) ?_
  show AW l (pI pg 242) P kc ks 4 [(2, .int (Int32.ofInt 0)), (1, .int (Int32.ofInt 0)), (0, .ref 58)] [] SHF _
  refine AW.drop (lv' := [(2, .int (Int32.ofInt 0)), (1, .int (Int32.ofInt 0)), (0, .ref 58)]) (List.forall_mem_cons.mpr ⟨List.mem_of_getElem? (i := 0) rfl, List.forall_mem_cons.mpr ⟨List.mem_of_getElem? (i := 1) rfl, List.forall_mem_cons.mpr ⟨List.mem_of_getElem? (i := 2) rfl, fun _ h => absurd h List.not_mem_nil⟩⟩⟩) ?_
  exact k1

theorem s241_4 {l : aL} {P : aP} {kc ks : Nat} {s : Nat} {v : Int32} {M : aM} (hJ : ∀ e ∈ RM, M.2.2 e.1 e.2.1 = e.2.2)  (r2 : ∀ (h1 : ((Int32.ofInt 1) <<< ((M.1 58 2) &&& 31) : Int32) ≤ (nI s : Int32)), P (.inl (some (.int (v)))) SHF M) (o3 : ∀ (h1 : ¬ (((Int32.ofInt 1) <<< ((M.1 58 2) &&& 31) : Int32) ≤ (nI s : Int32))), vp_in (nI s) 256) (k5 : ∀ (h1 : ¬ (((Int32.ofInt 1) <<< ((M.1 58 2) &&& 31) : Int32) ≤ (nI s : Int32))), ∀ (h4 : (M.1 77 (nI s).toNatClampNeg : Int32) ≤ (v : Int32)), AW l (pI pg 242) P kc ks 4 [(2, .int ((nI s) + Int32.ofInt 1)), (1, .int (v)), (0, .ref 58)] [] SHF M) (k6 : ∀ (h1 : ¬ (((Int32.ofInt 1) <<< ((M.1 58 2) &&& 31) : Int32) ≤ (nI s : Int32))), ∀ (h4 : ¬ ((M.1 77 (nI s).toNatClampNeg : Int32) ≤ (v : Int32))), AW l (pI pg 242) P kc ks 4 [(2, .int ((nI s) + Int32.ofInt 1)), (1, .int (M.1 77 (nI s).toNatClampNeg)), (0, .ref 58)] [] SHF M) : AW l (pI pg 242) P kc ks 4 [(2, .int (nI s)), (1, .int (v)), (0, .ref 58)] [] SHF M := by
  refine AW.iload_n (dq rfl) rfl ?_
  show AW l (pI pg 242) P kc ks 5 _ _ SHF _
  refine AW.iconst (dq rfl) ?_
  show AW l (pI pg 242) P kc ks 6 _ _ SHF _
  refine AW.aload_n (dq rfl) rfl rfl ?_
  show AW l (pI pg 242) P kc ks 7 _ _ SHF _
  refine fw_get (dq rfl) (pg_ok.2.1 242 _ _ _ _ rfl) rfl (v := .int (M.1 58 2)) rfl ?_
  show AW l (pI pg 242) P kc ks 10 _ _ SHF _
  refine AW.ishl (dq rfl) ?_
  show AW l (pI pg 242) P kc ks 11 _ _ SHF _
  refine AW.icmp_ge (dq rfl) (tgt := 41) (by decide) (fun h1 => ?_) (fun h1 => ?_)
  · have _ := h1
    refine AW.iload_n (dq rfl) rfl ?_
    show AW l (pI pg 242) P kc ks 42 _ _ SHF _
    refine AW.iret (dq rfl) rfl ?_
    exact r2 h1
  · have _ := h1
    refine AW.aload_n (dq rfl) rfl rfl ?_
    show AW l (pI pg 242) P kc ks 15 _ _ SHF _
    refine fw_get (dq rfl) (pg_ok.2.1 242 _ _ _ _ rfl) rfl (v := .ref 77) (isTA_ok rfl (rgR_ok hJ rfl)) ?_
    show AW l (pI pg 242) P kc ks 18 _ _ SHF _
    refine AW.iload_n (dq rfl) rfl ?_
    show AW l (pI pg 242) P kc ks 19 _ _ SHF _
    refine AW.iald (dq rfl) rfl (o3 h1) ?_
    show AW l (pI pg 242) P kc ks 20 _ _ SHF _
    refine AW.iload_n (dq rfl) rfl ?_
    show AW l (pI pg 242) P kc ks 21 _ _ SHF _
    refine AW.icmp_le (dq rfl) (tgt := 33) (by decide) (fun h4 => ?_) (fun h4 => ?_)
    · have _ := h4
      refine AW.iload_n (dq rfl) rfl ?_
      show AW l (pI pg 242) P kc ks 34 _ _ SHF _
      refine AW.istore_n (dq rfl) (by decide +kernel) ?_
      show AW l (pI pg 242) P kc ks 35 [(1, .int (v)), (2, .int (nI s)), (0, .ref 58)] [] SHF _
      refine AW.iinc (dq rfl) rfl (by decide +kernel) ?_
      show AW l (pI pg 242) P kc ks 38 [(2, .int ((nI s) + Int32.ofInt 1)), (1, .int (v)), (0, .ref 58)] [] SHF _
      refine AW.goto (dq rfl) (tgt := 4) (by decide) ?_
      refine AW.drop (lv' := [(2, .int ((nI s) + Int32.ofInt 1)), (1, .int (v)), (0, .ref 58)]) (List.forall_mem_cons.mpr ⟨List.mem_of_getElem? (i := 0) rfl, List.forall_mem_cons.mpr ⟨List.mem_of_getElem? (i := 1) rfl, List.forall_mem_cons.mpr ⟨List.mem_of_getElem? (i := 2) rfl, fun _ h => absurd h List.not_mem_nil⟩⟩⟩) ?_
      exact k5 h1 h4
    · have _ := h4
      refine AW.aload_n (dq rfl) rfl rfl ?_
      show AW l (pI pg 242) P kc ks 25 _ _ SHF _
      refine fw_get (dq rfl) (pg_ok.2.1 242 _ _ _ _ rfl) rfl (v := .ref 77) (isTA_ok rfl (rgR_ok hJ rfl)) ?_
      show AW l (pI pg 242) P kc ks 28 _ _ SHF _
      refine AW.iload_n (dq rfl) rfl ?_
      show AW l (pI pg 242) P kc ks 29 _ _ SHF _
      refine AW.iald (dq rfl) rfl (o3 h1) ?_
      show AW l (pI pg 242) P kc ks 30 _ _ SHF _
      refine AW.goto (dq rfl) (tgt := 34) (by decide) ?_
      refine AW.istore_n (dq rfl) (by decide +kernel) ?_
      show AW l (pI pg 242) P kc ks 35 [(1, .int (M.1 77 (nI s).toNatClampNeg)), (2, .int (nI s)), (0, .ref 58)] [] SHF _
      refine AW.iinc (dq rfl) rfl (by decide +kernel) ?_
      show AW l (pI pg 242) P kc ks 38 [(2, .int ((nI s) + Int32.ofInt 1)), (1, .int (M.1 77 (nI s).toNatClampNeg)), (0, .ref 58)] [] SHF _
      refine AW.goto (dq rfl) (tgt := 4) (by decide) ?_
      refine AW.drop (lv' := [(2, .int ((nI s) + Int32.ofInt 1)), (1, .int (M.1 77 (nI s).toNatClampNeg)), (0, .ref 58)]) (List.forall_mem_cons.mpr ⟨List.mem_of_getElem? (i := 0) rfl, List.forall_mem_cons.mpr ⟨List.mem_of_getElem? (i := 1) rfl, List.forall_mem_cons.mpr ⟨List.mem_of_getElem? (i := 2) rfl, fun _ h => absurd h List.not_mem_nil⟩⟩⟩) ?_
      exact k6 h1 h4

theorem s242_0 {l : aL} {P : aP} {kc ks : Nat} {x : Int32} {M : aM} (hJ : ∀ e ∈ RM, M.2.2 e.1 e.2.1 = e.2.2)  (Q1 : Int32 → aM → Prop) (c2 : AC l (pI pg 242) (fcI M Q1) 0 0 [.ref 58] SHF M) (r4 : ∀ (y1 : Int32), ∀ (M1 : aM), ∀ (e1 : M1.2.2 = M.2.2), ∀ (q1 : Q1 y1 M1), ∀ (h3 : ¬ (y1 : Int32) = (x : Int32)), P (.inl (some (.int (Int32.ofInt 0)))) SHF M1) (r5 : ∀ (y1 : Int32), ∀ (M1 : aM), ∀ (e1 : M1.2.2 = M.2.2), ∀ (q1 : Q1 y1 M1), ∀ (h3 : (y1 : Int32) = (x : Int32)), P (.inl (some (.int (Int32.ofInt 1)))) SHF M1) : AW l (pI pg 243) P kc ks 0 [(0, .ref 58), (1, .int (x))] [] SHF M := by
  refine AW.aload_n (dq rfl) rfl rfl ?_
  show AW l (pI pg 243) P kc ks 1 _ _ SHF _
  refine fw_callVI (as := []) (dq rfl) (pg_ok.2.2.1 243 _ _ _ _ rfl) rfl (by decide +kernel) rfl rfl (c2) (fun y1 M1 e1 q1 => ?_)
  have hJ1 : ∀ e ∈ RM, M1.2.2 e.1 e.2.1 = e.2.2 := fun e he => by rw [e1]; exact hJ e he
  show AW l (pI pg 243) P kc ks 4 [(0, .ref 58), (1, .int (x))] [.int (y1)] SHF _
  refine AW.iload_n (dq rfl) rfl ?_
  show AW l (pI pg 243) P kc ks 5 _ _ SHF _
  refine AW.icmp_ne (dq rfl) (tgt := 12) (by decide) (fun h3 => ?_) (fun h3 => ?_)
  · have _ := h3
    refine AW.iconst (dq rfl) ?_
    show AW l (pI pg 243) P kc ks 13 _ _ SHF _
    refine AW.zret (dq rfl) rfl (by decide) ?_
    exact r4 y1 M1 e1 q1 h3
  · have _ := h3
    refine AW.iconst (dq rfl) ?_
    show AW l (pI pg 243) P kc ks 9 _ _ SHF _
    refine AW.goto (dq rfl) (tgt := 13) (by decide) ?_
    refine AW.zret (dq rfl) rfl (by decide) ?_
    exact r5 y1 M1 e1 q1 h3

theorem s208_0 {l : aL} {P : aP} {kc ks : Nat} {left : Nat} {M : aM} (hJ : ∀ e ∈ RM, M.2.2 e.1 e.2.1 = e.2.2)  (Q1 : aM → Prop) (c2 : AC l (pI pg 210) (fcV M Q1) 0 0 [.ref 58] SHF M) (Q3 : aM → aM → Prop) (c4 : ∀ (M1 : aM), ∀ (e1 : M1.2.2 = M.2.2), ∀ (q1 : Q1 M1), AC l (pI pg 211) (fcV M1 (Q3 M1)) 0 0 [.ref 58, .int (nI left)] SHF M1) (o5 : ∀ (M1 : aM), ∀ (e1 : M1.2.2 = M.2.2), ∀ (q1 : Q1 M1), ∀ (M3 : aM), ∀ (e3 : M3.2.2 = M1.2.2), ∀ (q3 : (Q3 M1) M3), vp_in (((Int32.ofInt 1) <<< ((M3.1 58 2) &&& 31)) - (Int32.ofInt 1)) 256) (r7 : ∀ (M1 : aM), ∀ (e1 : M1.2.2 = M.2.2), ∀ (q1 : Q1 M1), ∀ (M3 : aM), ∀ (e3 : M3.2.2 = M1.2.2), ∀ (q3 : (Q3 M1) M3), ∀ (h6 : (M3.1 77 (((Int32.ofInt 1) <<< ((M3.1 58 2) &&& 31)) - (Int32.ofInt 1)).toNatClampNeg : Int32) = (Int32.ofInt (-1) : Int32)), P (.inl (some (.int (Int32.ofInt 0)))) SHF M3) (r8 : ∀ (M1 : aM), ∀ (e1 : M1.2.2 = M.2.2), ∀ (q1 : Q1 M1), ∀ (M3 : aM), ∀ (e3 : M3.2.2 = M1.2.2), ∀ (q3 : (Q3 M1) M3), ∀ (h6 : ¬ ((M3.1 77 (((Int32.ofInt 1) <<< ((M3.1 58 2) &&& 31)) - (Int32.ofInt 1)).toNatClampNeg : Int32) = (Int32.ofInt (-1) : Int32))), P (.inl (some (.int (Int32.ofInt 1)))) SHF M3) : AW l (pI pg 209) P kc ks 0 [(0, .ref 58), (1, .int (nI left))] [] SHF M := by
  refine AW.aload_n (dq rfl) rfl rfl ?_
  show AW l (pI pg 209) P kc ks 1 _ _ SHF _
  refine fw_callVV (as := []) (dq rfl) (pg_ok.2.2.1 209 _ _ _ _ rfl) rfl (by decide +kernel) rfl rfl (c2) (fun M1 e1 q1 => ?_)
  have hJ1 : ∀ e ∈ RM, M1.2.2 e.1 e.2.1 = e.2.2 := fun e he => by rw [e1]; exact hJ e he
  show AW l (pI pg 209) P kc ks 4 [(0, .ref 58), (1, .int (nI left))] [] SHF _
  refine AW.aload_n (dq rfl) rfl rfl ?_
  show AW l (pI pg 209) P kc ks 5 _ _ SHF _
  refine AW.iload_n (dq rfl) rfl ?_
  show AW l (pI pg 209) P kc ks 6 _ _ SHF _
  refine fw_callVV (as := [.int (nI left)]) (dq rfl) (pg_ok.2.2.1 209 _ _ _ _ rfl) rfl (by decide +kernel) rfl rfl (c4 M1 e1 q1) (fun M3 e3 q3 => ?_)
  have hJ3 : ∀ e ∈ RM, M3.2.2 e.1 e.2.1 = e.2.2 := fun e he => by rw [e3]; exact hJ1 e he
  show AW l (pI pg 209) P kc ks 9 [(0, .ref 58), (1, .int (nI left))] [] SHF _
  refine AW.aload_n (dq rfl) rfl rfl ?_
  show AW l (pI pg 209) P kc ks 10 _ _ SHF _
  refine fw_get (dq rfl) (pg_ok.2.1 209 _ _ _ _ rfl) rfl (v := .ref 77) (isTA_ok rfl (rgR_ok hJ3 rfl)) ?_
  show AW l (pI pg 209) P kc ks 13 _ _ SHF _
  refine AW.iconst (dq rfl) ?_
  show AW l (pI pg 209) P kc ks 14 _ _ SHF _
  refine AW.aload_n (dq rfl) rfl rfl ?_
  show AW l (pI pg 209) P kc ks 15 _ _ SHF _
  refine fw_get (dq rfl) (pg_ok.2.1 209 _ _ _ _ rfl) rfl (v := .int (M3.1 58 2)) rfl ?_
  show AW l (pI pg 209) P kc ks 18 _ _ SHF _
  refine AW.ishl (dq rfl) ?_
  show AW l (pI pg 209) P kc ks 19 _ _ SHF _
  refine AW.iconst (dq rfl) ?_
  show AW l (pI pg 209) P kc ks 20 _ _ SHF _
  refine AW.isub (dq rfl) ?_
  show AW l (pI pg 209) P kc ks 21 _ _ SHF _
  refine AW.iald (dq rfl) rfl (o5 M1 e1 q1 M3 e3 q3) ?_
  show AW l (pI pg 209) P kc ks 22 _ _ SHF _
  refine AW.iconst (dq rfl) ?_
  show AW l (pI pg 209) P kc ks 23 _ _ SHF _
  refine AW.icmp_eq (dq rfl) (tgt := 30) (by decide) (fun h6 => ?_) (fun h6 => ?_)
  · have _ := h6
    refine AW.iconst (dq rfl) ?_
    show AW l (pI pg 209) P kc ks 31 _ _ SHF _
    refine AW.zret (dq rfl) rfl (by decide) ?_
    exact r7 M1 e1 q1 M3 e3 q3 h6
  · have _ := h6
    refine AW.iconst (dq rfl) ?_
    show AW l (pI pg 209) P kc ks 27 _ _ SHF _
    refine AW.goto (dq rfl) (tgt := 31) (by decide) ?_
    refine AW.zret (dq rfl) rfl (by decide) ?_
    exact r8 M1 e1 q1 M3 e3 q3 h6

theorem s207_0 {l : aL} {P : aP} {kc ks : Nat} {left : Nat} {M : aM} (hJ : ∀ e ∈ RM, M.2.2 e.1 e.2.1 = e.2.2)  (Q1 : Int32 → aM → Prop) (c2 : AC l (pI pg 209) (fcI M Q1) 0 0 [.ref 58, .int (nI left)] SHF M) (o4 : ∀ (y1 : Int32), ∀ (M1 : aM), ∀ (e1 : M1.2.2 = M.2.2), ∀ (q1 : Q1 y1 M1), ∀ (h3 : ¬ (y1 : Int32) = 0), vp_in (((Int32.ofInt 1) <<< ((M1.1 58 2) &&& 31)) - (Int32.ofInt 1)) 256) (k5 : ∀ (y1 : Int32), ∀ (M1 : aM), ∀ (e1 : M1.2.2 = M.2.2), ∀ (q1 : Q1 y1 M1), ∀ (h3 : ¬ (y1 : Int32) = 0), AW l (pI pg 208) P kc ks 26 [(3, .int (Int32.ofInt 0)), (2, .int (M1.1 77 (((Int32.ofInt 1) <<< ((M1.1 58 2) &&& 31)) - (Int32.ofInt 1)).toNatClampNeg)), (0, .ref 58), (1, .int (nI left))] [] SHF M1) (r6 : ∀ (y1 : Int32), ∀ (M1 : aM), ∀ (e1 : M1.2.2 = M.2.2), ∀ (q1 : Q1 y1 M1), ∀ (h3 : (y1 : Int32) = 0), P (.inl (some (.int (Int32.ofInt 0)))) SHF M1) : AW l (pI pg 208) P kc ks 0 [(0, .ref 58), (1, .int (nI left))] [] SHF M := by
  refine AW.aload_n (dq rfl) rfl rfl ?_
  show AW l (pI pg 208) P kc ks 1 _ _ SHF _
  refine AW.iload_n (dq rfl) rfl ?_
  show AW l (pI pg 208) P kc ks 2 _ _ SHF _
  refine fw_callVI (as := [.int (nI left)]) (dq rfl) (pg_ok.2.2.1 208 _ _ _ _ rfl) rfl (by decide +kernel) rfl rfl (c2) (fun y1 M1 e1 q1 => ?_)
  have hJ1 : ∀ e ∈ RM, M1.2.2 e.1 e.2.1 = e.2.2 := fun e he => by rw [e1]; exact hJ e he
  show AW l (pI pg 208) P kc ks 5 [(0, .ref 58), (1, .int (nI left))] [.int (y1)] SHF _
  refine AW.if_ne (dq rfl) (tgt := 10) (by decide) (fun h3 => ?_) (fun h3 => ?_)
  · have _ := h3
    refine AW.aload_n (dq rfl) rfl rfl ?_
    show AW l (pI pg 208) P kc ks 11 _ _ SHF _
    refine fw_get (dq rfl) (pg_ok.2.1 208 _ _ _ _ rfl) rfl (v := .ref 77) (isTA_ok rfl (rgR_ok hJ1 rfl)) ?_
    show AW l (pI pg 208) P kc ks 14 _ _ SHF _
    refine AW.iconst (dq rfl) ?_
    show AW l (pI pg 208) P kc ks 15 _ _ SHF _
    refine AW.aload_n (dq rfl) rfl rfl ?_
    show AW l (pI pg 208) P kc ks 16 _ _ SHF _
    refine fw_get (dq rfl) (pg_ok.2.1 208 _ _ _ _ rfl) rfl (v := .int (M1.1 58 2)) rfl ?_
    show AW l (pI pg 208) P kc ks 19 _ _ SHF _
    refine AW.ishl (dq rfl) ?_
    show AW l (pI pg 208) P kc ks 20 _ _ SHF _
    refine AW.iconst (dq rfl) ?_
    show AW l (pI pg 208) P kc ks 21 _ _ SHF _
    refine AW.isub (dq rfl) ?_
    show AW l (pI pg 208) P kc ks 22 _ _ SHF _
    refine AW.iald (dq rfl) rfl (o4 y1 M1 e1 q1 h3) ?_
    show AW l (pI pg 208) P kc ks 23 _ _ SHF _
    refine AW.istore_n (dq rfl) (by decide +kernel) ?_
    show AW l (pI pg 208) P kc ks 24 [(2, .int (M1.1 77 (((Int32.ofInt 1) <<< ((M1.1 58 2) &&& 31)) - (Int32.ofInt 1)).toNatClampNeg)), (0, .ref 58), (1, .int (nI left))] [] SHF _
    refine AW.iconst (dq rfl) ?_
    show AW l (pI pg 208) P kc ks 25 _ _ SHF _
    refine AW.istore_n (dq rfl) (by decide +kernel) ?_
    show AW l (pI pg 208) P kc ks 26 [(3, .int (Int32.ofInt 0)), (2, .int (M1.1 77 (((Int32.ofInt 1) <<< ((M1.1 58 2) &&& 31)) - (Int32.ofInt 1)).toNatClampNeg)), (0, .ref 58), (1, .int (nI left))] [] SHF _
    refine AW.drop (lv' := [(3, .int (Int32.ofInt 0)), (2, .int (M1.1 77 (((Int32.ofInt 1) <<< ((M1.1 58 2) &&& 31)) - (Int32.ofInt 1)).toNatClampNeg)), (0, .ref 58), (1, .int (nI left))]) (List.forall_mem_cons.mpr ⟨List.mem_of_getElem? (i := 0) rfl, List.forall_mem_cons.mpr ⟨List.mem_of_getElem? (i := 1) rfl, List.forall_mem_cons.mpr ⟨List.mem_of_getElem? (i := 2) rfl, List.forall_mem_cons.mpr ⟨List.mem_of_getElem? (i := 3) rfl, fun _ h => absurd h List.not_mem_nil⟩⟩⟩⟩) ?_
    exact k5 y1 M1 e1 q1 h3
  · have _ := h3
    refine AW.iconst (dq rfl) ?_
    show AW l (pI pg 208) P kc ks 9 _ _ SHF _
    refine AW.zret (dq rfl) rfl (by decide) ?_
    exact r6 y1 M1 e1 q1 h3

theorem s207_26 {l : aL} {P : aP} {kc ks : Nat} {w left : Nat} {a : Int32} {M : aM} (hJ : ∀ e ∈ RM, M.2.2 e.1 e.2.1 = e.2.2)  (r2 : ∀ (h1 : (M.1 58 2 : Int32) ≤ (nI w : Int32)), P (.inl (some (.int (Int32.ofInt 1)))) SHF (aset M 58 46 (.int (a)))) (k3 : ∀ (h1 : ¬ ((M.1 58 2 : Int32) ≤ (nI w : Int32))), AW l (pI pg 208) P kc ks 40 [(5, .int (Int32.ofInt 0)), (4, .int (Int32.ofInt 0)), (3, .int (nI w)), (2, .int (a)), (0, .ref 58), (1, .int (nI left))] [] SHF M) : AW l (pI pg 208) P kc ks 26 [(3, .int (nI w)), (2, .int (a)), (0, .ref 58), (1, .int (nI left))] [] SHF M := by
  refine AW.iload_n (dq rfl) rfl ?_
  show AW l (pI pg 208) P kc ks 27 _ _ SHF _
  refine AW.aload_n (dq rfl) rfl rfl ?_
  show AW l (pI pg 208) P kc ks 28 _ _ SHF _
  refine fw_get (dq rfl) (pg_ok.2.1 208 _ _ _ _ rfl) rfl (v := .int (M.1 58 2)) rfl ?_
  show AW l (pI pg 208) P kc ks 31 _ _ SHF _
  refine AW.icmp_ge (dq rfl) (tgt := 116) (by decide) (fun h1 => ?_) (fun h1 => ?_)
  · have _ := h1
    refine AW.aload_n (dq rfl) rfl rfl ?_
    show AW l (pI pg 208) P kc ks 117 _ _ SHF _
    refine AW.iload_n (dq rfl) rfl ?_
    show AW l (pI pg 208) P kc ks 118 _ _ SHF _
    refine fw_putI (dq rfl) (pg_ok.2.1 208 _ _ _ _ rfl) rfl rfl rfl ?_
    show AW l (pI pg 208) P kc ks 121 _ _ SHF _
    refine AW.iconst (dq rfl) ?_
    show AW l (pI pg 208) P kc ks 122 _ _ SHF _
    refine AW.zret (dq rfl) rfl (by decide) ?_
    exact r2 h1
  · have _ := h1
    refine AW.iconst (dq rfl) ?_
    show AW l (pI pg 208) P kc ks 35 _ _ SHF _
    refine AW.istore (dq rfl) (by decide +kernel) ?_
    show AW l (pI pg 208) P kc ks 37 [(4, .int (Int32.ofInt 0)), (3, .int (nI w)), (2, .int (a)), (0, .ref 58), (1, .int (nI left))] [] SHF _
    refine AW.iconst (dq rfl) ?_
    show AW l (pI pg 208) P kc ks 38 _ _ SHF _
    refine AW.istore (dq rfl) (by decide +kernel) ?_
    show AW l (pI pg 208) P kc ks 40 [(5, .int (Int32.ofInt 0)), (4, .int (Int32.ofInt 0)), (3, .int (nI w)), (2, .int (a)), (0, .ref 58), (1, .int (nI left))] [] SHF _
    refine AW.drop (lv' := [(5, .int (Int32.ofInt 0)), (4, .int (Int32.ofInt 0)), (3, .int (nI w)), (2, .int (a)), (0, .ref 58), (1, .int (nI left))]) (List.forall_mem_cons.mpr ⟨List.mem_of_getElem? (i := 0) rfl, List.forall_mem_cons.mpr ⟨List.mem_of_getElem? (i := 1) rfl, List.forall_mem_cons.mpr ⟨List.mem_of_getElem? (i := 2) rfl, List.forall_mem_cons.mpr ⟨List.mem_of_getElem? (i := 3) rfl, List.forall_mem_cons.mpr ⟨List.mem_of_getElem? (i := 4) rfl, List.forall_mem_cons.mpr ⟨List.mem_of_getElem? (i := 5) rfl, fun _ h => absurd h List.not_mem_nil⟩⟩⟩⟩⟩⟩) ?_
    exact k3 h1

theorem s207_40 {l : aL} {P : aP} {kc ks : Nat} {p w left : Nat} {a fd : Int32} {M : aM} (hJ : ∀ e ∈ RM, M.2.2 e.1 e.2.1 = e.2.2)  (o2 : ∀ (h1 : ¬ (fd : Int32) = 0), vp_in (nI w) 8) (k3 : ∀ (h1 : ¬ (fd : Int32) = 0), AW l (pI pg 208) P kc ks 26 [(3, .int ((nI w) + Int32.ofInt 1)), (2, .int (a)), (0, .ref 58), (1, .int (nI left))] [] SHF (aset M 80 (nI w).toNatClampNeg (.int (M.1 76 (nI w).toNatClampNeg)))) (o4 : ∀ (h1 : (fd : Int32) = 0), vp_in (nI w) 8) (Q5 : aM → Prop) (c6 : ∀ (h1 : (fd : Int32) = 0), AC l (pI pg 211) (fcV (aset M 76 (nI w).toNatClampNeg (.int (nI p))) Q5) 0 0 [.ref 58, .int (nI left)] SHF (aset M 76 (nI w).toNatClampNeg (.int (nI p)))) (k8 : ∀ (h1 : (fd : Int32) = 0), ∀ (M5 : aM), ∀ (e5 : M5.2.2 = (aset M 76 (nI w).toNatClampNeg (.int (nI p))).2.2), ∀ (q5 : Q5 M5), ∀ (h7 : ¬ (((nI left) >>> ((nI p) &&& 31)) &&& (Int32.ofInt 1) : Int32) = (Int32.ofInt 1 : Int32)), AW l (pI pg 208) P kc ks 40 [(5, .int (Int32.ofInt 0)), (4, .int ((nI p) + Int32.ofInt 1)), (3, .int (nI w)), (2, .int (a)), (0, .ref 58), (1, .int (nI left))] [] SHF M5) (o9 : ∀ (h1 : (fd : Int32) = 0), ∀ (M5 : aM), ∀ (e5 : M5.2.2 = (aset M 76 (nI w).toNatClampNeg (.int (nI p))).2.2), ∀ (q5 : Q5 M5), ∀ (h7 : (((nI left) >>> ((nI p) &&& 31)) &&& (Int32.ofInt 1) : Int32) = (Int32.ofInt 1 : Int32)), vp_in (((Int32.ofInt 1) <<< ((M5.1 58 2) &&& 31)) - (Int32.ofInt 1)) 256) (k11 : ∀ (h1 : (fd : Int32) = 0), ∀ (M5 : aM), ∀ (e5 : M5.2.2 = (aset M 76 (nI w).toNatClampNeg (.int (nI p))).2.2), ∀ (q5 : Q5 M5), ∀ (h7 : (((nI left) >>> ((nI p) &&& 31)) &&& (Int32.ofInt 1) : Int32) = (Int32.ofInt 1 : Int32)), ∀ (h10 : ¬ (M5.1 77 (((Int32.ofInt 1) <<< ((M5.1 58 2) &&& 31)) - (Int32.ofInt 1)).toNatClampNeg : Int32) = (a : Int32)), AW l (pI pg 208) P kc ks 40 [(5, .int (Int32.ofInt 0)), (4, .int ((nI p) + Int32.ofInt 1)), (3, .int (nI w)), (2, .int (a)), (0, .ref 58), (1, .int (nI left))] [] SHF M5) (k12 : ∀ (h1 : (fd : Int32) = 0), ∀ (M5 : aM), ∀ (e5 : M5.2.2 = (aset M 76 (nI w).toNatClampNeg (.int (nI p))).2.2), ∀ (q5 : Q5 M5), ∀ (h7 : (((nI left) >>> ((nI p) &&& 31)) &&& (Int32.ofInt 1) : Int32) = (Int32.ofInt 1 : Int32)), ∀ (h10 : (M5.1 77 (((Int32.ofInt 1) <<< ((M5.1 58 2) &&& 31)) - (Int32.ofInt 1)).toNatClampNeg : Int32) = (a : Int32)), AW l (pI pg 208) P kc ks 40 [(5, .int (Int32.ofInt 1)), (4, .int ((nI p) + Int32.ofInt 1)), (3, .int (nI w)), (2, .int (a)), (0, .ref 58), (1, .int (nI left))] [] SHF M5) : AW l (pI pg 208) P kc ks 40 [(5, .int (fd)), (4, .int (nI p)), (3, .int (nI w)), (2, .int (a)), (0, .ref 58), (1, .int (nI left))] [] SHF M := by
  refine AW.iload (dq rfl) rfl ?_
  show AW l (pI pg 208) P kc ks 42 _ _ SHF _
  refine AW.if_ne (dq rfl) (tgt := 98) (by decide) (fun h1 => ?_) (fun h1 => ?_)
  · have _ := h1
    refine AW.aload_n (dq rfl) rfl rfl ?_
    show AW l (pI pg 208) P kc ks 99 _ _ SHF _
    refine fw_get (dq rfl) (pg_ok.2.1 208 _ _ _ _ rfl) rfl (v := .ref 80) (isTA_ok rfl (rgR_ok hJ rfl)) ?_
    show AW l (pI pg 208) P kc ks 102 _ _ SHF _
    refine AW.iload_n (dq rfl) rfl ?_
    show AW l (pI pg 208) P kc ks 103 _ _ SHF _
    refine AW.aload_n (dq rfl) rfl rfl ?_
    show AW l (pI pg 208) P kc ks 104 _ _ SHF _
    refine fw_get (dq rfl) (pg_ok.2.1 208 _ _ _ _ rfl) rfl (v := .ref 76) (isTA_ok rfl (rgR_ok hJ rfl)) ?_
    show AW l (pI pg 208) P kc ks 107 _ _ SHF _
    refine AW.iload_n (dq rfl) rfl ?_
    show AW l (pI pg 208) P kc ks 108 _ _ SHF _
    refine AW.iald (dq rfl) rfl (o2 h1) ?_
    show AW l (pI pg 208) P kc ks 109 _ _ SHF _
    refine AW.iast (dq rfl) rfl (o2 h1) ?_
    show AW l (pI pg 208) P kc ks 110 _ _ SHF _
    refine AW.iinc (dq rfl) rfl (by decide +kernel) ?_
    show AW l (pI pg 208) P kc ks 113 [(3, .int ((nI w) + Int32.ofInt 1)), (5, .int (fd)), (4, .int (nI p)), (2, .int (a)), (0, .ref 58), (1, .int (nI left))] [] SHF _
    refine AW.goto (dq rfl) (tgt := 26) (by decide) ?_
    refine AW.drop (lv' := [(3, .int ((nI w) + Int32.ofInt 1)), (2, .int (a)), (0, .ref 58), (1, .int (nI left))]) (List.forall_mem_cons.mpr ⟨List.mem_of_getElem? (i := 0) rfl, List.forall_mem_cons.mpr ⟨List.mem_of_getElem? (i := 3) rfl, List.forall_mem_cons.mpr ⟨List.mem_of_getElem? (i := 4) rfl, List.forall_mem_cons.mpr ⟨List.mem_of_getElem? (i := 5) rfl, fun _ h => absurd h List.not_mem_nil⟩⟩⟩⟩) ?_
    exact k3 h1
  · have _ := h1
    refine AW.aload_n (dq rfl) rfl rfl ?_
    show AW l (pI pg 208) P kc ks 46 _ _ SHF _
    refine fw_get (dq rfl) (pg_ok.2.1 208 _ _ _ _ rfl) rfl (v := .ref 76) (isTA_ok rfl (rgR_ok hJ rfl)) ?_
    show AW l (pI pg 208) P kc ks 49 _ _ SHF _
    refine AW.iload_n (dq rfl) rfl ?_
    show AW l (pI pg 208) P kc ks 50 _ _ SHF _
    refine AW.iload (dq rfl) rfl ?_
    show AW l (pI pg 208) P kc ks 52 _ _ SHF _
    refine AW.iast (dq rfl) rfl (o4 h1) ?_
    show AW l (pI pg 208) P kc ks 53 _ _ SHF _
    refine AW.aload_n (dq rfl) rfl rfl ?_
    show AW l (pI pg 208) P kc ks 54 _ _ SHF _
    refine AW.iload_n (dq rfl) rfl ?_
    show AW l (pI pg 208) P kc ks 55 _ _ SHF _
    refine fw_callVV (as := [.int (nI left)]) (dq rfl) (pg_ok.2.2.1 208 _ _ _ _ rfl) rfl (by decide +kernel) rfl rfl (c6 h1) (fun M5 e5 q5 => ?_)
    have hJ5 : ∀ e ∈ RM, M5.2.2 e.1 e.2.1 = e.2.2 := fun e he => by rw [e5]; exact hJ e he
    show AW l (pI pg 208) P kc ks 58 [(5, .int (fd)), (4, .int (nI p)), (3, .int (nI w)), (2, .int (a)), (0, .ref 58), (1, .int (nI left))] [] SHF _
    refine AW.iload_n (dq rfl) rfl ?_
    show AW l (pI pg 208) P kc ks 59 _ _ SHF _
    refine AW.iload (dq rfl) rfl ?_
    show AW l (pI pg 208) P kc ks 61 _ _ SHF _
    refine AW.ishr (dq rfl) ?_
    show AW l (pI pg 208) P kc ks 62 _ _ SHF _
    refine AW.iconst (dq rfl) ?_
    show AW l (pI pg 208) P kc ks 63 _ _ SHF _
    refine AW.iand (dq rfl) ?_
    show AW l (pI pg 208) P kc ks 64 _ _ SHF _
    refine AW.iconst (dq rfl) ?_
    show AW l (pI pg 208) P kc ks 65 _ _ SHF _
    refine AW.icmp_ne (dq rfl) (tgt := 89) (by decide) (fun h7 => ?_) (fun h7 => ?_)
    · have _ := h7
      refine AW.iconst (dq rfl) ?_
      show AW l (pI pg 208) P kc ks 90 _ _ SHF _
      refine AW.istore (dq rfl) (by decide +kernel) ?_
      show AW l (pI pg 208) P kc ks 92 [(5, .int (Int32.ofInt 0)), (4, .int (nI p)), (3, .int (nI w)), (2, .int (a)), (0, .ref 58), (1, .int (nI left))] [] SHF _
      refine AW.iinc (dq rfl) rfl (by decide +kernel) ?_
      show AW l (pI pg 208) P kc ks 95 [(4, .int ((nI p) + Int32.ofInt 1)), (5, .int (Int32.ofInt 0)), (3, .int (nI w)), (2, .int (a)), (0, .ref 58), (1, .int (nI left))] [] SHF _
      refine AW.goto (dq rfl) (tgt := 40) (by decide) ?_
      refine AW.drop (lv' := [(5, .int (Int32.ofInt 0)), (4, .int ((nI p) + Int32.ofInt 1)), (3, .int (nI w)), (2, .int (a)), (0, .ref 58), (1, .int (nI left))]) (List.forall_mem_cons.mpr ⟨List.mem_of_getElem? (i := 1) rfl, List.forall_mem_cons.mpr ⟨List.mem_of_getElem? (i := 0) rfl, List.forall_mem_cons.mpr ⟨List.mem_of_getElem? (i := 2) rfl, List.forall_mem_cons.mpr ⟨List.mem_of_getElem? (i := 3) rfl, List.forall_mem_cons.mpr ⟨List.mem_of_getElem? (i := 4) rfl, List.forall_mem_cons.mpr ⟨List.mem_of_getElem? (i := 5) rfl, fun _ h => absurd h List.not_mem_nil⟩⟩⟩⟩⟩⟩) ?_
      exact k8 h1 M5 e5 q5 h7
    · have _ := h7
      refine AW.aload_n (dq rfl) rfl rfl ?_
      show AW l (pI pg 208) P kc ks 69 _ _ SHF _
      refine fw_get (dq rfl) (pg_ok.2.1 208 _ _ _ _ rfl) rfl (v := .ref 77) (isTA_ok rfl (rgR_ok hJ5 rfl)) ?_
      show AW l (pI pg 208) P kc ks 72 _ _ SHF _
      refine AW.iconst (dq rfl) ?_
      show AW l (pI pg 208) P kc ks 73 _ _ SHF _
      refine AW.aload_n (dq rfl) rfl rfl ?_
      show AW l (pI pg 208) P kc ks 74 _ _ SHF _
      refine fw_get (dq rfl) (pg_ok.2.1 208 _ _ _ _ rfl) rfl (v := .int (M5.1 58 2)) rfl ?_
      show AW l (pI pg 208) P kc ks 77 _ _ SHF _
      refine AW.ishl (dq rfl) ?_
      show AW l (pI pg 208) P kc ks 78 _ _ SHF _
      refine AW.iconst (dq rfl) ?_
      show AW l (pI pg 208) P kc ks 79 _ _ SHF _
      refine AW.isub (dq rfl) ?_
      show AW l (pI pg 208) P kc ks 80 _ _ SHF _
      refine AW.iald (dq rfl) rfl (o9 h1 M5 e5 q5 h7) ?_
      show AW l (pI pg 208) P kc ks 81 _ _ SHF _
      refine AW.iload_n (dq rfl) rfl ?_
      show AW l (pI pg 208) P kc ks 82 _ _ SHF _
      refine AW.icmp_ne (dq rfl) (tgt := 89) (by decide) (fun h10 => ?_) (fun h10 => ?_)
      · have _ := h10
        refine AW.iconst (dq rfl) ?_
        show AW l (pI pg 208) P kc ks 90 _ _ SHF _
        refine AW.istore (dq rfl) (by decide +kernel) ?_
        show AW l (pI pg 208) P kc ks 92 [(5, .int (Int32.ofInt 0)), (4, .int (nI p)), (3, .int (nI w)), (2, .int (a)), (0, .ref 58), (1, .int (nI left))] [] SHF _
        refine AW.iinc (dq rfl) rfl (by decide +kernel) ?_
        show AW l (pI pg 208) P kc ks 95 [(4, .int ((nI p) + Int32.ofInt 1)), (5, .int (Int32.ofInt 0)), (3, .int (nI w)), (2, .int (a)), (0, .ref 58), (1, .int (nI left))] [] SHF _
        refine AW.goto (dq rfl) (tgt := 40) (by decide) ?_
        refine AW.drop (lv' := [(5, .int (Int32.ofInt 0)), (4, .int ((nI p) + Int32.ofInt 1)), (3, .int (nI w)), (2, .int (a)), (0, .ref 58), (1, .int (nI left))]) (List.forall_mem_cons.mpr ⟨List.mem_of_getElem? (i := 1) rfl, List.forall_mem_cons.mpr ⟨List.mem_of_getElem? (i := 0) rfl, List.forall_mem_cons.mpr ⟨List.mem_of_getElem? (i := 2) rfl, List.forall_mem_cons.mpr ⟨List.mem_of_getElem? (i := 3) rfl, List.forall_mem_cons.mpr ⟨List.mem_of_getElem? (i := 4) rfl, List.forall_mem_cons.mpr ⟨List.mem_of_getElem? (i := 5) rfl, fun _ h => absurd h List.not_mem_nil⟩⟩⟩⟩⟩⟩) ?_
        exact k11 h1 M5 e5 q5 h7 h10
      · have _ := h10
        refine AW.iconst (dq rfl) ?_
        show AW l (pI pg 208) P kc ks 86 _ _ SHF _
        refine AW.goto (dq rfl) (tgt := 90) (by decide) ?_
        refine AW.istore (dq rfl) (by decide +kernel) ?_
        show AW l (pI pg 208) P kc ks 92 [(5, .int (Int32.ofInt 1)), (4, .int (nI p)), (3, .int (nI w)), (2, .int (a)), (0, .ref 58), (1, .int (nI left))] [] SHF _
        refine AW.iinc (dq rfl) rfl (by decide +kernel) ?_
        show AW l (pI pg 208) P kc ks 95 [(4, .int ((nI p) + Int32.ofInt 1)), (5, .int (Int32.ofInt 1)), (3, .int (nI w)), (2, .int (a)), (0, .ref 58), (1, .int (nI left))] [] SHF _
        refine AW.goto (dq rfl) (tgt := 40) (by decide) ?_
        refine AW.drop (lv' := [(5, .int (Int32.ofInt 1)), (4, .int ((nI p) + Int32.ofInt 1)), (3, .int (nI w)), (2, .int (a)), (0, .ref 58), (1, .int (nI left))]) (List.forall_mem_cons.mpr ⟨List.mem_of_getElem? (i := 1) rfl, List.forall_mem_cons.mpr ⟨List.mem_of_getElem? (i := 0) rfl, List.forall_mem_cons.mpr ⟨List.mem_of_getElem? (i := 2) rfl, List.forall_mem_cons.mpr ⟨List.mem_of_getElem? (i := 3) rfl, List.forall_mem_cons.mpr ⟨List.mem_of_getElem? (i := 4) rfl, List.forall_mem_cons.mpr ⟨List.mem_of_getElem? (i := 5) rfl, fun _ h => absurd h List.not_mem_nil⟩⟩⟩⟩⟩⟩) ?_
        exact k12 h1 M5 e5 q5 h7 h10

