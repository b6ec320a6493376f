/-! stretches of the reference's house, printed by wip/gen/segs_h.py -/
theorem cop67_0 {l : aL} {P : aP} {kc ks : Nat} {M : aM} (hJ : ∀ e ∈ RM, M.2.2 e.1 e.2.1 = e.2.2) (hl0 : l.1.stackTraces = false) (k1 : AW l (pI pg 192) P kc ks 2 [(3, .int (Int32.ofInt 0)), (1, .ref 67), (2, .ref 59)] [] SHF M) : AW l (pI pg 192) P kc ks 0 [(0, .ref 58), (1, .ref 67), (2, .ref 59)] [] SHF M := by
  refine AW.iconst (dq rfl) ?_
  show AW l (pI pg 192) P kc ks 1 _ _ SHF _
  refine AW.istore_n (dq rfl) (by decide +kernel) ?_
  show AW l (pI pg 192) P kc ks 2 [(3, .int (Int32.ofInt 0)), (0, .ref 58), (1, .ref 67), (2, .ref 59)] [] SHF _
  refine AW.drop (lv' := [(3, .int (Int32.ofInt 0)), (1, .ref 67), (2, .ref 59)]) (List.forall_mem_cons.mpr ⟨List.mem_of_getElem? (i := 0) rfl, List.forall_mem_cons.mpr ⟨List.mem_of_getElem? (i := 2) rfl, List.forall_mem_cons.mpr ⟨List.mem_of_getElem? (i := 3) rfl, fun _ h => absurd h List.not_mem_nil⟩⟩⟩) ?_
  exact k1

theorem cop67_2 {l : aL} {P : aP} {kc ks : Nat} {i : Nat} {M : aM} (hJ : ∀ e ∈ RM, M.2.2 e.1 e.2.1 = e.2.2) (hl0 : l.1.stackTraces = false) (r2 : ∀ (h1 : (Int32.ofNat 6 : Int32) ≤ (nI i : Int32)), P (.inl none) SHF M) (o3 : ∀ (h1 : ¬ ((Int32.ofNat 6 : Int32) ≤ (nI i : Int32))), vp_in (nI i) 6) (k4 : ∀ (h1 : ¬ ((Int32.ofNat 6 : Int32) ≤ (nI i : Int32))), AW l (pI pg 192) P kc ks 2 [(3, .int ((nI i) + Int32.ofInt 1)), (1, .ref 67), (2, .ref 59)] [] SHF (aset M 59 (nI i).toNatClampNeg (.int (M.1 67 (nI i).toNatClampNeg)))) : AW l (pI pg 192) P kc ks 2 [(3, .int (nI i)), (1, .ref 67), (2, .ref 59)] [] SHF M := by
  refine AW.iload_n (dq rfl) rfl ?_
  show AW l (pI pg 192) P kc ks 3 _ _ SHF _
  refine AW.aload_n (dq rfl) rfl rfl ?_
  show AW l (pI pg 192) P kc ks 4 _ _ SHF _
  refine AW.alen (dq rfl) rfl ?_
  show AW l (pI pg 192) P kc ks 5 _ _ SHF _
  refine AW.icmp_ge (dq rfl) (tgt := 20) (by decide) (fun h1 => ?_) (fun h1 => ?_)
  · have _ := h1
    refine AW.vret (dq rfl) rfl ?_
    exact r2 h1
  · have _ := h1
    refine AW.aload_n (dq rfl) rfl rfl ?_
    show AW l (pI pg 192) P kc ks 9 _ _ SHF _
    refine AW.iload_n (dq rfl) rfl ?_
    show AW l (pI pg 192) P kc ks 10 _ _ SHF _
    refine AW.aload_n (dq rfl) rfl rfl ?_
    show AW l (pI pg 192) P kc ks 11 _ _ SHF _
    refine AW.iload_n (dq rfl) rfl ?_
    show AW l (pI pg 192) P kc ks 12 _ _ SHF _
    refine AW.iald (dq rfl) rfl (o3 h1) ?_
    show AW l (pI pg 192) P kc ks 13 _ _ SHF _
    refine AW.iast (dq rfl) rfl (o3 h1) ?_
    show AW l (pI pg 192) P kc ks 14 _ _ SHF _
    refine AW.iinc (dq rfl) rfl (by decide +kernel) ?_
    show AW l (pI pg 192) P kc ks 17 [(3, .int ((nI i) + Int32.ofInt 1)), (1, .ref 67), (2, .ref 59)] [] SHF _
    refine AW.goto (dq rfl) (tgt := 2) (by decide) ?_
    refine AW.drop (lv' := [(3, .int ((nI i) + Int32.ofInt 1)), (1, .ref 67), (2, .ref 59)]) (List.forall_mem_cons.mpr ⟨List.mem_of_getElem? (i := 0) rfl, List.forall_mem_cons.mpr ⟨List.mem_of_getElem? (i := 1) rfl, List.forall_mem_cons.mpr ⟨List.mem_of_getElem? (i := 2) rfl, fun _ h => absurd h List.not_mem_nil⟩⟩⟩) ?_
    exact k4 h1

theorem cop68_0 {l : aL} {P : aP} {kc ks : Nat} {M : aM} (hJ : ∀ e ∈ RM, M.2.2 e.1 e.2.1 = e.2.2) (hl0 : l.1.stackTraces = false) (k1 : AW l (pI pg 192) P kc ks 2 [(3, .int (Int32.ofInt 0)), (1, .ref 68), (2, .ref 60)] [] SHF M) : AW l (pI pg 192) P kc ks 0 [(0, .ref 58), (1, .ref 68), (2, .ref 60)] [] SHF M := by
  refine AW.iconst (dq rfl) ?_
  show AW l (pI pg 192) P kc ks 1 _ _ SHF _
  refine AW.istore_n (dq rfl) (by decide +kernel) ?_
  show AW l (pI pg 192) P kc ks 2 [(3, .int (Int32.ofInt 0)), (0, .ref 58), (1, .ref 68), (2, .ref 60)] [] SHF _
  refine AW.drop (lv' := [(3, .int (Int32.ofInt 0)), (1, .ref 68), (2, .ref 60)]) (List.forall_mem_cons.mpr ⟨List.mem_of_getElem? (i := 0) rfl, List.forall_mem_cons.mpr ⟨List.mem_of_getElem? (i := 2) rfl, List.forall_mem_cons.mpr ⟨List.mem_of_getElem? (i := 3) rfl, fun _ h => absurd h List.not_mem_nil⟩⟩⟩) ?_
  exact k1

theorem cop68_2 {l : aL} {P : aP} {kc ks : Nat} {i : Nat} {M : aM} (hJ : ∀ e ∈ RM, M.2.2 e.1 e.2.1 = e.2.2) (hl0 : l.1.stackTraces = false) (r2 : ∀ (h1 : (Int32.ofNat 6 : Int32) ≤ (nI i : Int32)), P (.inl none) SHF M) (o3 : ∀ (h1 : ¬ ((Int32.ofNat 6 : Int32) ≤ (nI i : Int32))), vp_in (nI i) 6) (k4 : ∀ (h1 : ¬ ((Int32.ofNat 6 : Int32) ≤ (nI i : Int32))), AW l (pI pg 192) P kc ks 2 [(3, .int ((nI i) + Int32.ofInt 1)), (1, .ref 68), (2, .ref 60)] [] SHF (aset M 60 (nI i).toNatClampNeg (.int (M.1 68 (nI i).toNatClampNeg)))) : AW l (pI pg 192) P kc ks 2 [(3, .int (nI i)), (1, .ref 68), (2, .ref 60)] [] SHF M := by
  refine AW.iload_n (dq rfl) rfl ?_
  show AW l (pI pg 192) P kc ks 3 _ _ SHF _
  refine AW.aload_n (dq rfl) rfl rfl ?_
  show AW l (pI pg 192) P kc ks 4 _ _ SHF _
  refine AW.alen (dq rfl) rfl ?_
  show AW l (pI pg 192) P kc ks 5 _ _ SHF _
  refine AW.icmp_ge (dq rfl) (tgt := 20) (by decide) (fun h1 => ?_) (fun h1 => ?_)
  · have _ := h1
    refine AW.vret (dq rfl) rfl ?_
    exact r2 h1
  · have _ := h1
    refine AW.aload_n (dq rfl) rfl rfl ?_
    show AW l (pI pg 192) P kc ks 9 _ _ SHF _
    refine AW.iload_n (dq rfl) rfl ?_
    show AW l (pI pg 192) P kc ks 10 _ _ SHF _
    refine AW.aload_n (dq rfl) rfl rfl ?_
    show AW l (pI pg 192) P kc ks 11 _ _ SHF _
    refine AW.iload_n (dq rfl) rfl ?_
    show AW l (pI pg 192) P kc ks 12 _ _ SHF _
    refine AW.iald (dq rfl) rfl (o3 h1) ?_
    show AW l (pI pg 192) P kc ks 13 _ _ SHF _
    refine AW.iast (dq rfl) rfl (o3 h1) ?_
    show AW l (pI pg 192) P kc ks 14 _ _ SHF _
    refine AW.iinc (dq rfl) rfl (by decide +kernel) ?_
    show AW l (pI pg 192) P kc ks 17 [(3, .int ((nI i) + Int32.ofInt 1)), (1, .ref 68), (2, .ref 60)] [] SHF _
    refine AW.goto (dq rfl) (tgt := 2) (by decide) ?_
    refine AW.drop (lv' := [(3, .int ((nI i) + Int32.ofInt 1)), (1, .ref 68), (2, .ref 60)]) (List.forall_mem_cons.mpr ⟨List.mem_of_getElem? (i := 0) rfl, List.forall_mem_cons.mpr ⟨List.mem_of_getElem? (i := 1) rfl, List.forall_mem_cons.mpr ⟨List.mem_of_getElem? (i := 2) rfl, fun _ h => absurd h List.not_mem_nil⟩⟩⟩) ?_
    exact k4 h1

theorem cop69_0 {l : aL} {P : aP} {kc ks : Nat} {M : aM} (hJ : ∀ e ∈ RM, M.2.2 e.1 e.2.1 = e.2.2) (hl0 : l.1.stackTraces = false) (k1 : AW l (pI pg 192) P kc ks 2 [(3, .int (Int32.ofInt 0)), (1, .ref 69), (2, .ref 61)] [] SHF M) : AW l (pI pg 192) P kc ks 0 [(0, .ref 58), (1, .ref 69), (2, .ref 61)] [] SHF M := by
  refine AW.iconst (dq rfl) ?_
  show AW l (pI pg 192) P kc ks 1 _ _ SHF _
  refine AW.istore_n (dq rfl) (by decide +kernel) ?_
  show AW l (pI pg 192) P kc ks 2 [(3, .int (Int32.ofInt 0)), (0, .ref 58), (1, .ref 69), (2, .ref 61)] [] SHF _
  refine AW.drop (lv' := [(3, .int (Int32.ofInt 0)), (1, .ref 69), (2, .ref 61)]) (List.forall_mem_cons.mpr ⟨List.mem_of_getElem? (i := 0) rfl, List.forall_mem_cons.mpr ⟨List.mem_of_getElem? (i := 2) rfl, List.forall_mem_cons.mpr ⟨List.mem_of_getElem? (i := 3) rfl, fun _ h => absurd h List.not_mem_nil⟩⟩⟩) ?_
  exact k1

theorem cop69_2 {l : aL} {P : aP} {kc ks : Nat} {i : Nat} {M : aM} (hJ : ∀ e ∈ RM, M.2.2 e.1 e.2.1 = e.2.2) (hl0 : l.1.stackTraces = false) (r2 : ∀ (h1 : (Int32.ofNat 8 : Int32) ≤ (nI i : Int32)), P (.inl none) SHF M) (o3 : ∀ (h1 : ¬ ((Int32.ofNat 8 : Int32) ≤ (nI i : Int32))), vp_in (nI i) 8) (k4 : ∀ (h1 : ¬ ((Int32.ofNat 8 : Int32) ≤ (nI i : Int32))), AW l (pI pg 192) P kc ks 2 [(3, .int ((nI i) + Int32.ofInt 1)), (1, .ref 69), (2, .ref 61)] [] SHF (aset M 61 (nI i).toNatClampNeg (.int (M.1 69 (nI i).toNatClampNeg)))) : AW l (pI pg 192) P kc ks 2 [(3, .int (nI i)), (1, .ref 69), (2, .ref 61)] [] SHF M := by
  refine AW.iload_n (dq rfl) rfl ?_
  show AW l (pI pg 192) P kc ks 3 _ _ SHF _
  refine AW.aload_n (dq rfl) rfl rfl ?_
  show AW l (pI pg 192) P kc ks 4 _ _ SHF _
  refine AW.alen (dq rfl) rfl ?_
  show AW l (pI pg 192) P kc ks 5 _ _ SHF _
  refine AW.icmp_ge (dq rfl) (tgt := 20) (by decide) (fun h1 => ?_) (fun h1 => ?_)
  · have _ := h1
    refine AW.vret (dq rfl) rfl ?_
    exact r2 h1
  · have _ := h1
    refine AW.aload_n (dq rfl) rfl rfl ?_
    show AW l (pI pg 192) P kc ks 9 _ _ SHF _
    refine AW.iload_n (dq rfl) rfl ?_
    show AW l (pI pg 192) P kc ks 10 _ _ SHF _
    refine AW.aload_n (dq rfl) rfl rfl ?_
    show AW l (pI pg 192) P kc ks 11 _ _ SHF _
    refine AW.iload_n (dq rfl) rfl ?_
    show AW l (pI pg 192) P kc ks 12 _ _ SHF _
    refine AW.iald (dq rfl) rfl (o3 h1) ?_
    show AW l (pI pg 192) P kc ks 13 _ _ SHF _
    refine AW.iast (dq rfl) rfl (o3 h1) ?_
    show AW l (pI pg 192) P kc ks 14 _ _ SHF _
    refine AW.iinc (dq rfl) rfl (by decide +kernel) ?_
    show AW l (pI pg 192) P kc ks 17 [(3, .int ((nI i) + Int32.ofInt 1)), (1, .ref 69), (2, .ref 61)] [] SHF _
    refine AW.goto (dq rfl) (tgt := 2) (by decide) ?_
    refine AW.drop (lv' := [(3, .int ((nI i) + Int32.ofInt 1)), (1, .ref 69), (2, .ref 61)]) (List.forall_mem_cons.mpr ⟨List.mem_of_getElem? (i := 0) rfl, List.forall_mem_cons.mpr ⟨List.mem_of_getElem? (i := 1) rfl, List.forall_mem_cons.mpr ⟨List.mem_of_getElem? (i := 2) rfl, fun _ h => absurd h List.not_mem_nil⟩⟩⟩) ?_
    exact k4 h1

theorem cop70_0 {l : aL} {P : aP} {kc ks : Nat} {M : aM} (hJ : ∀ e ∈ RM, M.2.2 e.1 e.2.1 = e.2.2) (hl0 : l.1.stackTraces = false) (k1 : AW l (pI pg 192) P kc ks 2 [(3, .int (Int32.ofInt 0)), (1, .ref 70), (2, .ref 62)] [] SHF M) : AW l (pI pg 192) P kc ks 0 [(0, .ref 58), (1, .ref 70), (2, .ref 62)] [] SHF M := by
  refine AW.iconst (dq rfl) ?_
  show AW l (pI pg 192) P kc ks 1 _ _ SHF _
  refine AW.istore_n (dq rfl) (by decide +kernel) ?_
  show AW l (pI pg 192) P kc ks 2 [(3, .int (Int32.ofInt 0)), (0, .ref 58), (1, .ref 70), (2, .ref 62)] [] SHF _
  refine AW.drop (lv' := [(3, .int (Int32.ofInt 0)), (1, .ref 70), (2, .ref 62)]) (List.forall_mem_cons.mpr ⟨List.mem_of_getElem? (i := 0) rfl, List.forall_mem_cons.mpr ⟨List.mem_of_getElem? (i := 2) rfl, List.forall_mem_cons.mpr ⟨List.mem_of_getElem? (i := 3) rfl, fun _ h => absurd h List.not_mem_nil⟩⟩⟩) ?_
  exact k1

theorem cop70_2 {l : aL} {P : aP} {kc ks : Nat} {i : Nat} {M : aM} (hJ : ∀ e ∈ RM, M.2.2 e.1 e.2.1 = e.2.2) (hl0 : l.1.stackTraces = false) (r2 : ∀ (h1 : (Int32.ofNat 8 : Int32) ≤ (nI i : Int32)), P (.inl none) SHF M) (o3 : ∀ (h1 : ¬ ((Int32.ofNat 8 : Int32) ≤ (nI i : Int32))), vp_in (nI i) 8) (k4 : ∀ (h1 : ¬ ((Int32.ofNat 8 : Int32) ≤ (nI i : Int32))), AW l (pI pg 192) P kc ks 2 [(3, .int ((nI i) + Int32.ofInt 1)), (1, .ref 70), (2, .ref 62)] [] SHF (aset M 62 (nI i).toNatClampNeg (.int (M.1 70 (nI i).toNatClampNeg)))) : AW l (pI pg 192) P kc ks 2 [(3, .int (nI i)), (1, .ref 70), (2, .ref 62)] [] SHF M := by
  refine AW.iload_n (dq rfl) rfl ?_
  show AW l (pI pg 192) P kc ks 3 _ _ SHF _
  refine AW.aload_n (dq rfl) rfl rfl ?_
  show AW l (pI pg 192) P kc ks 4 _ _ SHF _
  refine AW.alen (dq rfl) rfl ?_
  show AW l (pI pg 192) P kc ks 5 _ _ SHF _
  refine AW.icmp_ge (dq rfl) (tgt := 20) (by decide) (fun h1 => ?_) (fun h1 => ?_)
  · have _ := h1
    refine AW.vret (dq rfl) rfl ?_
    exact r2 h1
  · have _ := h1
    refine AW.aload_n (dq rfl) rfl rfl ?_
    show AW l (pI pg 192) P kc ks 9 _ _ SHF _
    refine AW.iload_n (dq rfl) rfl ?_
    show AW l (pI pg 192) P kc ks 10 _ _ SHF _
    refine AW.aload_n (dq rfl) rfl rfl ?_
    show AW l (pI pg 192) P kc ks 11 _ _ SHF _
    refine AW.iload_n (dq rfl) rfl ?_
    show AW l (pI pg 192) P kc ks 12 _ _ SHF _
    refine AW.iald (dq rfl) rfl (o3 h1) ?_
    show AW l (pI pg 192) P kc ks 13 _ _ SHF _
    refine AW.iast (dq rfl) rfl (o3 h1) ?_
    show AW l (pI pg 192) P kc ks 14 _ _ SHF _
    refine AW.iinc (dq rfl) rfl (by decide +kernel) ?_
    show AW l (pI pg 192) P kc ks 17 [(3, .int ((nI i) + Int32.ofInt 1)), (1, .ref 70), (2, .ref 62)] [] SHF _
    refine AW.goto (dq rfl) (tgt := 2) (by decide) ?_
    refine AW.drop (lv' := [(3, .int ((nI i) + Int32.ofInt 1)), (1, .ref 70), (2, .ref 62)]) (List.forall_mem_cons.mpr ⟨List.mem_of_getElem? (i := 0) rfl, List.forall_mem_cons.mpr ⟨List.mem_of_getElem? (i := 1) rfl, List.forall_mem_cons.mpr ⟨List.mem_of_getElem? (i := 2) rfl, fun _ h => absurd h List.not_mem_nil⟩⟩⟩) ?_
    exact k4 h1

theorem cop71_0 {l : aL} {P : aP} {kc ks : Nat} {M : aM} (hJ : ∀ e ∈ RM, M.2.2 e.1 e.2.1 = e.2.2) (hl0 : l.1.stackTraces = false) (k1 : AW l (pI pg 192) P kc ks 2 [(3, .int (Int32.ofInt 0)), (1, .ref 71), (2, .ref 63)] [] SHF M) : AW l (pI pg 192) P kc ks 0 [(0, .ref 58), (1, .ref 71), (2, .ref 63)] [] SHF M := by
  refine AW.iconst (dq rfl) ?_
  show AW l (pI pg 192) P kc ks 1 _ _ SHF _
  refine AW.istore_n (dq rfl) (by decide +kernel) ?_
  show AW l (pI pg 192) P kc ks 2 [(3, .int (Int32.ofInt 0)), (0, .ref 58), (1, .ref 71), (2, .ref 63)] [] SHF _
  refine AW.drop (lv' := [(3, .int (Int32.ofInt 0)), (1, .ref 71), (2, .ref 63)]) (List.forall_mem_cons.mpr ⟨List.mem_of_getElem? (i := 0) rfl, List.forall_mem_cons.mpr ⟨List.mem_of_getElem? (i := 2) rfl, List.forall_mem_cons.mpr ⟨List.mem_of_getElem? (i := 3) rfl, fun _ h => absurd h List.not_mem_nil⟩⟩⟩) ?_
  exact k1

theorem cop71_2 {l : aL} {P : aP} {kc ks : Nat} {i : Nat} {M : aM} (hJ : ∀ e ∈ RM, M.2.2 e.1 e.2.1 = e.2.2) (hl0 : l.1.stackTraces = false) (r2 : ∀ (h1 : (Int32.ofNat 48 : Int32) ≤ (nI i : Int32)), P (.inl none) SHF M) (o3 : ∀ (h1 : ¬ ((Int32.ofNat 48 : Int32) ≤ (nI i : Int32))), vp_in (nI i) 48) (k4 : ∀ (h1 : ¬ ((Int32.ofNat 48 : Int32) ≤ (nI i : Int32))), AW l (pI pg 192) P kc ks 2 [(3, .int ((nI i) + Int32.ofInt 1)), (1, .ref 71), (2, .ref 63)] [] SHF (aset M 63 (nI i).toNatClampNeg (.int (M.1 71 (nI i).toNatClampNeg)))) : AW l (pI pg 192) P kc ks 2 [(3, .int (nI i)), (1, .ref 71), (2, .ref 63)] [] SHF M := by
  refine AW.iload_n (dq rfl) rfl ?_
  show AW l (pI pg 192) P kc ks 3 _ _ SHF _
  refine AW.aload_n (dq rfl) rfl rfl ?_
  show AW l (pI pg 192) P kc ks 4 _ _ SHF _
  refine AW.alen (dq rfl) rfl ?_
  show AW l (pI pg 192) P kc ks 5 _ _ SHF _
  refine AW.icmp_ge (dq rfl) (tgt := 20) (by decide) (fun h1 => ?_) (fun h1 => ?_)
  · have _ := h1
    refine AW.vret (dq rfl) rfl ?_
    exact r2 h1
  · have _ := h1
    refine AW.aload_n (dq rfl) rfl rfl ?_
    show AW l (pI pg 192) P kc ks 9 _ _ SHF _
    refine AW.iload_n (dq rfl) rfl ?_
    show AW l (pI pg 192) P kc ks 10 _ _ SHF _
    refine AW.aload_n (dq rfl) rfl rfl ?_
    show AW l (pI pg 192) P kc ks 11 _ _ SHF _
    refine AW.iload_n (dq rfl) rfl ?_
    show AW l (pI pg 192) P kc ks 12 _ _ SHF _
    refine AW.iald (dq rfl) rfl (o3 h1) ?_
    show AW l (pI pg 192) P kc ks 13 _ _ SHF _
    refine AW.iast (dq rfl) rfl (o3 h1) ?_
    show AW l (pI pg 192) P kc ks 14 _ _ SHF _
    refine AW.iinc (dq rfl) rfl (by decide +kernel) ?_
    show AW l (pI pg 192) P kc ks 17 [(3, .int ((nI i) + Int32.ofInt 1)), (1, .ref 71), (2, .ref 63)] [] SHF _
    refine AW.goto (dq rfl) (tgt := 2) (by decide) ?_
    refine AW.drop (lv' := [(3, .int ((nI i) + Int32.ofInt 1)), (1, .ref 71), (2, .ref 63)]) (List.forall_mem_cons.mpr ⟨List.mem_of_getElem? (i := 0) rfl, List.forall_mem_cons.mpr ⟨List.mem_of_getElem? (i := 1) rfl, List.forall_mem_cons.mpr ⟨List.mem_of_getElem? (i := 2) rfl, fun _ h => absurd h List.not_mem_nil⟩⟩⟩) ?_
    exact k4 h1

theorem cop72_0 {l : aL} {P : aP} {kc ks : Nat} {M : aM} (hJ : ∀ e ∈ RM, M.2.2 e.1 e.2.1 = e.2.2) (hl0 : l.1.stackTraces = false) (k1 : AW l (pI pg 192) P kc ks 2 [(3, .int (Int32.ofInt 0)), (1, .ref 72), (2, .ref 64)] [] SHF M) : AW l (pI pg 192) P kc ks 0 [(0, .ref 58), (1, .ref 72), (2, .ref 64)] [] SHF M := by
  refine AW.iconst (dq rfl) ?_
  show AW l (pI pg 192) P kc ks 1 _ _ SHF _
  refine AW.istore_n (dq rfl) (by decide +kernel) ?_
  show AW l (pI pg 192) P kc ks 2 [(3, .int (Int32.ofInt 0)), (0, .ref 58), (1, .ref 72), (2, .ref 64)] [] SHF _
  refine AW.drop (lv' := [(3, .int (Int32.ofInt 0)), (1, .ref 72), (2, .ref 64)]) (List.forall_mem_cons.mpr ⟨List.mem_of_getElem? (i := 0) rfl, List.forall_mem_cons.mpr ⟨List.mem_of_getElem? (i := 2) rfl, List.forall_mem_cons.mpr ⟨List.mem_of_getElem? (i := 3) rfl, fun _ h => absurd h List.not_mem_nil⟩⟩⟩) ?_
  exact k1

theorem cop72_2 {l : aL} {P : aP} {kc ks : Nat} {i : Nat} {M : aM} (hJ : ∀ e ∈ RM, M.2.2 e.1 e.2.1 = e.2.2) (hl0 : l.1.stackTraces = false) (r2 : ∀ (h1 : (Int32.ofNat 32 : Int32) ≤ (nI i : Int32)), P (.inl none) SHF M) (o3 : ∀ (h1 : ¬ ((Int32.ofNat 32 : Int32) ≤ (nI i : Int32))), vp_in (nI i) 32) (k4 : ∀ (h1 : ¬ ((Int32.ofNat 32 : Int32) ≤ (nI i : Int32))), AW l (pI pg 192) P kc ks 2 [(3, .int ((nI i) + Int32.ofInt 1)), (1, .ref 72), (2, .ref 64)] [] SHF (aset M 64 (nI i).toNatClampNeg (.int (M.1 72 (nI i).toNatClampNeg)))) : AW l (pI pg 192) P kc ks 2 [(3, .int (nI i)), (1, .ref 72), (2, .ref 64)] [] SHF M := by
  refine AW.iload_n (dq rfl) rfl ?_
  show AW l (pI pg 192) P kc ks 3 _ _ SHF _
  refine AW.aload_n (dq rfl) rfl rfl ?_
  show AW l (pI pg 192) P kc ks 4 _ _ SHF _
  refine AW.alen (dq rfl) rfl ?_
  show AW l (pI pg 192) P kc ks 5 _ _ SHF _
  refine AW.icmp_ge (dq rfl) (tgt := 20) (by decide) (fun h1 => ?_) (fun h1 => ?_)
  · have _ := h1
    refine AW.vret (dq rfl) rfl ?_
    exact r2 h1
  · have _ := h1
    refine AW.aload_n (dq rfl) rfl rfl ?_
    show AW l (pI pg 192) P kc ks 9 _ _ SHF _
    refine AW.iload_n (dq rfl) rfl ?_
    show AW l (pI pg 192) P kc ks 10 _ _ SHF _
    refine AW.aload_n (dq rfl) rfl rfl ?_
    show AW l (pI pg 192) P kc ks 11 _ _ SHF _
    refine AW.iload_n (dq rfl) rfl ?_
    show AW l (pI pg 192) P kc ks 12 _ _ SHF _
    refine AW.iald (dq rfl) rfl (o3 h1) ?_
    show AW l (pI pg 192) P kc ks 13 _ _ SHF _
    refine AW.iast (dq rfl) rfl (o3 h1) ?_
    show AW l (pI pg 192) P kc ks 14 _ _ SHF _
    refine AW.iinc (dq rfl) rfl (by decide +kernel) ?_
    show AW l (pI pg 192) P kc ks 17 [(3, .int ((nI i) + Int32.ofInt 1)), (1, .ref 72), (2, .ref 64)] [] SHF _
    refine AW.goto (dq rfl) (tgt := 2) (by decide) ?_
    refine AW.drop (lv' := [(3, .int ((nI i) + Int32.ofInt 1)), (1, .ref 72), (2, .ref 64)]) (List.forall_mem_cons.mpr ⟨List.mem_of_getElem? (i := 0) rfl, List.forall_mem_cons.mpr ⟨List.mem_of_getElem? (i := 1) rfl, List.forall_mem_cons.mpr ⟨List.mem_of_getElem? (i := 2) rfl, fun _ h => absurd h List.not_mem_nil⟩⟩⟩) ?_
    exact k4 h1

theorem hou_0 {l : aL} {P : aP} {kc ks : Nat} {x : Int32} {M : aM} (hJ : ∀ e ∈ RM, M.2.2 e.1 e.2.1 = e.2.2) (hl0 : l.1.stackTraces = false) (Q2 : Int32 → aM → Prop) (c3 : ∀ (h1 : (x : Int32) < 0), AC l (pI pg 175) (fcI (aset M 58 0 (.int (Int32.ofInt 0))) Q2) 0 0 [.ref 58, .int (Int32.ofInt 0), .int (Int32.ofInt 1)] SHF (aset M 58 0 (.int (Int32.ofInt 0)))) (k5 : ∀ (h1 : (x : Int32) < 0), ∀ (y2 : Int32), ∀ (M2 : aM), ∀ (e2 : M2.2.2 = (aset M 58 0 (.int (Int32.ofInt 0))).2.2), ∀ (q2 : Q2 y2 M2), ∀ (h4 : ¬ (y2 : Int32) = 0), AW l (pI pg 174) P kc ks 32 [(0, .ref 58), (1, .int (x))] [] SHF M2) (r6 : ∀ (h1 : (x : Int32) < 0), ∀ (y2 : Int32), ∀ (M2 : aM), ∀ (e2 : M2.2.2 = (aset M 58 0 (.int (Int32.ofInt 0))).2.2), ∀ (q2 : Q2 y2 M2), ∀ (h4 : (y2 : Int32) = 0), P (.inl (some (.int (Int32.ofInt 0)))) SHF M2) (Q8 : Int32 → aM → Prop) (c9 : ∀ (h1 : ¬ ((x : Int32) < 0)), ∀ (h7 : ((aset M 58 0 (.int (Int32.ofInt 0))).1 58 12 : Int32) < (x : Int32)), AC l (pI pg 175) (fcI (aset M 58 0 (.int (Int32.ofInt 0))) Q8) 0 0 [.ref 58, .int (Int32.ofInt 0), .int (Int32.ofInt 1)] SHF (aset M 58 0 (.int (Int32.ofInt 0)))) (k11 : ∀ (h1 : ¬ ((x : Int32) < 0)), ∀ (h7 : ((aset M 58 0 (.int (Int32.ofInt 0))).1 58 12 : Int32) < (x : Int32)), ∀ (y8 : Int32), ∀ (M8 : aM), ∀ (e8 : M8.2.2 = (aset M 58 0 (.int (Int32.ofInt 0))).2.2), ∀ (q8 : Q8 y8 M8), ∀ (h10 : ¬ (y8 : Int32) = 0), AW l (pI pg 174) P kc ks 32 [(0, .ref 58), (1, .int (x))] [] SHF M8) (r12 : ∀ (h1 : ¬ ((x : Int32) < 0)), ∀ (h7 : ((aset M 58 0 (.int (Int32.ofInt 0))).1 58 12 : Int32) < (x : Int32)), ∀ (y8 : Int32), ∀ (M8 : aM), ∀ (e8 : M8.2.2 = (aset M 58 0 (.int (Int32.ofInt 0))).2.2), ∀ (q8 : Q8 y8 M8), ∀ (h10 : (y8 : Int32) = 0), P (.inl (some (.int (Int32.ofInt 0)))) SHF M8) (Q13 : Int32 → aM → Prop) (c14 : ∀ (h1 : ¬ ((x : Int32) < 0)), ∀ (h7 : ¬ (((aset M 58 0 (.int (Int32.ofInt 0))).1 58 12 : Int32) < (x : Int32))), AC l (pI pg 175) (fcI (aset M 58 0 (.int (Int32.ofInt 0))) Q13) 0 0 [.ref 58, .int (Int32.ofInt 1), .int (Int32.ofInt 1)] SHF (aset M 58 0 (.int (Int32.ofInt 0)))) (k16 : ∀ (h1 : ¬ ((x : Int32) < 0)), ∀ (h7 : ¬ (((aset M 58 0 (.int (Int32.ofInt 0))).1 58 12 : Int32) < (x : Int32))), ∀ (y13 : Int32), ∀ (M13 : aM), ∀ (e13 : M13.2.2 = (aset M 58 0 (.int (Int32.ofInt 0))).2.2), ∀ (q13 : Q13 y13 M13), ∀ (h15 : ¬ (y13 : Int32) = 0), AW l (pI pg 174) P kc ks 32 [(0, .ref 58), (1, .int (x))] [] SHF M13) (r17 : ∀ (h1 : ¬ ((x : Int32) < 0)), ∀ (h7 : ¬ (((aset M 58 0 (.int (Int32.ofInt 0))).1 58 12 : Int32) < (x : Int32))), ∀ (y13 : Int32), ∀ (M13 : aM), ∀ (e13 : M13.2.2 = (aset M 58 0 (.int (Int32.ofInt 0))).2.2), ∀ (q13 : Q13 y13 M13), ∀ (h15 : (y13 : Int32) = 0), P (.inl (some (.int (Int32.ofInt 0)))) SHF M13) : AW l (pI pg 174) P kc ks 0 [(0, .ref 58), (1, .int (x))] [] SHF M := by
  refine AW.aload_n (dq rfl) rfl rfl ?_
  show AW l (pI pg 174) P kc ks 1 _ _ SHF _
  refine AW.iconst (dq rfl) ?_
  show AW l (pI pg 174) P kc ks 2 _ _ SHF _
  refine fw_putI (dq rfl) (pg_ok.2.1 174 _ _ _ _ rfl) rfl rfl rfl ?_
  show AW l (pI pg 174) P kc ks 5 _ _ SHF _
  refine AW.aload_n (dq rfl) rfl rfl ?_
  show AW l (pI pg 174) P kc ks 6 _ _ SHF _
  refine AW.iload_n (dq rfl) rfl ?_
  show AW l (pI pg 174) P kc ks 7 _ _ SHF _
  refine AW.if_lt (dq rfl) (tgt := 22) (by decide) (fun h1 => ?_) (fun h1 => ?_)
  · have _ := h1
    refine AW.iconst (dq rfl) ?_
    show AW l (pI pg 174) P kc ks 23 _ _ SHF _
    refine AW.iconst (dq rfl) ?_
    show AW l (pI pg 174) P kc ks 24 _ _ SHF _
    refine fw_callVI (as := [.int (Int32.ofInt 0), .int (Int32.ofInt 1)]) (dq rfl) (pg_ok.2.2.1 174 _ _ _ _ rfl) rfl (by decide +kernel) rfl rfl (c3 h1) (fun y2 M2 e2 q2 => ?_)
    have hJ2 : ∀ e ∈ RM, M2.2.2 e.1 e.2.1 = e.2.2 := fun e he => by rw [e2]; exact hJ e he
    show AW l (pI pg 174) P kc ks 27 [(0, .ref 58), (1, .int (x))] [.int (y2)] SHF _
    refine AW.if_ne (dq rfl) (tgt := 32) (by decide) (fun h4 => ?_) (fun h4 => ?_)
    · have _ := h4
      refine AW.drop (lv' := [(0, .ref 58), (1, .int (x))]) (List.forall_mem_cons.mpr ⟨List.mem_of_getElem? (i := 0) rfl, List.forall_mem_cons.mpr ⟨List.mem_of_getElem? (i := 1) rfl, fun _ h => absurd h List.not_mem_nil⟩⟩) ?_
      exact k5 h1 y2 M2 e2 q2 h4
    · have _ := h4
      refine AW.iconst (dq rfl) ?_
      show AW l (pI pg 174) P kc ks 31 _ _ SHF _
      refine AW.iret (dq rfl) rfl ?_
      exact r6 h1 y2 M2 e2 q2 h4
  · have _ := h1
    refine AW.iload_n (dq rfl) rfl ?_
    show AW l (pI pg 174) P kc ks 11 _ _ SHF _
    refine AW.aload_n (dq rfl) rfl rfl ?_
    show AW l (pI pg 174) P kc ks 12 _ _ SHF _
    refine fw_get (dq rfl) (pg_ok.2.1 174 _ _ _ _ rfl) rfl (v := .int ((aset M 58 0 (.int (Int32.ofInt 0))).1 58 12)) rfl ?_
    show AW l (pI pg 174) P kc ks 15 _ _ SHF _
    refine AW.icmp_gt (dq rfl) (tgt := 22) (by decide) (fun h7 => ?_) (fun h7 => ?_)
    · have _ := h7
      refine AW.iconst (dq rfl) ?_
      show AW l (pI pg 174) P kc ks 23 _ _ SHF _
      refine AW.iconst (dq rfl) ?_
      show AW l (pI pg 174) P kc ks 24 _ _ SHF _
      refine fw_callVI (as := [.int (Int32.ofInt 0), .int (Int32.ofInt 1)]) (dq rfl) (pg_ok.2.2.1 174 _ _ _ _ rfl) rfl (by decide +kernel) rfl rfl (c9 h1 h7) (fun y8 M8 e8 q8 => ?_)
      have hJ8 : ∀ e ∈ RM, M8.2.2 e.1 e.2.1 = e.2.2 := fun e he => by rw [e8]; exact hJ e he
      show AW l (pI pg 174) P kc ks 27 [(0, .ref 58), (1, .int (x))] [.int (y8)] SHF _
      refine AW.if_ne (dq rfl) (tgt := 32) (by decide) (fun h10 => ?_) (fun h10 => ?_)
      · have _ := h10
        refine AW.drop (lv' := [(0, .ref 58), (1, .int (x))]) (List.forall_mem_cons.mpr ⟨List.mem_of_getElem? (i := 0) rfl, List.forall_mem_cons.mpr ⟨List.mem_of_getElem? (i := 1) rfl, fun _ h => absurd h List.not_mem_nil⟩⟩) ?_
        exact k11 h1 h7 y8 M8 e8 q8 h10
      · have _ := h10
        refine AW.iconst (dq rfl) ?_
        show AW l (pI pg 174) P kc ks 31 _ _ SHF _
        refine AW.iret (dq rfl) rfl ?_
        exact r12 h1 h7 y8 M8 e8 q8 h10
    · have _ := h7
      refine AW.iconst (dq rfl) ?_
      show AW l (pI pg 174) P kc ks 19 _ _ SHF _
      refine AW.goto (dq rfl) (tgt := 23) (by decide) ?_
      refine AW.iconst (dq rfl) ?_
      show AW l (pI pg 174) P kc ks 24 _ _ SHF _
      refine fw_callVI (as := [.int (Int32.ofInt 1), .int (Int32.ofInt 1)]) (dq rfl) (pg_ok.2.2.1 174 _ _ _ _ rfl) rfl (by decide +kernel) rfl rfl (c14 h1 h7) (fun y13 M13 e13 q13 => ?_)
      have hJ13 : ∀ e ∈ RM, M13.2.2 e.1 e.2.1 = e.2.2 := fun e he => by rw [e13]; exact hJ e he
      show AW l (pI pg 174) P kc ks 27 [(0, .ref 58), (1, .int (x))] [.int (y13)] SHF _
      refine AW.if_ne (dq rfl) (tgt := 32) (by decide) (fun h15 => ?_) (fun h15 => ?_)
      · have _ := h15
        refine AW.drop (lv' := [(0, .ref 58), (1, .int (x))]) (List.forall_mem_cons.mpr ⟨List.mem_of_getElem? (i := 0) rfl, List.forall_mem_cons.mpr ⟨List.mem_of_getElem? (i := 1) rfl, fun _ h => absurd h List.not_mem_nil⟩⟩) ?_
        exact k16 h1 h7 y13 M13 e13 q13 h15
      · have _ := h15
        refine AW.iconst (dq rfl) ?_
        show AW l (pI pg 174) P kc ks 31 _ _ SHF _
        refine AW.iret (dq rfl) rfl ?_
        exact r17 h1 h7 y13 M13 e13 q13 h15

theorem hou_32 {l : aL} {P : aP} {kc ks : Nat} {x : Int32} {M : aM} (hJ : ∀ e ∈ RM, M.2.2 e.1 e.2.1 = e.2.2) (hl0 : l.1.stackTraces = false) (Q1 : aM → Prop) (c2 : AC l (pI pg 176) (fcV (aset (aset (aset (aset (aset (aset (aset (aset (aset (aset (aset M 58 12 (.int (Int32.ofInt 0))) 58 14 (.int (Int32.ofInt (-1)))) 58 13 (.int (Int32.ofInt 0))) 58 16 (.int (x))) 58 17 (.int (Int32.ofInt 0))) 58 23 (.int (Int32.ofInt 0))) 58 24 (.int (Int32.ofInt 0))) 58 25 (.int (Int32.ofInt 0))) 58 26 (.int (Int32.ofInt 0))) 58 27 (.int (Int32.ofInt 0))) 58 28 (.int (Int32.ofInt 0))) Q1) 0 0 [.ref 58] SHF (aset (aset (aset (aset (aset (aset (aset (aset (aset (aset (aset M 58 12 (.int (Int32.ofInt 0))) 58 14 (.int (Int32.ofInt (-1)))) 58 13 (.int (Int32.ofInt 0))) 58 16 (.int (x))) 58 17 (.int (Int32.ofInt 0))) 58 23 (.int (Int32.ofInt 0))) 58 24 (.int (Int32.ofInt 0))) 58 25 (.int (Int32.ofInt 0))) 58 26 (.int (Int32.ofInt 0))) 58 27 (.int (Int32.ofInt 0))) 58 28 (.int (Int32.ofInt 0)))) (k3 : ∀ (M1 : aM), ∀ (e1 : M1.2.2 = (aset (aset (aset (aset (aset (aset (aset (aset (aset (aset (aset M 58 12 (.int (Int32.ofInt 0))) 58 14 (.int (Int32.ofInt (-1)))) 58 13 (.int (Int32.ofInt 0))) 58 16 (.int (x))) 58 17 (.int (Int32.ofInt 0))) 58 23 (.int (Int32.ofInt 0))) 58 24 (.int (Int32.ofInt 0))) 58 25 (.int (Int32.ofInt 0))) 58 26 (.int (Int32.ofInt 0))) 58 27 (.int (Int32.ofInt 0))) 58 28 (.int (Int32.ofInt 0))).2.2), ∀ (q1 : Q1 M1), AW l (pI pg 174) P kc ks 91 [(0, .ref 58)] [] SHF M1) : AW l (pI pg 174) P kc ks 32 [(0, .ref 58), (1, .int (x))] [] SHF M := by
  refine AW.aload_n (dq rfl) rfl rfl ?_
  show AW l (pI pg 174) P kc ks 33 _ _ SHF _
  refine AW.iconst (dq rfl) ?_
  show AW l (pI pg 174) P kc ks 34 _ _ SHF _
  refine fw_putI (dq rfl) (pg_ok.2.1 174 _ _ _ _ rfl) rfl rfl rfl ?_
  show AW l (pI pg 174) P kc ks 37 _ _ SHF _
  refine AW.aload_n (dq rfl) rfl rfl ?_
  show AW l (pI pg 174) P kc ks 38 _ _ SHF _
  refine AW.iconst (dq rfl) ?_
  show AW l (pI pg 174) P kc ks 39 _ _ SHF _
  refine fw_putI (dq rfl) (pg_ok.2.1 174 _ _ _ _ rfl) rfl rfl rfl ?_
  show AW l (pI pg 174) P kc ks 42 _ _ SHF _
  refine AW.aload_n (dq rfl) rfl rfl ?_
  show AW l (pI pg 174) P kc ks 43 _ _ SHF _
  refine AW.iconst (dq rfl) ?_
  show AW l (pI pg 174) P kc ks 44 _ _ SHF _
  refine fw_putI (dq rfl) (pg_ok.2.1 174 _ _ _ _ rfl) rfl rfl rfl ?_
  show AW l (pI pg 174) P kc ks 47 _ _ SHF _
  refine AW.aload_n (dq rfl) rfl rfl ?_
  show AW l (pI pg 174) P kc ks 48 _ _ SHF _
  refine AW.iload_n (dq rfl) rfl ?_
  show AW l (pI pg 174) P kc ks 49 _ _ SHF _
  refine fw_putI (dq rfl) (pg_ok.2.1 174 _ _ _ _ rfl) rfl rfl rfl ?_
  show AW l (pI pg 174) P kc ks 52 _ _ SHF _
  refine AW.aload_n (dq rfl) rfl rfl ?_
  show AW l (pI pg 174) P kc ks 53 _ _ SHF _
  refine AW.iconst (dq rfl) ?_
  show AW l (pI pg 174) P kc ks 54 _ _ SHF _
  refine fw_putI (dq rfl) (pg_ok.2.1 174 _ _ _ _ rfl) rfl rfl rfl ?_
  show AW l (pI pg 174) P kc ks 57 _ _ SHF _
  refine AW.aload_n (dq rfl) rfl rfl ?_
  show AW l (pI pg 174) P kc ks 58 _ _ SHF _
  refine AW.iconst (dq rfl) ?_
  show AW l (pI pg 174) P kc ks 59 _ _ SHF _
  refine fw_putI (dq rfl) (pg_ok.2.1 174 _ _ _ _ rfl) rfl rfl rfl ?_
  show AW l (pI pg 174) P kc ks 62 _ _ SHF _
  refine AW.aload_n (dq rfl) rfl rfl ?_
  show AW l (pI pg 174) P kc ks 63 _ _ SHF _
  refine AW.iconst (dq rfl) ?_
  show AW l (pI pg 174) P kc ks 64 _ _ SHF _
  refine fw_putI (dq rfl) (pg_ok.2.1 174 _ _ _ _ rfl) rfl rfl rfl ?_
  show AW l (pI pg 174) P kc ks 67 _ _ SHF _
  refine AW.aload_n (dq rfl) rfl rfl ?_
  show AW l (pI pg 174) P kc ks 68 _ _ SHF _
  refine AW.iconst (dq rfl) ?_
  show AW l (pI pg 174) P kc ks 69 _ _ SHF _
  refine fw_putI (dq rfl) (pg_ok.2.1 174 _ _ _ _ rfl) rfl rfl rfl ?_
  show AW l (pI pg 174) P kc ks 72 _ _ SHF _
  refine AW.aload_n (dq rfl) rfl rfl ?_
  show AW l (pI pg 174) P kc ks 73 _ _ SHF _
  refine AW.iconst (dq rfl) ?_
  show AW l (pI pg 174) P kc ks 74 _ _ SHF _
  refine fw_putI (dq rfl) (pg_ok.2.1 174 _ _ _ _ rfl) rfl rfl rfl ?_
  show AW l (pI pg 174) P kc ks 77 _ _ SHF _
  refine AW.aload_n (dq rfl) rfl rfl ?_
  show AW l (pI pg 174) P kc ks 78 _ _ SHF _
  refine AW.iconst (dq rfl) ?_
  show AW l (pI pg 174) P kc ks 79 _ _ SHF _
  refine fw_putI (dq rfl) (pg_ok.2.1 174 _ _ _ _ rfl) rfl rfl rfl ?_
  show AW l (pI pg 174) P kc ks 82 _ _ SHF _
  refine AW.aload_n (dq rfl) rfl rfl ?_
  show AW l (pI pg 174) P kc ks 83 _ _ SHF _
  refine AW.iconst (dq rfl) ?_
  show AW l (pI pg 174) P kc ks 84 _ _ SHF _
  refine fw_putZ (dq rfl) (pg_ok.2.1 174 _ _ _ _ rfl) rfl rfl rfl (by decide) ?_
  show AW l (pI pg 174) P kc ks 87 _ _ SHF _
  refine AW.aload_n (dq rfl) rfl rfl ?_
  show AW l (pI pg 174) P kc ks 88 _ _ SHF _
  refine fw_callVV (as := []) (dq rfl) (pg_ok.2.2.1 174 _ _ _ _ rfl) rfl (by decide +kernel) rfl rfl (c2) (fun M1 e1 q1 => ?_)
  have hJ1 : ∀ e ∈ RM, M1.2.2 e.1 e.2.1 = e.2.2 := fun e he => by rw [e1]; exact hJ e he
  show AW l (pI pg 174) P kc ks 91 [(0, .ref 58), (1, .int (x))] [] SHF _
  refine AW.drop (lv' := [(0, .ref 58)]) (List.forall_mem_cons.mpr ⟨List.mem_of_getElem? (i := 0) rfl, fun _ h => absurd h List.not_mem_nil⟩) ?_
  exact k3 M1 e1 q1

theorem hou_91 {l : aL} {P : aP} {kc ks : Nat} {M : aM} (hJ : ∀ e ∈ RM, M.2.2 e.1 e.2.1 = e.2.2) (hl0 : l.1.stackTraces = false) (k3 : ∀ (h2 : (gdV (M.1 58 13) : Int32) = 0), AW l (pI pg 174) P kc ks 112 [(0, .ref 58)] [] SHF M) (k5 : ∀ (h2 : ¬ ((gdV (M.1 58 13) : Int32) = 0)), ∀ (h4 : (M.1 58 18 : Int32) = 0), AW l (pI pg 174) P kc ks 112 [(0, .ref 58)] [] SHF M) (Q6 : aM → Prop) (c7 : ∀ (h2 : ¬ ((gdV (M.1 58 13) : Int32) = 0)), ∀ (h4 : ¬ ((M.1 58 18 : Int32) = 0)), AC l (pI pg 181) (fcV M Q6) 0 0 [.ref 58] SHF M) (k8 : ∀ (h2 : ¬ ((gdV (M.1 58 13) : Int32) = 0)), ∀ (h4 : ¬ ((M.1 58 18 : Int32) = 0)), ∀ (M6 : aM), ∀ (e6 : M6.2.2 = M.2.2), ∀ (q6 : Q6 M6), AW l (pI pg 174) P kc ks 91 [(0, .ref 58)] [] SHF M6) : AW l (pI pg 174) P kc ks 91 [(0, .ref 58)] [] SHF M := by
  refine AW.aload_n (dq rfl) rfl rfl ?_
  show AW l (pI pg 174) P kc ks 92 _ _ SHF _
  refine fw_callVI (as := []) (dq rfl) (pg_ok.2.2.1 174 _ _ _ _ rfl) rfl (by decide +kernel) rfl rfl (igd_c hl0 (fun e he => hJ e he)) (fun y1 M1 e1 q1 => ?_)
  obtain ⟨rfl, rfl⟩ := q1
  show AW l (pI pg 174) P kc ks 95 [(0, .ref 58)] [.int (gdV (M.1 58 13))] SHF _
  refine AW.if_eq (dq rfl) (tgt := 112) (by decide) (fun h2 => ?_) (fun h2 => ?_)
  · have _ := h2
    refine AW.drop (lv' := [(0, .ref 58)]) (List.forall_mem_cons.mpr ⟨List.mem_of_getElem? (i := 0) rfl, fun _ h => absurd h List.not_mem_nil⟩) ?_
    exact k3 h2
  · have _ := h2
    refine AW.aload_n (dq rfl) rfl rfl ?_
    show AW l (pI pg 174) P kc ks 99 _ _ SHF _
    refine fw_get (dq rfl) (pg_ok.2.1 174 _ _ _ _ rfl) rfl (v := .int (M.1 58 18)) rfl ?_
    show AW l (pI pg 174) P kc ks 102 _ _ SHF _
    refine AW.if_eq (dq rfl) (tgt := 112) (by decide) (fun h4 => ?_) (fun h4 => ?_)
    · have _ := h4
      refine AW.drop (lv' := [(0, .ref 58)]) (List.forall_mem_cons.mpr ⟨List.mem_of_getElem? (i := 0) rfl, fun _ h => absurd h List.not_mem_nil⟩) ?_
      exact k5 h2 h4
    · have _ := h4
      refine AW.aload_n (dq rfl) rfl rfl ?_
      show AW l (pI pg 174) P kc ks 106 _ _ SHF _
      refine fw_callVV (as := []) (dq rfl) (pg_ok.2.2.1 174 _ _ _ _ rfl) rfl (by decide +kernel) rfl rfl (c7 h2 h4) (fun M6 e6 q6 => ?_)
      have hJ6 : ∀ e ∈ RM, M6.2.2 e.1 e.2.1 = e.2.2 := fun e he => by rw [e6]; exact hJ e he
      show AW l (pI pg 174) P kc ks 109 [(0, .ref 58)] [] SHF _
      refine AW.goto (dq rfl) (tgt := 91) (by decide) ?_
      refine AW.drop (lv' := [(0, .ref 58)]) (List.forall_mem_cons.mpr ⟨List.mem_of_getElem? (i := 0) rfl, fun _ h => absurd h List.not_mem_nil⟩) ?_
      exact k8 h2 h4 M6 e6 q6

theorem hou_112 {l : aL} {P : aP} {kc ks : Nat} {M : aM} (hJ : ∀ e ∈ RM, M.2.2 e.1 e.2.1 = e.2.2) (hl0 : l.1.stackTraces = false) (k3 : ∀ (h2 : ¬ (gdV (M.1 58 13) : Int32) = 0), AW l (pI pg 174) P kc ks 134 [(0, .ref 58)] [] SHF M) (o4 : ∀ (h2 : (gdV (M.1 58 13) : Int32) = 0), vp_in (Int32.ofInt 0) 3) (r5 : ∀ (h2 : (gdV (M.1 58 13) : Int32) = 0), P (.inl (some (.int ((aset M 66 (Int32.ofInt 0).toNatClampNeg (.int ((M.1 66 (Int32.ofInt 0).toNatClampNeg) + (Int32.ofInt 1)))).1 58 13)))) SHF (aset M 66 (Int32.ofInt 0).toNatClampNeg (.int ((M.1 66 (Int32.ofInt 0).toNatClampNeg) + (Int32.ofInt 1))))) : AW l (pI pg 174) P kc ks 112 [(0, .ref 58)] [] SHF M := by
  refine AW.aload_n (dq rfl) rfl rfl ?_
  show AW l (pI pg 174) P kc ks 113 _ _ SHF _
  refine fw_callVI (as := []) (dq rfl) (pg_ok.2.2.1 174 _ _ _ _ rfl) rfl (by decide +kernel) rfl rfl (igd_c hl0 (fun e he => hJ e he)) (fun y1 M1 e1 q1 => ?_)
  obtain ⟨rfl, rfl⟩ := q1
  show AW l (pI pg 174) P kc ks 116 [(0, .ref 58)] [.int (gdV (M.1 58 13))] SHF _
  refine AW.if_ne (dq rfl) (tgt := 134) (by decide) (fun h2 => ?_) (fun h2 => ?_)
  · have _ := h2
    refine AW.drop (lv' := [(0, .ref 58)]) (List.forall_mem_cons.mpr ⟨List.mem_of_getElem? (i := 0) rfl, fun _ h => absurd h List.not_mem_nil⟩) ?_
    exact k3 h2
  · have _ := h2
    refine AW.aload_n (dq rfl) rfl rfl ?_
    show AW l (pI pg 174) P kc ks 120 _ _ SHF _
    refine fw_get (dq rfl) (pg_ok.2.1 174 _ _ _ _ rfl) rfl (v := .ref 66) (isTA_ok rfl (rgR_ok hJ rfl)) ?_
    show AW l (pI pg 174) P kc ks 123 _ _ SHF _
    refine AW.iconst (dq rfl) ?_
    show AW l (pI pg 174) P kc ks 124 _ _ SHF _
    refine AW.dup2_11 (dq rfl) rfl rfl ?_
    show AW l (pI pg 174) P kc ks 125 _ _ SHF _
    refine AW.iald (dq rfl) rfl (o4 h2) ?_
    show AW l (pI pg 174) P kc ks 126 _ _ SHF _
    refine AW.iconst (dq rfl) ?_
    show AW l (pI pg 174) P kc ks 127 _ _ SHF _
    refine AW.iadd (dq rfl) ?_
    show AW l (pI pg 174) P kc ks 128 _ _ SHF _
    refine AW.iast (dq rfl) rfl (o4 h2) ?_
    show AW l (pI pg 174) P kc ks 129 _ _ SHF _
    refine AW.aload_n (dq rfl) rfl rfl ?_
    show AW l (pI pg 174) P kc ks 130 _ _ SHF _
    refine fw_get (dq rfl) (pg_ok.2.1 174 _ _ _ _ rfl) rfl (v := .int ((aset M 66 (Int32.ofInt 0).toNatClampNeg (.int ((M.1 66 (Int32.ofInt 0).toNatClampNeg) + (Int32.ofInt 1)))).1 58 13)) rfl ?_
    show AW l (pI pg 174) P kc ks 133 _ _ SHF _
    refine AW.iret (dq rfl) rfl ?_
    exact r5 h2

theorem hou_134 {l : aL} {P : aP} {kc ks : Nat} {M : aM} (hJ : ∀ e ∈ RM, M.2.2 e.1 e.2.1 = e.2.2) (hl0 : l.1.stackTraces = false) (k1 : AW l (pI pg 174) P kc ks 166 [(0, .ref 58)] [] SHF (aset (aset (aset (aset M 58 1 (.int (M.1 58 23))) 58 2 (.int ((aset M 58 1 (.int (M.1 58 23))).1 58 24))) 58 3 (.int ((aset (aset M 58 1 (.int (M.1 58 23))) 58 2 (.int ((aset M 58 1 (.int (M.1 58 23))).1 58 24))).1 58 25))) 58 4 (.int ((aset (aset (aset M 58 1 (.int (M.1 58 23))) 58 2 (.int ((aset M 58 1 (.int (M.1 58 23))).1 58 24))) 58 3 (.int ((aset (aset M 58 1 (.int (M.1 58 23))) 58 2 (.int ((aset M 58 1 (.int (M.1 58 23))).1 58 24))).1 58 25))).1 58 26)))) : AW l (pI pg 174) P kc ks 134 [(0, .ref 58)] [] SHF M := by
  refine AW.aload_n (dq rfl) rfl rfl ?_
  show AW l (pI pg 174) P kc ks 135 _ _ SHF _
  refine AW.aload_n (dq rfl) rfl rfl ?_
  show AW l (pI pg 174) P kc ks 136 _ _ SHF _
  refine fw_get (dq rfl) (pg_ok.2.1 174 _ _ _ _ rfl) rfl (v := .int (M.1 58 23)) rfl ?_
  show AW l (pI pg 174) P kc ks 139 _ _ SHF _
  refine fw_putI (dq rfl) (pg_ok.2.1 174 _ _ _ _ rfl) rfl rfl rfl ?_
  show AW l (pI pg 174) P kc ks 142 _ _ SHF _
  refine AW.aload_n (dq rfl) rfl rfl ?_
  show AW l (pI pg 174) P kc ks 143 _ _ SHF _
  refine AW.aload_n (dq rfl) rfl rfl ?_
  show AW l (pI pg 174) P kc ks 144 _ _ SHF _
  refine fw_get (dq rfl) (pg_ok.2.1 174 _ _ _ _ rfl) rfl (v := .int ((aset M 58 1 (.int (M.1 58 23))).1 58 24)) rfl ?_
  show AW l (pI pg 174) P kc ks 147 _ _ SHF _
  refine fw_putI (dq rfl) (pg_ok.2.1 174 _ _ _ _ rfl) rfl rfl rfl ?_
  show AW l (pI pg 174) P kc ks 150 _ _ SHF _
  refine AW.aload_n (dq rfl) rfl rfl ?_
  show AW l (pI pg 174) P kc ks 151 _ _ SHF _
  refine AW.aload_n (dq rfl) rfl rfl ?_
  show AW l (pI pg 174) P kc ks 152 _ _ SHF _
  refine fw_get (dq rfl) (pg_ok.2.1 174 _ _ _ _ rfl) rfl (v := .int ((aset (aset M 58 1 (.int (M.1 58 23))) 58 2 (.int ((aset M 58 1 (.int (M.1 58 23))).1 58 24))).1 58 25)) rfl ?_
  show AW l (pI pg 174) P kc ks 155 _ _ SHF _
  refine fw_putI (dq rfl) (pg_ok.2.1 174 _ _ _ _ rfl) rfl rfl rfl ?_
  show AW l (pI pg 174) P kc ks 158 _ _ SHF _
  refine AW.aload_n (dq rfl) rfl rfl ?_
  show AW l (pI pg 174) P kc ks 159 _ _ SHF _
  refine AW.aload_n (dq rfl) rfl rfl ?_
  show AW l (pI pg 174) P kc ks 160 _ _ SHF _
  refine fw_get (dq rfl) (pg_ok.2.1 174 _ _ _ _ rfl) rfl (v := .int ((aset (aset (aset M 58 1 (.int (M.1 58 23))) 58 2 (.int ((aset M 58 1 (.int (M.1 58 23))).1 58 24))) 58 3 (.int ((aset (aset M 58 1 (.int (M.1 58 23))) 58 2 (.int ((aset M 58 1 (.int (M.1 58 23))).1 58 24))).1 58 25))).1 58 26)) rfl ?_
  show AW l (pI pg 174) P kc ks 163 _ _ SHF _
  refine fw_putI (dq rfl) (pg_ok.2.1 174 _ _ _ _ rfl) rfl rfl rfl ?_
  show AW l (pI pg 174) P kc ks 166 _ _ SHF _
  refine AW.drop (lv' := [(0, .ref 58)]) (List.forall_mem_cons.mpr ⟨List.mem_of_getElem? (i := 0) rfl, fun _ h => absurd h List.not_mem_nil⟩) ?_
  exact k1

theorem hou_166 {l : aL} {P : aP} {kc ks : Nat} {M : aM} (hJ : ∀ e ∈ RM, M.2.2 e.1 e.2.1 = e.2.2) (hl0 : l.1.stackTraces = false) (Q1 : aM → Prop) (c2 : AC l (pI pg 192) (fcV M Q1) 0 0 [.ref 58, .ref 67, .ref 59] SHF M) (Q3 : aM → aM → Prop) (c4 : ∀ (M1 : aM), ∀ (e1 : M1.2.2 = M.2.2), ∀ (q1 : Q1 M1), AC l (pI pg 192) (fcV M1 (Q3 M1)) 0 0 [.ref 58, .ref 68, .ref 60] SHF M1) (Q5 : aM → aM → aM → Prop) (c6 : ∀ (M1 : aM), ∀ (e1 : M1.2.2 = M.2.2), ∀ (q1 : Q1 M1), ∀ (M3 : aM), ∀ (e3 : M3.2.2 = M1.2.2), ∀ (q3 : (Q3 M1) M3), AC l (pI pg 192) (fcV M3 (Q5 M1 M3)) 0 0 [.ref 58, .ref 69, .ref 61] SHF M3) (Q7 : aM → aM → aM → aM → Prop) (c8 : ∀ (M1 : aM), ∀ (e1 : M1.2.2 = M.2.2), ∀ (q1 : Q1 M1), ∀ (M3 : aM), ∀ (e3 : M3.2.2 = M1.2.2), ∀ (q3 : (Q3 M1) M3), ∀ (M5 : aM), ∀ (e5 : M5.2.2 = M3.2.2), ∀ (q5 : (Q5 M1 M3) M5), AC l (pI pg 192) (fcV M5 (Q7 M1 M3 M5)) 0 0 [.ref 58, .ref 70, .ref 62] SHF M5) (Q9 : aM → aM → aM → aM → aM → Prop) (c10 : ∀ (M1 : aM), ∀ (e1 : M1.2.2 = M.2.2), ∀ (q1 : Q1 M1), ∀ (M3 : aM), ∀ (e3 : M3.2.2 = M1.2.2), ∀ (q3 : (Q3 M1) M3), ∀ (M5 : aM), ∀ (e5 : M5.2.2 = M3.2.2), ∀ (q5 : (Q5 M1 M3) M5), ∀ (M7 : aM), ∀ (e7 : M7.2.2 = M5.2.2), ∀ (q7 : (Q7 M1 M3 M5) M7), AC l (pI pg 192) (fcV M7 (Q9 M1 M3 M5 M7)) 0 0 [.ref 58, .ref 71, .ref 63] SHF M7) (Q11 : aM → aM → aM → aM → aM → aM → Prop) (c12 : ∀ (M1 : aM), ∀ (e1 : M1.2.2 = M.2.2), ∀ (q1 : Q1 M1), ∀ (M3 : aM), ∀ (e3 : M3.2.2 = M1.2.2), ∀ (q3 : (Q3 M1) M3), ∀ (M5 : aM), ∀ (e5 : M5.2.2 = M3.2.2), ∀ (q5 : (Q5 M1 M3) M5), ∀ (M7 : aM), ∀ (e7 : M7.2.2 = M5.2.2), ∀ (q7 : (Q7 M1 M3 M5) M7), ∀ (M9 : aM), ∀ (e9 : M9.2.2 = M7.2.2), ∀ (q9 : (Q9 M1 M3 M5 M7) M9), AC l (pI pg 192) (fcV M9 (Q11 M1 M3 M5 M7 M9)) 0 0 [.ref 58, .ref 72, .ref 64] SHF M9) (k13 : ∀ (M1 : aM), ∀ (e1 : M1.2.2 = M.2.2), ∀ (q1 : Q1 M1), ∀ (M3 : aM), ∀ (e3 : M3.2.2 = M1.2.2), ∀ (q3 : (Q3 M1) M3), ∀ (M5 : aM), ∀ (e5 : M5.2.2 = M3.2.2), ∀ (q5 : (Q5 M1 M3) M5), ∀ (M7 : aM), ∀ (e7 : M7.2.2 = M5.2.2), ∀ (q7 : (Q7 M1 M3 M5) M7), ∀ (M9 : aM), ∀ (e9 : M9.2.2 = M7.2.2), ∀ (q9 : (Q9 M1 M3 M5 M7) M9), ∀ (M11 : aM), ∀ (e11 : M11.2.2 = M9.2.2), ∀ (q11 : (Q11 M1 M3 M5 M7 M9) M11), AW l (pI pg 174) P kc ks 240 [(0, .ref 58), (2, .int (Int32.ofInt 0))] [] SHF M11) : AW l (pI pg 174) P kc ks 166 [(0, .ref 58)] [] SHF M := by
  refine AW.aload_n (dq rfl) rfl rfl ?_
  show AW l (pI pg 174) P kc ks 167 _ _ SHF _
  refine AW.aload_n (dq rfl) rfl rfl ?_
  show AW l (pI pg 174) P kc ks 168 _ _ SHF _
  refine fw_get (dq rfl) (pg_ok.2.1 174 _ _ _ _ rfl) rfl (v := .ref 67) (isTA_ok rfl (rgR_ok hJ rfl)) ?_
  show AW l (pI pg 174) P kc ks 171 _ _ SHF _
  refine AW.aload_n (dq rfl) rfl rfl ?_
  show AW l (pI pg 174) P kc ks 172 _ _ SHF _
  refine fw_get (dq rfl) (pg_ok.2.1 174 _ _ _ _ rfl) rfl (v := .ref 59) (isTA_ok rfl (rgR_ok hJ rfl)) ?_
  show AW l (pI pg 174) P kc ks 175 _ _ SHF _
  refine fw_callVV (as := [.ref 67, .ref 59]) (dq rfl) (pg_ok.2.2.1 174 _ _ _ _ rfl) rfl (by decide +kernel) rfl rfl (c2) (fun M1 e1 q1 => ?_)
  have hJ1 : ∀ e ∈ RM, M1.2.2 e.1 e.2.1 = e.2.2 := fun e he => by rw [e1]; exact hJ e he
  show AW l (pI pg 174) P kc ks 178 [(0, .ref 58)] [] SHF _
  refine AW.aload_n (dq rfl) rfl rfl ?_
  show AW l (pI pg 174) P kc ks 179 _ _ SHF _
  refine AW.aload_n (dq rfl) rfl rfl ?_
  show AW l (pI pg 174) P kc ks 180 _ _ SHF _
  refine fw_get (dq rfl) (pg_ok.2.1 174 _ _ _ _ rfl) rfl (v := .ref 68) (isTA_ok rfl (rgR_ok hJ1 rfl)) ?_
  show AW l (pI pg 174) P kc ks 183 _ _ SHF _
  refine AW.aload_n (dq rfl) rfl rfl ?_
  show AW l (pI pg 174) P kc ks 184 _ _ SHF _
  refine fw_get (dq rfl) (pg_ok.2.1 174 _ _ _ _ rfl) rfl (v := .ref 60) (isTA_ok rfl (rgR_ok hJ1 rfl)) ?_
  show AW l (pI pg 174) P kc ks 187 _ _ SHF _
  refine fw_callVV (as := [.ref 68, .ref 60]) (dq rfl) (pg_ok.2.2.1 174 _ _ _ _ rfl) rfl (by decide +kernel) rfl rfl (c4 M1 e1 q1) (fun M3 e3 q3 => ?_)
  have hJ3 : ∀ e ∈ RM, M3.2.2 e.1 e.2.1 = e.2.2 := fun e he => by rw [e3]; exact hJ1 e he
  show AW l (pI pg 174) P kc ks 190 [(0, .ref 58)] [] SHF _
  refine AW.aload_n (dq rfl) rfl rfl ?_
  show AW l (pI pg 174) P kc ks 191 _ _ SHF _
  refine AW.aload_n (dq rfl) rfl rfl ?_
  show AW l (pI pg 174) P kc ks 192 _ _ SHF _
  refine fw_get (dq rfl) (pg_ok.2.1 174 _ _ _ _ rfl) rfl (v := .ref 69) (isTA_ok rfl (rgR_ok hJ3 rfl)) ?_
  show AW l (pI pg 174) P kc ks 195 _ _ SHF _
  refine AW.aload_n (dq rfl) rfl rfl ?_
  show AW l (pI pg 174) P kc ks 196 _ _ SHF _
  refine fw_get (dq rfl) (pg_ok.2.1 174 _ _ _ _ rfl) rfl (v := .ref 61) (isTA_ok rfl (rgR_ok hJ3 rfl)) ?_
  show AW l (pI pg 174) P kc ks 199 _ _ SHF _
  refine fw_callVV (as := [.ref 69, .ref 61]) (dq rfl) (pg_ok.2.2.1 174 _ _ _ _ rfl) rfl (by decide +kernel) rfl rfl (c6 M1 e1 q1 M3 e3 q3) (fun M5 e5 q5 => ?_)
  have hJ5 : ∀ e ∈ RM, M5.2.2 e.1 e.2.1 = e.2.2 := fun e he => by rw [e5]; exact hJ3 e he
  show AW l (pI pg 174) P kc ks 202 [(0, .ref 58)] [] SHF _
  refine AW.aload_n (dq rfl) rfl rfl ?_
  show AW l (pI pg 174) P kc ks 203 _ _ SHF _
  refine AW.aload_n (dq rfl) rfl rfl ?_
  show AW l (pI pg 174) P kc ks 204 _ _ SHF _
  refine fw_get (dq rfl) (pg_ok.2.1 174 _ _ _ _ rfl) rfl (v := .ref 70) (isTA_ok rfl (rgR_ok hJ5 rfl)) ?_
  show AW l (pI pg 174) P kc ks 207 _ _ SHF _
  refine AW.aload_n (dq rfl) rfl rfl ?_
  show AW l (pI pg 174) P kc ks 208 _ _ SHF _
  refine fw_get (dq rfl) (pg_ok.2.1 174 _ _ _ _ rfl) rfl (v := .ref 62) (isTA_ok rfl (rgR_ok hJ5 rfl)) ?_
  show AW l (pI pg 174) P kc ks 211 _ _ SHF _
  refine fw_callVV (as := [.ref 70, .ref 62]) (dq rfl) (pg_ok.2.2.1 174 _ _ _ _ rfl) rfl (by decide +kernel) rfl rfl (c8 M1 e1 q1 M3 e3 q3 M5 e5 q5) (fun M7 e7 q7 => ?_)
  have hJ7 : ∀ e ∈ RM, M7.2.2 e.1 e.2.1 = e.2.2 := fun e he => by rw [e7]; exact hJ5 e he
  show AW l (pI pg 174) P kc ks 214 [(0, .ref 58)] [] SHF _
  refine AW.aload_n (dq rfl) rfl rfl ?_
  show AW l (pI pg 174) P kc ks 215 _ _ SHF _
  refine AW.aload_n (dq rfl) rfl rfl ?_
  show AW l (pI pg 174) P kc ks 216 _ _ SHF _
  refine fw_get (dq rfl) (pg_ok.2.1 174 _ _ _ _ rfl) rfl (v := .ref 71) (isTA_ok rfl (rgR_ok hJ7 rfl)) ?_
  show AW l (pI pg 174) P kc ks 219 _ _ SHF _
  refine AW.aload_n (dq rfl) rfl rfl ?_
  show AW l (pI pg 174) P kc ks 220 _ _ SHF _
  refine fw_get (dq rfl) (pg_ok.2.1 174 _ _ _ _ rfl) rfl (v := .ref 63) (isTA_ok rfl (rgR_ok hJ7 rfl)) ?_
  show AW l (pI pg 174) P kc ks 223 _ _ SHF _
  refine fw_callVV (as := [.ref 71, .ref 63]) (dq rfl) (pg_ok.2.2.1 174 _ _ _ _ rfl) rfl (by decide +kernel) rfl rfl (c10 M1 e1 q1 M3 e3 q3 M5 e5 q5 M7 e7 q7) (fun M9 e9 q9 => ?_)
  have hJ9 : ∀ e ∈ RM, M9.2.2 e.1 e.2.1 = e.2.2 := fun e he => by rw [e9]; exact hJ7 e he
  show AW l (pI pg 174) P kc ks 226 [(0, .ref 58)] [] SHF _
  refine AW.aload_n (dq rfl) rfl rfl ?_
  show AW l (pI pg 174) P kc ks 227 _ _ SHF _
  refine AW.aload_n (dq rfl) rfl rfl ?_
  show AW l (pI pg 174) P kc ks 228 _ _ SHF _
  refine fw_get (dq rfl) (pg_ok.2.1 174 _ _ _ _ rfl) rfl (v := .ref 72) (isTA_ok rfl (rgR_ok hJ9 rfl)) ?_
  show AW l (pI pg 174) P kc ks 231 _ _ SHF _
  refine AW.aload_n (dq rfl) rfl rfl ?_
  show AW l (pI pg 174) P kc ks 232 _ _ SHF _
  refine fw_get (dq rfl) (pg_ok.2.1 174 _ _ _ _ rfl) rfl (v := .ref 64) (isTA_ok rfl (rgR_ok hJ9 rfl)) ?_
  show AW l (pI pg 174) P kc ks 235 _ _ SHF _
  refine fw_callVV (as := [.ref 72, .ref 64]) (dq rfl) (pg_ok.2.2.1 174 _ _ _ _ rfl) rfl (by decide +kernel) rfl rfl (c12 M1 e1 q1 M3 e3 q3 M5 e5 q5 M7 e7 q7 M9 e9 q9) (fun M11 e11 q11 => ?_)
  have hJ11 : ∀ e ∈ RM, M11.2.2 e.1 e.2.1 = e.2.2 := fun e he => by rw [e11]; exact hJ9 e he
  show AW l (pI pg 174) P kc ks 238 [(0, .ref 58)] [] SHF _
  refine AW.iconst (dq rfl) ?_
  show AW l (pI pg 174) P kc ks 239 _ _ SHF _
  refine AW.istore_n (dq rfl) (by decide +kernel) ?_
  show AW l (pI pg 174) P kc ks 240 [(2, .int (Int32.ofInt 0)), (0, .ref 58)] [] SHF _
  refine AW.drop (lv' := [(0, .ref 58), (2, .int (Int32.ofInt 0))]) (List.forall_mem_cons.mpr ⟨List.mem_of_getElem? (i := 1) rfl, List.forall_mem_cons.mpr ⟨List.mem_of_getElem? (i := 0) rfl, fun _ h => absurd h List.not_mem_nil⟩⟩) ?_
  exact k13 M1 e1 q1 M3 e3 q3 M5 e5 q5 M7 e7 q7 M9 e9 q9 M11 e11 q11

theorem hou_240 {l : aL} {P : aP} {kc ks : Nat} {i : Nat} {M : aM} (hJ : ∀ e ∈ RM, M.2.2 e.1 e.2.1 = e.2.2) (hl0 : l.1.stackTraces = false) (r2 : ∀ (h1 : ((Int8.ofInt 8).toInt32 : Int32) ≤ (nI i : Int32)), P (.inl (some (.int (Int32.ofInt 0)))) SHF (aset (aset (aset M 58 45 (.int (Int32.ofInt 0))) 58 51 (.int (Int32.ofInt (-1)))) 58 57 (.int (Int32.ofInt 0)))) (o3 : ∀ (h1 : ¬ (((Int8.ofInt 8).toInt32 : Int32) ≤ (nI i : Int32))), vp_in (nI i) 8) (k4 : ∀ (h1 : ¬ (((Int8.ofInt 8).toInt32 : Int32) ≤ (nI i : Int32))), AW l (pI pg 174) P kc ks 240 [(0, .ref 58), (2, .int ((nI i) + Int32.ofInt 1))] [] SHF (aset M 81 (nI i).toNatClampNeg (.int (Int32.ofInt (-1))))) : AW l (pI pg 174) P kc ks 240 [(0, .ref 58), (2, .int (nI i))] [] SHF M := by
  refine AW.iload_n (dq rfl) rfl ?_
  show AW l (pI pg 174) P kc ks 241 _ _ SHF _
  refine AW.bipush (dq rfl) ?_
  show AW l (pI pg 174) P kc ks 243 _ _ SHF _
  refine AW.icmp_ge (dq rfl) (tgt := 259) (by decide) (fun h1 => ?_) (fun h1 => ?_)
  · have _ := h1
    refine AW.aload_n (dq rfl) rfl rfl ?_
    show AW l (pI pg 174) P kc ks 260 _ _ SHF _
    refine AW.iconst (dq rfl) ?_
    show AW l (pI pg 174) P kc ks 261 _ _ SHF _
    refine fw_putZ (dq rfl) (pg_ok.2.1 174 _ _ _ _ rfl) rfl rfl rfl (by decide) ?_
    show AW l (pI pg 174) P kc ks 264 _ _ SHF _
    refine AW.aload_n (dq rfl) rfl rfl ?_
    show AW l (pI pg 174) P kc ks 265 _ _ SHF _
    refine AW.iconst (dq rfl) ?_
    show AW l (pI pg 174) P kc ks 266 _ _ SHF _
    refine fw_putI (dq rfl) (pg_ok.2.1 174 _ _ _ _ rfl) rfl rfl rfl ?_
    show AW l (pI pg 174) P kc ks 269 _ _ SHF _
    refine AW.aload_n (dq rfl) rfl rfl ?_
    show AW l (pI pg 174) P kc ks 270 _ _ SHF _
    refine AW.iconst (dq rfl) ?_
    show AW l (pI pg 174) P kc ks 271 _ _ SHF _
    refine fw_putZ (dq rfl) (pg_ok.2.1 174 _ _ _ _ rfl) rfl rfl rfl (by decide) ?_
    show AW l (pI pg 174) P kc ks 274 _ _ SHF _
    refine AW.iconst (dq rfl) ?_
    show AW l (pI pg 174) P kc ks 275 _ _ SHF _
    refine AW.iret (dq rfl) rfl ?_
    exact r2 h1
  · have _ := h1
    refine AW.aload_n (dq rfl) rfl rfl ?_
    show AW l (pI pg 174) P kc ks 247 _ _ SHF _
    refine fw_get (dq rfl) (pg_ok.2.1 174 _ _ _ _ rfl) rfl (v := .ref 81) (isTA_ok rfl (rgR_ok hJ rfl)) ?_
    show AW l (pI pg 174) P kc ks 250 _ _ SHF _
    refine AW.iload_n (dq rfl) rfl ?_
    show AW l (pI pg 174) P kc ks 251 _ _ SHF _
    refine AW.iconst (dq rfl) ?_
    show AW l (pI pg 174) P kc ks 252 _ _ SHF _
    refine AW.iast (dq rfl) rfl (o3 h1) ?_
    show AW l (pI pg 174) P kc ks 253 _ _ SHF _
    refine AW.iinc (dq rfl) rfl (by decide +kernel) ?_
    show AW l (pI pg 174) P kc ks 256 [(2, .int ((nI i) + Int32.ofInt 1)), (0, .ref 58)] [] SHF _
    refine AW.goto (dq rfl) (tgt := 240) (by decide) ?_
    refine AW.drop (lv' := [(0, .ref 58), (2, .int ((nI i) + Int32.ofInt 1))]) (List.forall_mem_cons.mpr ⟨List.mem_of_getElem? (i := 1) rfl, List.forall_mem_cons.mpr ⟨List.mem_of_getElem? (i := 0) rfl, fun _ h => absurd h List.not_mem_nil⟩⟩) ?_
    exact k4 h1

theorem rgf_0 {l : aL} {P : aP} {kc ks : Nat} {M : aM} (hJ : ∀ e ∈ RM, M.2.2 e.1 e.2.1 = e.2.2) (hl0 : l.1.stackTraces = false) (r3 : ∀ (h1 : ¬ (M.1 58 0 : Int32) = 0), ∀ (h2 : ¬ (M.1 58 0 : Int32) = 0), P (.inl (some (.int (Int32.ofInt 0)))) SHF M) (r4 : ∀ (h1 : ¬ (M.1 58 0 : Int32) = 0), ∀ (h2 : (M.1 58 0 : Int32) = 0), P (.inl (some (.int (Int32.ofInt 1)))) SHF M) (r7 : ∀ (h1 : (M.1 58 0 : Int32) = 0), ∀ (h6 : ¬ ((aset M 58 0 (.int (Int32.ofInt 1))).1 58 0 : Int32) = 0), P (.inl (some (.int (Int32.ofInt 0)))) SHF (aset M 58 0 (.int (Int32.ofInt 1)))) (r8 : ∀ (h1 : (M.1 58 0 : Int32) = 0), ∀ (h6 : ((aset M 58 0 (.int (Int32.ofInt 1))).1 58 0 : Int32) = 0), P (.inl (some (.int (Int32.ofInt 1)))) SHF (aset M 58 0 (.int (Int32.ofInt 1)))) : AW l (pI pg 175) P kc ks 0 [(0, .ref 58), (1, .int (Int32.ofInt 0)), (2, .int (Int32.ofInt 1))] [] SHF M := by
  refine AW.aload_n (dq rfl) rfl rfl ?_
  show AW l (pI pg 175) P kc ks 1 _ _ SHF _
  refine fw_get (dq rfl) (pg_ok.2.1 175 _ _ _ _ rfl) rfl (v := .int (M.1 58 0)) rfl ?_
  show AW l (pI pg 175) P kc ks 4 _ _ SHF _
  refine AW.if_ne (dq rfl) (tgt := 16) (by decide) (fun h1 => ?_) (fun h1 => ?_)
  · have _ := h1
    refine AW.aload_n (dq rfl) rfl rfl ?_
    show AW l (pI pg 175) P kc ks 17 _ _ SHF _
    refine fw_get (dq rfl) (pg_ok.2.1 175 _ _ _ _ rfl) rfl (v := .int (M.1 58 0)) rfl ?_
    show AW l (pI pg 175) P kc ks 20 _ _ SHF _
    refine AW.if_ne (dq rfl) (tgt := 27) (by decide) (fun h2 => ?_) (fun h2 => ?_)
    · have _ := h2
      refine AW.iconst (dq rfl) ?_
      show AW l (pI pg 175) P kc ks 28 _ _ SHF _
      refine AW.zret (dq rfl) rfl (by decide) ?_
      exact r3 h1 h2
    · have _ := h2
      refine AW.iconst (dq rfl) ?_
      show AW l (pI pg 175) P kc ks 24 _ _ SHF _
      refine AW.goto (dq rfl) (tgt := 28) (by decide) ?_
      refine AW.zret (dq rfl) rfl (by decide) ?_
      exact r4 h1 h2
  · have _ := h1
    refine AW.iload_n (dq rfl) rfl ?_
    show AW l (pI pg 175) P kc ks 8 _ _ SHF _
    refine AW.if_ne (dq rfl) (tgt := 16) (by decide) (fun h5 => ?_) (fun h5 => ?_)
    · exact absurd h5 (by decide)
    refine AW.aload_n (dq rfl) rfl rfl ?_
    show AW l (pI pg 175) P kc ks 12 _ _ SHF _
    refine AW.iload_n (dq rfl) rfl ?_
    show AW l (pI pg 175) P kc ks 13 _ _ SHF _
    refine fw_putI (dq rfl) (pg_ok.2.1 175 _ _ _ _ rfl) rfl rfl rfl ?_
    show AW l (pI pg 175) P kc ks 16 _ _ SHF _
    refine AW.aload_n (dq rfl) rfl rfl ?_
    show AW l (pI pg 175) P kc ks 17 _ _ SHF _
    refine fw_get (dq rfl) (pg_ok.2.1 175 _ _ _ _ rfl) rfl (v := .int ((aset M 58 0 (.int (Int32.ofInt 1))).1 58 0)) rfl ?_
    show AW l (pI pg 175) P kc ks 20 _ _ SHF _
    refine AW.if_ne (dq rfl) (tgt := 27) (by decide) (fun h6 => ?_) (fun h6 => ?_)
    · have _ := h6
      refine AW.iconst (dq rfl) ?_
      show AW l (pI pg 175) P kc ks 28 _ _ SHF _
      refine AW.zret (dq rfl) rfl (by decide) ?_
      exact r7 h1 h6
    · have _ := h6
      refine AW.iconst (dq rfl) ?_
      show AW l (pI pg 175) P kc ks 24 _ _ SHF _
      refine AW.goto (dq rfl) (tgt := 28) (by decide) ?_
      refine AW.zret (dq rfl) rfl (by decide) ?_
      exact r8 h1 h6

theorem rgt_0 {l : aL} {P : aP} {kc ks : Nat} {M : aM} (hJ : ∀ e ∈ RM, M.2.2 e.1 e.2.1 = e.2.2) (hl0 : l.1.stackTraces = false) (r3 : ∀ (h1 : ¬ (M.1 58 0 : Int32) = 0), ∀ (h2 : ¬ (M.1 58 0 : Int32) = 0), P (.inl (some (.int (Int32.ofInt 0)))) SHF M) (r4 : ∀ (h1 : ¬ (M.1 58 0 : Int32) = 0), ∀ (h2 : (M.1 58 0 : Int32) = 0), P (.inl (some (.int (Int32.ofInt 1)))) SHF M) (r7 : ∀ (h1 : (M.1 58 0 : Int32) = 0), ∀ (h6 : ¬ (M.1 58 0 : Int32) = 0), P (.inl (some (.int (Int32.ofInt 0)))) SHF M) (r8 : ∀ (h1 : (M.1 58 0 : Int32) = 0), ∀ (h6 : (M.1 58 0 : Int32) = 0), P (.inl (some (.int (Int32.ofInt 1)))) SHF M) : AW l (pI pg 175) P kc ks 0 [(0, .ref 58), (1, .int (Int32.ofInt 1)), (2, .int (Int32.ofInt 1))] [] SHF M := by
  refine AW.aload_n (dq rfl) rfl rfl ?_
  show AW l (pI pg 175) P kc ks 1 _ _ SHF _
  refine fw_get (dq rfl) (pg_ok.2.1 175 _ _ _ _ rfl) rfl (v := .int (M.1 58 0)) rfl ?_
  show AW l (pI pg 175) P kc ks 4 _ _ SHF _
  refine AW.if_ne (dq rfl) (tgt := 16) (by decide) (fun h1 => ?_) (fun h1 => ?_)
  · have _ := h1
    refine AW.aload_n (dq rfl) rfl rfl ?_
    show AW l (pI pg 175) P kc ks 17 _ _ SHF _
    refine fw_get (dq rfl) (pg_ok.2.1 175 _ _ _ _ rfl) rfl (v := .int (M.1 58 0)) rfl ?_
    show AW l (pI pg 175) P kc ks 20 _ _ SHF _
    refine AW.if_ne (dq rfl) (tgt := 27) (by decide) (fun h2 => ?_) (fun h2 => ?_)
    · have _ := h2
      refine AW.iconst (dq rfl) ?_
      show AW l (pI pg 175) P kc ks 28 _ _ SHF _
      refine AW.zret (dq rfl) rfl (by decide) ?_
      exact r3 h1 h2
    · have _ := h2
      refine AW.iconst (dq rfl) ?_
      show AW l (pI pg 175) P kc ks 24 _ _ SHF _
      refine AW.goto (dq rfl) (tgt := 28) (by decide) ?_
      refine AW.zret (dq rfl) rfl (by decide) ?_
      exact r4 h1 h2
  · have _ := h1
    refine AW.iload_n (dq rfl) rfl ?_
    show AW l (pI pg 175) P kc ks 8 _ _ SHF _
    refine AW.if_ne (dq rfl) (tgt := 16) (by decide) (fun h5 => ?_) (fun h5 => ?_)
    rotate_left
    · exact absurd h5 (by decide)
    refine AW.aload_n (dq rfl) rfl rfl ?_
    show AW l (pI pg 175) P kc ks 17 _ _ SHF _
    refine fw_get (dq rfl) (pg_ok.2.1 175 _ _ _ _ rfl) rfl (v := .int (M.1 58 0)) rfl ?_
    show AW l (pI pg 175) P kc ks 20 _ _ SHF _
    refine AW.if_ne (dq rfl) (tgt := 27) (by decide) (fun h6 => ?_) (fun h6 => ?_)
    · have _ := h6
      refine AW.iconst (dq rfl) ?_
      show AW l (pI pg 175) P kc ks 28 _ _ SHF _
      refine AW.zret (dq rfl) rfl (by decide) ?_
      exact r7 h1 h6
    · have _ := h6
      refine AW.iconst (dq rfl) ?_
      show AW l (pI pg 175) P kc ks 24 _ _ SHF _
      refine AW.goto (dq rfl) (tgt := 28) (by decide) ?_
      refine AW.zret (dq rfl) rfl (by decide) ?_
      exact r8 h1 h6

