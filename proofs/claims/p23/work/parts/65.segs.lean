/-! stretches of the reference's reading, printed by wip/gen/segs_m.py -/
def gdV (x : Int32) : Int32 := if x = 0 then Int32.ofInt 1 else Int32.ofInt 0
def wgM (M : aM) (x : Int32) : aM := if M.1 58 13 = 0 then aset (aset M 58 13 (.int x)) 58 14 (.int (M.1 58 19)) else M
theorem wgM_2 {M : aM} {x : Int32} : (wgM M x).2.2 = M.2.2 := by
  unfold wgM
  split
  · rfl
  · rfl
def pmV (M F : aM) : aP := fcV M (fun M' => F = M')
theorem igd_0 {l : aL} {P : aP} {kc ks : Nat} {M : aM} (hJ : ∀ e ∈ RM, M.2.2 e.1 e.2.1 = e.2.2) (hl0 : l.1.stackTraces = false) (r2 : ∀ (h1 : ¬ (M.1 58 13 : Int32) = 0), P (.inl (some (.int (Int32.ofInt 0)))) SHF M) (r3 : ∀ (h1 : (M.1 58 13 : Int32) = 0), P (.inl (some (.int (Int32.ofInt 1)))) SHF M) : AW l (pI pg 180) P kc ks 0 [(0, .ref 58)] [] SHF M := by
  refine AW.aload_n (dq rfl) rfl rfl ?_
  show AW l (pI pg 180) P kc ks 1 _ _ SHF _
  refine fw_get (dq rfl) (pg_ok.2.1 180 _ _ _ _ rfl) rfl (v := .int (M.1 58 13)) rfl ?_
  show AW l (pI pg 180) P kc ks 4 _ _ SHF _
  refine AW.if_ne (dq rfl) (tgt := 11) (by decide) (fun h1 => ?_) (fun h1 => ?_)
  · have _ := h1
    refine AW.iconst (dq rfl) ?_
    show AW l (pI pg 180) P kc ks 12 _ _ SHF _
    refine AW.zret (dq rfl) rfl (by decide) ?_
    exact r2 h1
  · have _ := h1
    refine AW.iconst (dq rfl) ?_
    show AW l (pI pg 180) P kc ks 8 _ _ SHF _
    refine AW.goto (dq rfl) (tgt := 12) (by decide) ?_
    refine AW.zret (dq rfl) rfl (by decide) ?_
    exact r3 h1

theorem igd_c {l : aL} (hl0 : l.1.stackTraces = false) {M : aM} (hJ : ∀ e ∈ RM, M.2.2 e.1 e.2.1 = e.2.2) : AC l (pI pg 180) (pvI M (gdV (M.1 58 13))) 0 0 [.ref 58] SHF M := by
  refine fw_of hl0 ⟨by decide +kernel, by decide +kernel, by decide +kernel⟩ rfl ?_
  refine igd_0 hJ hl0 (fun h => ?_) (fun h => ?_)
  · rw [show gdV (M.1 58 13) = Int32.ofInt 0 by unfold gdV; rw [if_neg h]]
    exact pvI_of
  · rw [show gdV (M.1 58 13) = Int32.ofInt 1 by unfold gdV; rw [if_pos h]]
    exact pvI_of

theorem wrg_0 {l : aL} {P : aP} {kc ks : Nat} {x : Int32} {M : aM} (hJ : ∀ e ∈ RM, M.2.2 e.1 e.2.1 = e.2.2) (hl0 : l.1.stackTraces = false) (r2 : ∀ (h1 : (M.1 58 13 : Int32) = 0), P (.inl none) SHF (aset (aset M 58 13 (.int (x))) 58 14 (.int ((aset M 58 13 (.int (x))).1 58 19)))) (r3 : ∀ (h1 : ¬ ((M.1 58 13 : Int32) = 0)), P (.inl none) SHF M) : AW l (pI pg 185) P kc ks 0 [(0, .ref 58), (1, .int (x))] [] SHF M := by
  refine AW.aload_n (dq rfl) rfl rfl ?_
  show AW l (pI pg 185) P kc ks 1 _ _ SHF _
  refine fw_get (dq rfl) (pg_ok.2.1 185 _ _ _ _ rfl) rfl (v := .int (M.1 58 13)) rfl ?_
  show AW l (pI pg 185) P kc ks 4 _ _ SHF _
  refine AW.if_eq (dq rfl) (tgt := 8) (by decide) (fun h1 => ?_) (fun h1 => ?_)
  · have _ := h1
    refine AW.aload_n (dq rfl) rfl rfl ?_
    show AW l (pI pg 185) P kc ks 9 _ _ SHF _
    refine AW.iload_n (dq rfl) rfl ?_
    show AW l (pI pg 185) P kc ks 10 _ _ SHF _
    refine fw_putI (dq rfl) (pg_ok.2.1 185 _ _ _ _ rfl) rfl rfl rfl ?_
    show AW l (pI pg 185) P kc ks 13 _ _ SHF _
    refine AW.aload_n (dq rfl) rfl rfl ?_
    show AW l (pI pg 185) P kc ks 14 _ _ SHF _
    refine AW.aload_n (dq rfl) rfl rfl ?_
    show AW l (pI pg 185) P kc ks 15 _ _ SHF _
    refine fw_get (dq rfl) (pg_ok.2.1 185 _ _ _ _ rfl) rfl (v := .int ((aset M 58 13 (.int (x))).1 58 19)) rfl ?_
    show AW l (pI pg 185) P kc ks 18 _ _ SHF _
    refine fw_putI (dq rfl) (pg_ok.2.1 185 _ _ _ _ rfl) rfl rfl rfl ?_
    show AW l (pI pg 185) P kc ks 21 _ _ SHF _
    refine AW.vret (dq rfl) rfl ?_
    exact r2 h1
  · have _ := h1
    refine AW.vret (dq rfl) rfl ?_
    exact r3 h1

theorem wrg_c {l : aL} (hl0 : l.1.stackTraces = false) {x : Int32} {M : aM} (hJ : ∀ e ∈ RM, M.2.2 e.1 e.2.1 = e.2.2) : AC l (pI pg 185) (pmV M (wgM M x)) 0 0 [.ref 58, .int x] SHF M := by
  refine fw_of hl0 ⟨by decide +kernel, by decide +kernel, by decide +kernel⟩ rfl ?_
  refine wrg_0 hJ hl0 (fun h => ?_) (fun h => ?_)
  · refine ⟨rfl, rfl, rfl, ?_⟩
    rw [wgM, if_pos h]
    rfl
  · refine ⟨rfl, rfl, rfl, ?_⟩
    rw [wgM, if_neg h]

theorem nrm_0 {l : aL} {P : aP} {kc ks : Nat} {x y : Int32} {M : aM} (hJ : ∀ e ∈ RM, M.2.2 e.1 e.2.1 = e.2.2) (hl0 : l.1.stackTraces = false) (k6 : ∀ (h2 : ¬ (gdV (M.1 58 13) : Int32) = 0), ∀ (h3 : (M.1 58 18 : Int32) = (Int32.ofInt 2 : Int32)), ∀ (h4 : (Int32.ofInt 4 : Int32) < (M.1 58 20 : Int32)), AW l (pI pg 186) P kc ks 54 [(0, .ref 58)] [] SHF (wgM M (Int32.ofInt 2))) (k9 : ∀ (h2 : ¬ (gdV (M.1 58 13) : Int32) = 0), ∀ (h3 : (M.1 58 18 : Int32) = (Int32.ofInt 2 : Int32)), ∀ (h4 : ¬ ((Int32.ofInt 4 : Int32) < (M.1 58 20 : Int32))), ∀ (h7 : (M.1 58 21 : Int32) < (x : Int32)), AW l (pI pg 186) P kc ks 54 [(0, .ref 58)] [] SHF (wgM M (Int32.ofInt 2))) (k11 : ∀ (h2 : ¬ (gdV (M.1 58 13) : Int32) = 0), ∀ (h3 : (M.1 58 18 : Int32) = (Int32.ofInt 2 : Int32)), ∀ (h4 : ¬ ((Int32.ofInt 4 : Int32) < (M.1 58 20 : Int32))), ∀ (h7 : ¬ ((M.1 58 21 : Int32) < (x : Int32))), ∀ (h10 : (M.1 58 21 : Int32) ≤ (y : Int32)), AW l (pI pg 186) P kc ks 54 [(0, .ref 58)] [] SHF M) (k13 : ∀ (h2 : ¬ (gdV (M.1 58 13) : Int32) = 0), ∀ (h3 : (M.1 58 18 : Int32) = (Int32.ofInt 2 : Int32)), ∀ (h4 : ¬ ((Int32.ofInt 4 : Int32) < (M.1 58 20 : Int32))), ∀ (h7 : ¬ ((M.1 58 21 : Int32) < (x : Int32))), ∀ (h10 : ¬ ((M.1 58 21 : Int32) ≤ (y : Int32))), AW l (pI pg 186) P kc ks 54 [(0, .ref 58)] [] SHF (wgM M (Int32.ofInt 2))) (k15 : ∀ (h2 : ¬ (gdV (M.1 58 13) : Int32) = 0), ∀ (h3 : ¬ ((M.1 58 18 : Int32) = (Int32.ofInt 2 : Int32))), AW l (pI pg 186) P kc ks 54 [(0, .ref 58)] [] SHF (wgM M (Int32.ofInt 1))) (r16 : ∀ (h2 : (gdV (M.1 58 13) : Int32) = 0), P (.inl (some (.int (Int32.ofInt 0)))) SHF M) : AW l (pI pg 186) P kc ks 0 [(0, .ref 58), (1, .int (x)), (2, .int (y))] [] SHF M := by
  refine AW.aload_n (dq rfl) rfl rfl ?_
  show AW l (pI pg 186) P kc ks 1 _ _ SHF _
  refine fw_callVI (as := []) (dq rfl) (pg_ok.2.2.1 186 _ _ _ _ rfl) rfl (by decide +kernel) rfl rfl (igd_c hl0 (fun e he => hJ e he)) (fun y1 M1 e1 q1 => ?_)
  obtain ⟨rfl, rfl⟩ := q1
  show AW l (pI pg 186) P kc ks 4 [(0, .ref 58), (1, .int (x)), (2, .int (y))] [.int (gdV (M.1 58 13))] SHF _
  refine AW.if_ne (dq rfl) (tgt := 9) (by decide) (fun h2 => ?_) (fun h2 => ?_)
  · have _ := h2
    refine AW.aload_n (dq rfl) rfl rfl ?_
    show AW l (pI pg 186) P kc ks 10 _ _ SHF _
    refine fw_get (dq rfl) (pg_ok.2.1 186 _ _ _ _ rfl) rfl (v := .int (M.1 58 18)) rfl ?_
    show AW l (pI pg 186) P kc ks 13 _ _ SHF _
    refine AW.iconst (dq rfl) ?_
    show AW l (pI pg 186) P kc ks 14 _ _ SHF _
    refine AW.icmp_eq (dq rfl) (tgt := 25) (by decide) (fun h3 => ?_) (fun h3 => ?_)
    · have _ := h3
      refine AW.aload_n (dq rfl) rfl rfl ?_
      show AW l (pI pg 186) P kc ks 26 _ _ SHF _
      refine fw_get (dq rfl) (pg_ok.2.1 186 _ _ _ _ rfl) rfl (v := .int (M.1 58 20)) rfl ?_
      show AW l (pI pg 186) P kc ks 29 _ _ SHF _
      refine AW.iconst (dq rfl) ?_
      show AW l (pI pg 186) P kc ks 30 _ _ SHF _
      refine AW.icmp_gt (dq rfl) (tgt := 49) (by decide) (fun h4 => ?_) (fun h4 => ?_)
      · have _ := h4
        refine AW.aload_n (dq rfl) rfl rfl ?_
        show AW l (pI pg 186) P kc ks 50 _ _ SHF _
        refine AW.iconst (dq rfl) ?_
        show AW l (pI pg 186) P kc ks 51 _ _ SHF _
        refine fw_callVV (as := [.int (Int32.ofInt 2)]) (dq rfl) (pg_ok.2.2.1 186 _ _ _ _ rfl) rfl (by decide +kernel) rfl rfl (wrg_c hl0 (fun e he => hJ e he)) (fun M5 e5 q5 => ?_)
        obtain rfl := q5
        have hJ5 : ∀ e ∈ RM, (wgM M (Int32.ofInt 2)).2.2 e.1 e.2.1 = e.2.2 := fun e he => by rw [wgM_2]; exact hJ e he
        show AW l (pI pg 186) P kc ks 54 [(0, .ref 58), (1, .int (x)), (2, .int (y))] [] SHF _
        refine AW.drop (lv' := [(0, .ref 58)]) (List.forall_mem_cons.mpr ⟨List.mem_of_getElem? (i := 0) rfl, fun _ h => absurd h List.not_mem_nil⟩) ?_
        exact k6 h2 h3 h4
      · have _ := h4
        refine AW.aload_n (dq rfl) rfl rfl ?_
        show AW l (pI pg 186) P kc ks 34 _ _ SHF _
        refine fw_get (dq rfl) (pg_ok.2.1 186 _ _ _ _ rfl) rfl (v := .int (M.1 58 21)) rfl ?_
        show AW l (pI pg 186) P kc ks 37 _ _ SHF _
        refine AW.iload_n (dq rfl) rfl ?_
        show AW l (pI pg 186) P kc ks 38 _ _ SHF _
        refine AW.icmp_lt (dq rfl) (tgt := 49) (by decide) (fun h7 => ?_) (fun h7 => ?_)
        · have _ := h7
          refine AW.aload_n (dq rfl) rfl rfl ?_
          show AW l (pI pg 186) P kc ks 50 _ _ SHF _
          refine AW.iconst (dq rfl) ?_
          show AW l (pI pg 186) P kc ks 51 _ _ SHF _
          refine fw_callVV (as := [.int (Int32.ofInt 2)]) (dq rfl) (pg_ok.2.2.1 186 _ _ _ _ rfl) rfl (by decide +kernel) rfl rfl (wrg_c hl0 (fun e he => hJ e he)) (fun M8 e8 q8 => ?_)
          obtain rfl := q8
          have hJ8 : ∀ e ∈ RM, (wgM M (Int32.ofInt 2)).2.2 e.1 e.2.1 = e.2.2 := fun e he => by rw [wgM_2]; exact hJ e he
          show AW l (pI pg 186) P kc ks 54 [(0, .ref 58), (1, .int (x)), (2, .int (y))] [] SHF _
          refine AW.drop (lv' := [(0, .ref 58)]) (List.forall_mem_cons.mpr ⟨List.mem_of_getElem? (i := 0) rfl, fun _ h => absurd h List.not_mem_nil⟩) ?_
          exact k9 h2 h3 h4 h7
        · have _ := h7
          refine AW.aload_n (dq rfl) rfl rfl ?_
          show AW l (pI pg 186) P kc ks 42 _ _ SHF _
          refine fw_get (dq rfl) (pg_ok.2.1 186 _ _ _ _ rfl) rfl (v := .int (M.1 58 21)) rfl ?_
          show AW l (pI pg 186) P kc ks 45 _ _ SHF _
          refine AW.iload_n (dq rfl) rfl ?_
          show AW l (pI pg 186) P kc ks 46 _ _ SHF _
          refine AW.icmp_le (dq rfl) (tgt := 54) (by decide) (fun h10 => ?_) (fun h10 => ?_)
          · have _ := h10
            refine AW.drop (lv' := [(0, .ref 58)]) (List.forall_mem_cons.mpr ⟨List.mem_of_getElem? (i := 0) rfl, fun _ h => absurd h List.not_mem_nil⟩) ?_
            exact k11 h2 h3 h4 h7 h10
          · have _ := h10
            refine AW.aload_n (dq rfl) rfl rfl ?_
            show AW l (pI pg 186) P kc ks 50 _ _ SHF _
            refine AW.iconst (dq rfl) ?_
            show AW l (pI pg 186) P kc ks 51 _ _ SHF _
            refine fw_callVV (as := [.int (Int32.ofInt 2)]) (dq rfl) (pg_ok.2.2.1 186 _ _ _ _ rfl) rfl (by decide +kernel) rfl rfl (wrg_c hl0 (fun e he => hJ e he)) (fun M12 e12 q12 => ?_)
            obtain rfl := q12
            have hJ12 : ∀ e ∈ RM, (wgM M (Int32.ofInt 2)).2.2 e.1 e.2.1 = e.2.2 := fun e he => by rw [wgM_2]; exact hJ e he
            show AW l (pI pg 186) P kc ks 54 [(0, .ref 58), (1, .int (x)), (2, .int (y))] [] SHF _
            refine AW.drop (lv' := [(0, .ref 58)]) (List.forall_mem_cons.mpr ⟨List.mem_of_getElem? (i := 0) rfl, fun _ h => absurd h List.not_mem_nil⟩) ?_
            exact k13 h2 h3 h4 h7 h10
    · have _ := h3
      refine AW.aload_n (dq rfl) rfl rfl ?_
      show AW l (pI pg 186) P kc ks 18 _ _ SHF _
      refine AW.iconst (dq rfl) ?_
      show AW l (pI pg 186) P kc ks 19 _ _ SHF _
      refine fw_callVV (as := [.int (Int32.ofInt 1)]) (dq rfl) (pg_ok.2.2.1 186 _ _ _ _ rfl) rfl (by decide +kernel) rfl rfl (wrg_c hl0 (fun e he => hJ e he)) (fun M14 e14 q14 => ?_)
      obtain rfl := q14
      have hJ14 : ∀ e ∈ RM, (wgM M (Int32.ofInt 1)).2.2 e.1 e.2.1 = e.2.2 := fun e he => by rw [wgM_2]; exact hJ e he
      show AW l (pI pg 186) P kc ks 22 [(0, .ref 58), (1, .int (x)), (2, .int (y))] [] SHF _
      refine AW.goto (dq rfl) (tgt := 54) (by decide) ?_
      refine AW.drop (lv' := [(0, .ref 58)]) (List.forall_mem_cons.mpr ⟨List.mem_of_getElem? (i := 0) rfl, fun _ h => absurd h List.not_mem_nil⟩) ?_
      exact k15 h2 h3
  · have _ := h2
    refine AW.iconst (dq rfl) ?_
    show AW l (pI pg 186) P kc ks 8 _ _ SHF _
    refine AW.iret (dq rfl) rfl ?_
    exact r16 h2

theorem nrm_54 {l : aL} {P : aP} {kc ks : Nat} {M : aM} (hJ : ∀ e ∈ RM, M.2.2 e.1 e.2.1 = e.2.2) (hl0 : l.1.stackTraces = false) (r3 : ∀ (h2 : (gdV (M.1 58 13) : Int32) = 0), P (.inl (some (.int (M.1 58 21)))) SHF M) (Q4 : aM → Prop) (c5 : ∀ (h2 : ¬ ((gdV (M.1 58 13) : Int32) = 0)), AC l (pI pg 176) (fcV M Q4) 0 0 [.ref 58] SHF M) (r6 : ∀ (h2 : ¬ ((gdV (M.1 58 13) : Int32) = 0)), ∀ (M4 : aM), ∀ (e4 : M4.2.2 = M.2.2), ∀ (q4 : Q4 M4), P (.inl (some (.int (M.1 58 21)))) SHF M4) : AW l (pI pg 186) P kc ks 54 [(0, .ref 58)] [] SHF M := by
  refine AW.aload_n (dq rfl) rfl rfl ?_
  show AW l (pI pg 186) P kc ks 55 _ _ SHF _
  refine fw_get (dq rfl) (pg_ok.2.1 186 _ _ _ _ rfl) rfl (v := .int (M.1 58 21)) rfl ?_
  show AW l (pI pg 186) P kc ks 58 _ _ SHF _
  refine AW.istore_n (dq rfl) (by decide +kernel) ?_
  show AW l (pI pg 186) P kc ks 59 [(3, .int (M.1 58 21)), (0, .ref 58)] [] SHF _
  refine AW.aload_n (dq rfl) rfl rfl ?_
  show AW l (pI pg 186) P kc ks 60 _ _ SHF _
  refine fw_callVI (as := []) (dq rfl) (pg_ok.2.2.1 186 _ _ _ _ rfl) rfl (by decide +kernel) rfl rfl (igd_c hl0 (fun e he => hJ e he)) (fun y1 M1 e1 q1 => ?_)
  obtain ⟨rfl, rfl⟩ := q1
  show AW l (pI pg 186) P kc ks 63 [(3, .int (M.1 58 21)), (0, .ref 58)] [.int (gdV (M.1 58 13))] SHF _
  refine AW.if_eq (dq rfl) (tgt := 70) (by decide) (fun h2 => ?_) (fun h2 => ?_)
  · have _ := h2
    refine AW.iload_n (dq rfl) rfl ?_
    show AW l (pI pg 186) P kc ks 71 _ _ SHF _
    refine AW.iret (dq rfl) rfl ?_
    exact r3 h2
  · have _ := h2
    refine AW.aload_n (dq rfl) rfl rfl ?_
    show AW l (pI pg 186) P kc ks 67 _ _ SHF _
    refine fw_callVV (as := []) (dq rfl) (pg_ok.2.2.1 186 _ _ _ _ rfl) rfl (by decide +kernel) rfl rfl (c5 h2) (fun M4 e4 q4 => ?_)
    have hJ4 : ∀ e ∈ RM, M4.2.2 e.1 e.2.1 = e.2.2 := fun e he => by rw [e4]; exact hJ e he
    show AW l (pI pg 186) P kc ks 70 [(3, .int (M.1 58 21)), (0, .ref 58)] [] SHF _
    refine AW.iload_n (dq rfl) rfl ?_
    show AW l (pI pg 186) P kc ks 71 _ _ SHF _
    refine AW.iret (dq rfl) rfl ?_
    exact r6 h2 M4 e4 q4

theorem amg_0 {l : aL} {P : aP} {kc ks : Nat} {x : Int32} {M : aM} (hJ : ∀ e ∈ RM, M.2.2 e.1 e.2.1 = e.2.2) (hl0 : l.1.stackTraces = false) (k6 : ∀ (h2 : ¬ (gdV (M.1 58 13) : Int32) = 0), ∀ (h3 : (M.1 58 18 : Int32) = (Int32.ofInt 2 : Int32)), ∀ (h4 : (M.1 58 20 : Int32) ≤ (Int32.ofInt 4 : Int32)), ∀ (h5 : (M.1 58 21 : Int32) < (x : Int32)), AW l (pI pg 189) P kc ks 54 [(0, .ref 58)] [] SHF M) (k8 : ∀ (h2 : ¬ (gdV (M.1 58 13) : Int32) = 0), ∀ (h3 : (M.1 58 18 : Int32) = (Int32.ofInt 2 : Int32)), ∀ (h4 : (M.1 58 20 : Int32) ≤ (Int32.ofInt 4 : Int32)), ∀ (h5 : ¬ ((M.1 58 21 : Int32) < (x : Int32))), AW l (pI pg 189) P kc ks 54 [(0, .ref 58)] [] SHF (wgM M (Int32.ofInt 3))) (k10 : ∀ (h2 : ¬ (gdV (M.1 58 13) : Int32) = 0), ∀ (h3 : (M.1 58 18 : Int32) = (Int32.ofInt 2 : Int32)), ∀ (h4 : ¬ ((M.1 58 20 : Int32) ≤ (Int32.ofInt 4 : Int32))), AW l (pI pg 189) P kc ks 54 [(0, .ref 58)] [] SHF (wgM M (Int32.ofInt 2))) (k12 : ∀ (h2 : ¬ (gdV (M.1 58 13) : Int32) = 0), ∀ (h3 : ¬ ((M.1 58 18 : Int32) = (Int32.ofInt 2 : Int32))), AW l (pI pg 189) P kc ks 54 [(0, .ref 58)] [] SHF (wgM M (Int32.ofInt 1))) (r13 : ∀ (h2 : (gdV (M.1 58 13) : Int32) = 0), P (.inl (some (.int (Int32.ofInt 0)))) SHF M) : AW l (pI pg 189) P kc ks 0 [(0, .ref 58), (1, .int (x))] [] SHF M := by
  refine AW.aload_n (dq rfl) rfl rfl ?_
  show AW l (pI pg 189) P kc ks 1 _ _ SHF _
  refine fw_callVI (as := []) (dq rfl) (pg_ok.2.2.1 189 _ _ _ _ rfl) rfl (by decide +kernel) rfl rfl (igd_c hl0 (fun e he => hJ e he)) (fun y1 M1 e1 q1 => ?_)
  obtain ⟨rfl, rfl⟩ := q1
  show AW l (pI pg 189) P kc ks 4 [(0, .ref 58), (1, .int (x))] [.int (gdV (M.1 58 13))] SHF _
  refine AW.if_ne (dq rfl) (tgt := 9) (by decide) (fun h2 => ?_) (fun h2 => ?_)
  · have _ := h2
    refine AW.aload_n (dq rfl) rfl rfl ?_
    show AW l (pI pg 189) P kc ks 10 _ _ SHF _
    refine fw_get (dq rfl) (pg_ok.2.1 189 _ _ _ _ rfl) rfl (v := .int (M.1 58 18)) rfl ?_
    show AW l (pI pg 189) P kc ks 13 _ _ SHF _
    refine AW.iconst (dq rfl) ?_
    show AW l (pI pg 189) P kc ks 14 _ _ SHF _
    refine AW.icmp_eq (dq rfl) (tgt := 25) (by decide) (fun h3 => ?_) (fun h3 => ?_)
    · have _ := h3
      refine AW.aload_n (dq rfl) rfl rfl ?_
      show AW l (pI pg 189) P kc ks 26 _ _ SHF _
      refine fw_get (dq rfl) (pg_ok.2.1 189 _ _ _ _ rfl) rfl (v := .int (M.1 58 20)) rfl ?_
      show AW l (pI pg 189) P kc ks 29 _ _ SHF _
      refine AW.iconst (dq rfl) ?_
      show AW l (pI pg 189) P kc ks 30 _ _ SHF _
      refine AW.icmp_le (dq rfl) (tgt := 41) (by decide) (fun h4 => ?_) (fun h4 => ?_)
      · have _ := h4
        refine AW.aload_n (dq rfl) rfl rfl ?_
        show AW l (pI pg 189) P kc ks 42 _ _ SHF _
        refine fw_get (dq rfl) (pg_ok.2.1 189 _ _ _ _ rfl) rfl (v := .int (M.1 58 21)) rfl ?_
        show AW l (pI pg 189) P kc ks 45 _ _ SHF _
        refine AW.iload_n (dq rfl) rfl ?_
        show AW l (pI pg 189) P kc ks 46 _ _ SHF _
        refine AW.icmp_lt (dq rfl) (tgt := 54) (by decide) (fun h5 => ?_) (fun h5 => ?_)
        · have _ := h5
          refine AW.drop (lv' := [(0, .ref 58)]) (List.forall_mem_cons.mpr ⟨List.mem_of_getElem? (i := 0) rfl, fun _ h => absurd h List.not_mem_nil⟩) ?_
          exact k6 h2 h3 h4 h5
        · have _ := h5
          refine AW.aload_n (dq rfl) rfl rfl ?_
          show AW l (pI pg 189) P kc ks 50 _ _ SHF _
          refine AW.iconst (dq rfl) ?_
          show AW l (pI pg 189) P kc ks 51 _ _ SHF _
          refine fw_callVV (as := [.int (Int32.ofInt 3)]) (dq rfl) (pg_ok.2.2.1 189 _ _ _ _ rfl) rfl (by decide +kernel) rfl rfl (wrg_c hl0 (fun e he => hJ e he)) (fun M7 e7 q7 => ?_)
          obtain rfl := q7
          have hJ7 : ∀ e ∈ RM, (wgM M (Int32.ofInt 3)).2.2 e.1 e.2.1 = e.2.2 := fun e he => by rw [wgM_2]; exact hJ e he
          show AW l (pI pg 189) P kc ks 54 [(0, .ref 58), (1, .int (x))] [] SHF _
          refine AW.drop (lv' := [(0, .ref 58)]) (List.forall_mem_cons.mpr ⟨List.mem_of_getElem? (i := 0) rfl, fun _ h => absurd h List.not_mem_nil⟩) ?_
          exact k8 h2 h3 h4 h5
      · have _ := h4
        refine AW.aload_n (dq rfl) rfl rfl ?_
        show AW l (pI pg 189) P kc ks 34 _ _ SHF _
        refine AW.iconst (dq rfl) ?_
        show AW l (pI pg 189) P kc ks 35 _ _ SHF _
        refine fw_callVV (as := [.int (Int32.ofInt 2)]) (dq rfl) (pg_ok.2.2.1 189 _ _ _ _ rfl) rfl (by decide +kernel) rfl rfl (wrg_c hl0 (fun e he => hJ e he)) (fun M9 e9 q9 => ?_)
        obtain rfl := q9
        have hJ9 : ∀ e ∈ RM, (wgM M (Int32.ofInt 2)).2.2 e.1 e.2.1 = e.2.2 := fun e he => by rw [wgM_2]; exact hJ e he
        show AW l (pI pg 189) P kc ks 38 [(0, .ref 58), (1, .int (x))] [] SHF _
        refine AW.goto (dq rfl) (tgt := 54) (by decide) ?_
        refine AW.drop (lv' := [(0, .ref 58)]) (List.forall_mem_cons.mpr ⟨List.mem_of_getElem? (i := 0) rfl, fun _ h => absurd h List.not_mem_nil⟩) ?_
        exact k10 h2 h3 h4
    · have _ := h3
      refine AW.aload_n (dq rfl) rfl rfl ?_
      show AW l (pI pg 189) P kc ks 18 _ _ SHF _
      refine AW.iconst (dq rfl) ?_
      show AW l (pI pg 189) P kc ks 19 _ _ SHF _
      refine fw_callVV (as := [.int (Int32.ofInt 1)]) (dq rfl) (pg_ok.2.2.1 189 _ _ _ _ rfl) rfl (by decide +kernel) rfl rfl (wrg_c hl0 (fun e he => hJ e he)) (fun M11 e11 q11 => ?_)
      obtain rfl := q11
      have hJ11 : ∀ e ∈ RM, (wgM M (Int32.ofInt 1)).2.2 e.1 e.2.1 = e.2.2 := fun e he => by rw [wgM_2]; exact hJ e he
      show AW l (pI pg 189) P kc ks 22 [(0, .ref 58), (1, .int (x))] [] SHF _
      refine AW.goto (dq rfl) (tgt := 54) (by decide) ?_
      refine AW.drop (lv' := [(0, .ref 58)]) (List.forall_mem_cons.mpr ⟨List.mem_of_getElem? (i := 0) rfl, fun _ h => absurd h List.not_mem_nil⟩) ?_
      exact k12 h2 h3
  · have _ := h2
    refine AW.iconst (dq rfl) ?_
    show AW l (pI pg 189) P kc ks 8 _ _ SHF _
    refine AW.zret (dq rfl) rfl (by decide) ?_
    exact r13 h2

theorem amg_54 {l : aL} {P : aP} {kc ks : Nat} {M : aM} (hJ : ∀ e ∈ RM, M.2.2 e.1 e.2.1 = e.2.2) (hl0 : l.1.stackTraces = false) (z2 : narrow (.boolean) (.int (gdV (M.1 58 13))) = .int (gdV (M.1 58 13))) (r3 : P (.inl (some (.int (gdV (M.1 58 13))))) SHF M) : AW l (pI pg 189) P kc ks 54 [(0, .ref 58)] [] SHF M := by
  refine AW.aload_n (dq rfl) rfl rfl ?_
  show AW l (pI pg 189) P kc ks 55 _ _ SHF _
  refine fw_callVI (as := []) (dq rfl) (pg_ok.2.2.1 189 _ _ _ _ rfl) rfl (by decide +kernel) rfl rfl (igd_c hl0 (fun e he => hJ e he)) (fun y1 M1 e1 q1 => ?_)
  obtain ⟨rfl, rfl⟩ := q1
  show AW l (pI pg 189) P kc ks 58 [(0, .ref 58)] [.int (gdV (M.1 58 13))] SHF _
  refine AW.zret (dq rfl) rfl (z2) ?_
  exact r3

theorem nee_0 {l : aL} {P : aP} {kc ks : Nat} {x : Int32} {M : aM} (hJ : ∀ e ∈ RM, M.2.2 e.1 e.2.1 = e.2.2) (hl0 : l.1.stackTraces = false) (r5 : ∀ (h2 : ¬ (gdV (M.1 58 13) : Int32) = 0), ∀ (h3 : (x : Int32) = 0), P (.inl none) SHF (wgM M (Int32.ofInt 1))) (Q6 : aM → Prop) (c7 : ∀ (h2 : ¬ (gdV (M.1 58 13) : Int32) = 0), ∀ (h3 : ¬ ((x : Int32) = 0)), AC l (pI pg 176) (fcV M Q6) 0 0 [.ref 58] SHF M) (r8 : ∀ (h2 : ¬ (gdV (M.1 58 13) : Int32) = 0), ∀ (h3 : ¬ ((x : Int32) = 0)), ∀ (M6 : aM), ∀ (e6 : M6.2.2 = M.2.2), ∀ (q6 : Q6 M6), P (.inl none) SHF M6) (r9 : ∀ (h2 : (gdV (M.1 58 13) : Int32) = 0), P (.inl none) SHF M) : AW l (pI pg 191) P kc ks 0 [(0, .ref 58), (1, .int (x))] [] SHF M := by
  refine AW.aload_n (dq rfl) rfl rfl ?_
  show AW l (pI pg 191) P kc ks 1 _ _ SHF _
  refine fw_callVI (as := []) (dq rfl) (pg_ok.2.2.1 191 _ _ _ _ rfl) rfl (by decide +kernel) rfl rfl (igd_c hl0 (fun e he => hJ e he)) (fun y1 M1 e1 q1 => ?_)
  obtain ⟨rfl, rfl⟩ := q1
  show AW l (pI pg 191) P kc ks 4 [(0, .ref 58), (1, .int (x))] [.int (gdV (M.1 58 13))] SHF _
  refine AW.if_ne (dq rfl) (tgt := 8) (by decide) (fun h2 => ?_) (fun h2 => ?_)
  · have _ := h2
    refine AW.iload_n (dq rfl) rfl ?_
    show AW l (pI pg 191) P kc ks 9 _ _ SHF _
    refine AW.if_eq (dq rfl) (tgt := 19) (by decide) (fun h3 => ?_) (fun h3 => ?_)
    · have _ := h3
      refine AW.aload_n (dq rfl) rfl rfl ?_
      show AW l (pI pg 191) P kc ks 20 _ _ SHF _
      refine AW.iconst (dq rfl) ?_
      show AW l (pI pg 191) P kc ks 21 _ _ SHF _
      refine fw_callVV (as := [.int (Int32.ofInt 1)]) (dq rfl) (pg_ok.2.2.1 191 _ _ _ _ rfl) rfl (by decide +kernel) rfl rfl (wrg_c hl0 (fun e he => hJ e he)) (fun M4 e4 q4 => ?_)
      obtain rfl := q4
      have hJ4 : ∀ e ∈ RM, (wgM M (Int32.ofInt 1)).2.2 e.1 e.2.1 = e.2.2 := fun e he => by rw [wgM_2]; exact hJ e he
      show AW l (pI pg 191) P kc ks 24 [(0, .ref 58), (1, .int (x))] [] SHF _
      refine AW.vret (dq rfl) rfl ?_
      exact r5 h2 h3
    · have _ := h3
      refine AW.aload_n (dq rfl) rfl rfl ?_
      show AW l (pI pg 191) P kc ks 13 _ _ SHF _
      refine fw_callVV (as := []) (dq rfl) (pg_ok.2.2.1 191 _ _ _ _ rfl) rfl (by decide +kernel) rfl rfl (c7 h2 h3) (fun M6 e6 q6 => ?_)
      have hJ6 : ∀ e ∈ RM, M6.2.2 e.1 e.2.1 = e.2.2 := fun e he => by rw [e6]; exact hJ e he
      show AW l (pI pg 191) P kc ks 16 [(0, .ref 58), (1, .int (x))] [] SHF _
      refine AW.goto (dq rfl) (tgt := 24) (by decide) ?_
      refine AW.vret (dq rfl) rfl ?_
      exact r8 h2 h3 M6 e6 q6
  · have _ := h2
    refine AW.vret (dq rfl) rfl ?_
    exact r9 h2

