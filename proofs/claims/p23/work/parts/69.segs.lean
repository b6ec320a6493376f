/-! stretches of the reference's lines, printed by wip/gen/segs_m.py -/
theorem rdp_0 {l : aL} {P : aP} {kc ks : Nat} {M : aM} (hJ : ∀ e ∈ RM, M.2.2 e.1 e.2.1 = e.2.2) (hl0 : l.1.stackTraces = false) (k2 : ∀ (h1 : ¬ (M.1 58 23 : Int32) = ((Int8.ofInt 6).toInt32 : Int32)), AW l (pI pg 184) P kc ks 14 [(0, .ref 58)] [] SHF M) (k4 : ∀ (h1 : (M.1 58 23 : Int32) = ((Int8.ofInt 6).toInt32 : Int32)), AW l (pI pg 184) P kc ks 14 [(0, .ref 58)] [] SHF (wgM M (Int32.ofInt 2))) : AW l (pI pg 184) P kc ks 0 [(0, .ref 58)] [] SHF M := by
  refine AW.aload_n (dq rfl) rfl rfl ?_
  show AW l (pI pg 184) P kc ks 1 _ _ SHF _
  refine fw_get (dq rfl) (pg_ok.2.1 184 _ _ _ _ rfl) rfl (v := .int (M.1 58 23)) rfl ?_
  show AW l (pI pg 184) P kc ks 4 _ _ SHF _
  refine AW.bipush (dq rfl) ?_
  show AW l (pI pg 184) P kc ks 6 _ _ SHF _
  refine AW.icmp_ne (dq rfl) (tgt := 14) (by decide) (fun h1 => ?_) (fun h1 => ?_)
  · have _ := h1
    refine AW.drop (lv' := [(0, .ref 58)]) (List.forall_mem_cons.mpr ⟨List.mem_of_getElem? (i := 0) rfl, fun _ h => absurd h List.not_mem_nil⟩) ?_
    exact k2 h1
  · have _ := h1
    refine AW.aload_n (dq rfl) rfl rfl ?_
    show AW l (pI pg 184) P kc ks 10 _ _ SHF _
    refine AW.iconst (dq rfl) ?_
    show AW l (pI pg 184) P kc ks 11 _ _ SHF _
    refine fw_callVV (as := [.int (Int32.ofInt 2)]) (dq rfl) (pg_ok.2.2.1 184 _ _ _ _ rfl) rfl (by decide +kernel) rfl rfl (wrg_c hl0 (fun e he => hJ e he)) (fun M3 e3 q3 => ?_)
    obtain rfl := q3
    have hJ3 : ∀ e ∈ RM, (wgM M (Int32.ofInt 2)).2.2 e.1 e.2.1 = e.2.2 := fun e he => by rw [wgM_2]; exact hJ e he
    show AW l (pI pg 184) P kc ks 14 [(0, .ref 58)] [] SHF _
    refine AW.drop (lv' := [(0, .ref 58)]) (List.forall_mem_cons.mpr ⟨List.mem_of_getElem? (i := 0) rfl, fun _ h => absurd h List.not_mem_nil⟩) ?_
    exact k4 h1

theorem rdp_14 {l : aL} {P : aP} {kc ks : Nat} {M : aM} (hJ : ∀ e ∈ RM, M.2.2 e.1 e.2.1 = e.2.2) (hl0 : l.1.stackTraces = false) (Q3 : aM → Prop) (c4 : ∀ (h2 : ¬ (gdV (M.1 58 13) : Int32) = 0), AC l (pI pg 176) (fcV M Q3) 0 0 [.ref 58] SHF M) (Q5 : aM → Int32 → aM → Prop) (c6 : ∀ (h2 : ¬ (gdV (M.1 58 13) : Int32) = 0), ∀ (M3 : aM), ∀ (e3 : M3.2.2 = M.2.2), ∀ (q3 : Q3 M3), AC l (pI pg 186) (fcI M3 (Q5 M3)) 0 0 [.ref 58, .int (Int32.ofInt 0), .int ((Int8.ofInt 24).toInt32)] SHF M3) (o7 : ∀ (h2 : ¬ (gdV (M.1 58 13) : Int32) = 0), ∀ (M3 : aM), ∀ (e3 : M3.2.2 = M.2.2), ∀ (q3 : Q3 M3), ∀ (y5 : Int32), ∀ (M5 : aM), ∀ (e5 : M5.2.2 = M3.2.2), ∀ (q5 : (Q5 M3) y5 M5), vp_in (M3.1 58 23) 6) (o8 : ∀ (h2 : ¬ (gdV (M.1 58 13) : Int32) = 0), ∀ (M3 : aM), ∀ (e3 : M3.2.2 = M.2.2), ∀ (q3 : Q3 M3), ∀ (y5 : Int32), ∀ (M5 : aM), ∀ (e5 : M5.2.2 = M3.2.2), ∀ (q5 : (Q5 M3) y5 M5), vp_in ((aset M5 67 (M3.1 58 23).toNatClampNeg (.int (y5))).1 58 23) 6) (k9 : ∀ (h2 : ¬ (gdV (M.1 58 13) : Int32) = 0), ∀ (M3 : aM), ∀ (e3 : M3.2.2 = M.2.2), ∀ (q3 : Q3 M3), ∀ (y5 : Int32), ∀ (M5 : aM), ∀ (e5 : M5.2.2 = M3.2.2), ∀ (q5 : (Q5 M3) y5 M5), AW l (pI pg 184) P kc ks 52 [(0, .ref 58)] [] SHF (aset (aset M5 67 (M3.1 58 23).toNatClampNeg (.int (y5))) 68 ((aset M5 67 (M3.1 58 23).toNatClampNeg (.int (y5))).1 58 23).toNatClampNeg (.int (Int32.ofInt 0)))) (r10 : ∀ (h2 : (gdV (M.1 58 13) : Int32) = 0), P (.inl none) SHF M) : AW l (pI pg 184) P kc ks 14 [(0, .ref 58)] [] SHF M := by
  refine AW.aload_n (dq rfl) rfl rfl ?_
  show AW l (pI pg 184) P kc ks 15 _ _ SHF _
  refine fw_callVI (as := []) (dq rfl) (pg_ok.2.2.1 184 _ _ _ _ rfl) rfl (by decide +kernel) rfl rfl (igd_c hl0 (fun e he => hJ e he)) (fun y1 M1 e1 q1 => ?_)
  obtain ⟨rfl, rfl⟩ := q1
  show AW l (pI pg 184) P kc ks 18 [(0, .ref 58)] [.int (gdV (M.1 58 13))] SHF _
  refine AW.if_ne (dq rfl) (tgt := 22) (by decide) (fun h2 => ?_) (fun h2 => ?_)
  · have _ := h2
    refine AW.aload_n (dq rfl) rfl rfl ?_
    show AW l (pI pg 184) P kc ks 23 _ _ SHF _
    refine fw_callVV (as := []) (dq rfl) (pg_ok.2.2.1 184 _ _ _ _ rfl) rfl (by decide +kernel) rfl rfl (c4 h2) (fun M3 e3 q3 => ?_)
    have hJ3 : ∀ e ∈ RM, M3.2.2 e.1 e.2.1 = e.2.2 := fun e he => by rw [e3]; exact hJ e he
    show AW l (pI pg 184) P kc ks 26 [(0, .ref 58)] [] SHF _
    refine AW.aload_n (dq rfl) rfl rfl ?_
    show AW l (pI pg 184) P kc ks 27 _ _ SHF _
    refine fw_get (dq rfl) (pg_ok.2.1 184 _ _ _ _ rfl) rfl (v := .ref 67) (isTA_ok rfl (rgR_ok hJ3 rfl)) ?_
    show AW l (pI pg 184) P kc ks 30 _ _ SHF _
    refine AW.aload_n (dq rfl) rfl rfl ?_
    show AW l (pI pg 184) P kc ks 31 _ _ SHF _
    refine fw_get (dq rfl) (pg_ok.2.1 184 _ _ _ _ rfl) rfl (v := .int (M3.1 58 23)) rfl ?_
    show AW l (pI pg 184) P kc ks 34 _ _ SHF _
    refine AW.aload_n (dq rfl) rfl rfl ?_
    show AW l (pI pg 184) P kc ks 35 _ _ SHF _
    refine AW.iconst (dq rfl) ?_
    show AW l (pI pg 184) P kc ks 36 _ _ SHF _
    refine AW.bipush (dq rfl) ?_
    show AW l (pI pg 184) P kc ks 38 _ _ SHF _
    refine fw_callVI (as := [.int (Int32.ofInt 0), .int ((Int8.ofInt 24).toInt32)]) (dq rfl) (pg_ok.2.2.1 184 _ _ _ _ rfl) rfl (by decide +kernel) rfl rfl (c6 h2 M3 e3 q3) (fun y5 M5 e5 q5 => ?_)
    have hJ5 : ∀ e ∈ RM, M5.2.2 e.1 e.2.1 = e.2.2 := fun e he => by rw [e5]; exact hJ3 e he
    show AW l (pI pg 184) P kc ks 41 [(0, .ref 58)] [.int (y5), .int (M3.1 58 23), .ref 67] SHF _
    refine AW.iast (dq rfl) rfl (o7 h2 M3 e3 q3 y5 M5 e5 q5) ?_
    show AW l (pI pg 184) P kc ks 42 _ _ SHF _
    refine AW.aload_n (dq rfl) rfl rfl ?_
    show AW l (pI pg 184) P kc ks 43 _ _ SHF _
    refine fw_get (dq rfl) (pg_ok.2.1 184 _ _ _ _ rfl) rfl (v := .ref 68) (isTA_ok rfl (rgR_ok hJ5 rfl)) ?_
    show AW l (pI pg 184) P kc ks 46 _ _ SHF _
    refine AW.aload_n (dq rfl) rfl rfl ?_
    show AW l (pI pg 184) P kc ks 47 _ _ SHF _
    refine fw_get (dq rfl) (pg_ok.2.1 184 _ _ _ _ rfl) rfl (v := .int ((aset M5 67 (M3.1 58 23).toNatClampNeg (.int (y5))).1 58 23)) rfl ?_
    show AW l (pI pg 184) P kc ks 50 _ _ SHF _
    refine AW.iconst (dq rfl) ?_
    show AW l (pI pg 184) P kc ks 51 _ _ SHF _
    refine AW.iast (dq rfl) rfl (o8 h2 M3 e3 q3 y5 M5 e5 q5) ?_
    show AW l (pI pg 184) P kc ks 52 _ _ SHF _
    refine AW.drop (lv' := [(0, .ref 58)]) (List.forall_mem_cons.mpr ⟨List.mem_of_getElem? (i := 0) rfl, fun _ h => absurd h List.not_mem_nil⟩) ?_
    exact k9 h2 M3 e3 q3 y5 M5 e5 q5
  · have _ := h2
    refine AW.vret (dq rfl) rfl ?_
    exact r10 h2

theorem rdp_52 {l : aL} {P : aP} {kc ks : Nat} {M : aM} (hJ : ∀ e ∈ RM, M.2.2 e.1 e.2.1 = e.2.2) (hl0 : l.1.stackTraces = false) (k3 : ∀ (h2 : (gdV (M.1 58 13) : Int32) = 0), AW l (pI pg 184) P kc ks 154 [(0, .ref 58), (1, .int (Int32.ofInt 0))] [] SHF M) (Q4 : Int32 → aM → Prop) (c5 : ∀ (h2 : ¬ ((gdV (M.1 58 13) : Int32) = 0)), AC l (pI pg 182) (fcI M Q4) 0 0 [.ref 58, .int (Int32.ofInt 5)] SHF M) (k7 : ∀ (h2 : ¬ ((gdV (M.1 58 13) : Int32) = 0)), ∀ (y4 : Int32), ∀ (M4 : aM), ∀ (e4 : M4.2.2 = M.2.2), ∀ (q4 : Q4 y4 M4), ∀ (h6 : (y4 : Int32) = 0), AW l (pI pg 184) P kc ks 154 [(0, .ref 58), (1, .int (Int32.ofInt 0))] [] SHF M4) (Q8 : Int32 → aM → aM → Prop) (c9 : ∀ (h2 : ¬ ((gdV (M.1 58 13) : Int32) = 0)), ∀ (y4 : Int32), ∀ (M4 : aM), ∀ (e4 : M4.2.2 = M.2.2), ∀ (q4 : Q4 y4 M4), ∀ (h6 : ¬ ((y4 : Int32) = 0)), AC l (pI pg 176) (fcV M4 (Q8 y4 M4)) 0 0 [.ref 58] SHF M4) (k11 : ∀ (h2 : ¬ ((gdV (M.1 58 13) : Int32) = 0)), ∀ (y4 : Int32), ∀ (M4 : aM), ∀ (e4 : M4.2.2 = M.2.2), ∀ (q4 : Q4 y4 M4), ∀ (h6 : ¬ ((y4 : Int32) = 0)), ∀ (M8 : aM), ∀ (e8 : M8.2.2 = M4.2.2), ∀ (q8 : (Q8 y4 M4) M8), ∀ (h10 : ¬ (M8.1 58 18 : Int32) = (Int32.ofInt 2 : Int32)), AW l (pI pg 184) P kc ks 117 [(0, .ref 58)] [] SHF M8) (k13 : ∀ (h2 : ¬ ((gdV (M.1 58 13) : Int32) = 0)), ∀ (y4 : Int32), ∀ (M4 : aM), ∀ (e4 : M4.2.2 = M.2.2), ∀ (q4 : Q4 y4 M4), ∀ (h6 : ¬ ((y4 : Int32) = 0)), ∀ (M8 : aM), ∀ (e8 : M8.2.2 = M4.2.2), ∀ (q8 : (Q8 y4 M4) M8), ∀ (h10 : (M8.1 58 18 : Int32) = (Int32.ofInt 2 : Int32)), ∀ (h12 : (Int32.ofInt 4 : Int32) < (M8.1 58 20 : Int32)), AW l (pI pg 184) P kc ks 117 [(0, .ref 58)] [] SHF M8) (k15 : ∀ (h2 : ¬ ((gdV (M.1 58 13) : Int32) = 0)), ∀ (y4 : Int32), ∀ (M4 : aM), ∀ (e4 : M4.2.2 = M.2.2), ∀ (q4 : Q4 y4 M4), ∀ (h6 : ¬ ((y4 : Int32) = 0)), ∀ (M8 : aM), ∀ (e8 : M8.2.2 = M4.2.2), ∀ (q8 : (Q8 y4 M4) M8), ∀ (h10 : (M8.1 58 18 : Int32) = (Int32.ofInt 2 : Int32)), ∀ (h12 : ¬ ((Int32.ofInt 4 : Int32) < (M8.1 58 20 : Int32))), ∀ (h14 : ((Int16.ofInt 1000).toInt32 : Int32) < (M8.1 58 21 : Int32)), AW l (pI pg 184) P kc ks 117 [(0, .ref 58)] [] SHF M8) (k17 : ∀ (h2 : ¬ ((gdV (M.1 58 13) : Int32) = 0)), ∀ (y4 : Int32), ∀ (M4 : aM), ∀ (e4 : M4.2.2 = M.2.2), ∀ (q4 : Q4 y4 M4), ∀ (h6 : ¬ ((y4 : Int32) = 0)), ∀ (M8 : aM), ∀ (e8 : M8.2.2 = M4.2.2), ∀ (q8 : (Q8 y4 M4) M8), ∀ (h10 : (M8.1 58 18 : Int32) = (Int32.ofInt 2 : Int32)), ∀ (h12 : ¬ ((Int32.ofInt 4 : Int32) < (M8.1 58 20 : Int32))), ∀ (h14 : ¬ (((Int16.ofInt 1000).toInt32 : Int32) < (M8.1 58 21 : Int32))), ∀ (h16 : ((M8.1 58 27) + (M8.1 58 21) : Int32) ≤ ((Int16.ofInt 1000).toInt32 : Int32)), AW l (pI pg 184) P kc ks 117 [(0, .ref 58)] [] SHF M8) (k19 : ∀ (h2 : ¬ ((gdV (M.1 58 13) : Int32) = 0)), ∀ (y4 : Int32), ∀ (M4 : aM), ∀ (e4 : M4.2.2 = M.2.2), ∀ (q4 : Q4 y4 M4), ∀ (h6 : ¬ ((y4 : Int32) = 0)), ∀ (M8 : aM), ∀ (e8 : M8.2.2 = M4.2.2), ∀ (q8 : (Q8 y4 M4) M8), ∀ (h10 : (M8.1 58 18 : Int32) = (Int32.ofInt 2 : Int32)), ∀ (h12 : ¬ ((Int32.ofInt 4 : Int32) < (M8.1 58 20 : Int32))), ∀ (h14 : ¬ (((Int16.ofInt 1000).toInt32 : Int32) < (M8.1 58 21 : Int32))), ∀ (h16 : ¬ (((M8.1 58 27) + (M8.1 58 21) : Int32) ≤ ((Int16.ofInt 1000).toInt32 : Int32))), AW l (pI pg 184) P kc ks 117 [(0, .ref 58)] [] SHF (wgM M8 (Int32.ofInt 5))) : AW l (pI pg 184) P kc ks 52 [(0, .ref 58)] [] SHF M := by
  refine AW.aload_n (dq rfl) rfl rfl ?_
  show AW l (pI pg 184) P kc ks 53 _ _ SHF _
  refine fw_callVI (as := []) (dq rfl) (pg_ok.2.2.1 184 _ _ _ _ rfl) rfl (by decide +kernel) rfl rfl (igd_c hl0 (fun e he => hJ e he)) (fun y1 M1 e1 q1 => ?_)
  obtain ⟨rfl, rfl⟩ := q1
  show AW l (pI pg 184) P kc ks 56 [(0, .ref 58)] [.int (gdV (M.1 58 13))] SHF _
  refine AW.if_eq (dq rfl) (tgt := 152) (by decide) (fun h2 => ?_) (fun h2 => ?_)
  · have _ := h2
    refine AW.iconst (dq rfl) ?_
    show AW l (pI pg 184) P kc ks 153 _ _ SHF _
    refine AW.istore_n (dq rfl) (by decide +kernel) ?_
    show AW l (pI pg 184) P kc ks 154 [(1, .int (Int32.ofInt 0)), (0, .ref 58)] [] SHF _
    refine AW.drop (lv' := [(0, .ref 58), (1, .int (Int32.ofInt 0))]) (List.forall_mem_cons.mpr ⟨List.mem_of_getElem? (i := 1) rfl, List.forall_mem_cons.mpr ⟨List.mem_of_getElem? (i := 0) rfl, fun _ h => absurd h List.not_mem_nil⟩⟩) ?_
    exact k3 h2
  · have _ := h2
    refine AW.aload_n (dq rfl) rfl rfl ?_
    show AW l (pI pg 184) P kc ks 60 _ _ SHF _
    refine AW.iconst (dq rfl) ?_
    show AW l (pI pg 184) P kc ks 61 _ _ SHF _
    refine fw_callVI (as := [.int (Int32.ofInt 5)]) (dq rfl) (pg_ok.2.2.1 184 _ _ _ _ rfl) rfl (by decide +kernel) rfl rfl (c5 h2) (fun y4 M4 e4 q4 => ?_)
    have hJ4 : ∀ e ∈ RM, M4.2.2 e.1 e.2.1 = e.2.2 := fun e he => by rw [e4]; exact hJ e he
    show AW l (pI pg 184) P kc ks 64 [(0, .ref 58)] [.int (y4)] SHF _
    refine AW.if_eq (dq rfl) (tgt := 152) (by decide) (fun h6 => ?_) (fun h6 => ?_)
    · have _ := h6
      refine AW.iconst (dq rfl) ?_
      show AW l (pI pg 184) P kc ks 153 _ _ SHF _
      refine AW.istore_n (dq rfl) (by decide +kernel) ?_
      show AW l (pI pg 184) P kc ks 154 [(1, .int (Int32.ofInt 0)), (0, .ref 58)] [] SHF _
      refine AW.drop (lv' := [(0, .ref 58), (1, .int (Int32.ofInt 0))]) (List.forall_mem_cons.mpr ⟨List.mem_of_getElem? (i := 1) rfl, List.forall_mem_cons.mpr ⟨List.mem_of_getElem? (i := 0) rfl, fun _ h => absurd h List.not_mem_nil⟩⟩) ?_
      exact k7 h2 y4 M4 e4 q4 h6
    · have _ := h6
      refine AW.aload_n (dq rfl) rfl rfl ?_
      show AW l (pI pg 184) P kc ks 68 _ _ SHF _
      refine fw_callVV (as := []) (dq rfl) (pg_ok.2.2.1 184 _ _ _ _ rfl) rfl (by decide +kernel) rfl rfl (c9 h2 y4 M4 e4 q4 h6) (fun M8 e8 q8 => ?_)
      have hJ8 : ∀ e ∈ RM, M8.2.2 e.1 e.2.1 = e.2.2 := fun e he => by rw [e8]; exact hJ4 e he
      show AW l (pI pg 184) P kc ks 71 [(0, .ref 58)] [] SHF _
      refine AW.aload_n (dq rfl) rfl rfl ?_
      show AW l (pI pg 184) P kc ks 72 _ _ SHF _
      refine fw_get (dq rfl) (pg_ok.2.1 184 _ _ _ _ rfl) rfl (v := .int (M8.1 58 18)) rfl ?_
      show AW l (pI pg 184) P kc ks 75 _ _ SHF _
      refine AW.iconst (dq rfl) ?_
      show AW l (pI pg 184) P kc ks 76 _ _ SHF _
      refine AW.icmp_ne (dq rfl) (tgt := 117) (by decide) (fun h10 => ?_) (fun h10 => ?_)
      · have _ := h10
        refine AW.drop (lv' := [(0, .ref 58)]) (List.forall_mem_cons.mpr ⟨List.mem_of_getElem? (i := 0) rfl, fun _ h => absurd h List.not_mem_nil⟩) ?_
        exact k11 h2 y4 M4 e4 q4 h6 M8 e8 q8 h10
      · have _ := h10
        refine AW.aload_n (dq rfl) rfl rfl ?_
        show AW l (pI pg 184) P kc ks 80 _ _ SHF _
        refine fw_get (dq rfl) (pg_ok.2.1 184 _ _ _ _ rfl) rfl (v := .int (M8.1 58 20)) rfl ?_
        show AW l (pI pg 184) P kc ks 83 _ _ SHF _
        refine AW.iconst (dq rfl) ?_
        show AW l (pI pg 184) P kc ks 84 _ _ SHF _
        refine AW.icmp_gt (dq rfl) (tgt := 117) (by decide) (fun h12 => ?_) (fun h12 => ?_)
        · have _ := h12
          refine AW.drop (lv' := [(0, .ref 58)]) (List.forall_mem_cons.mpr ⟨List.mem_of_getElem? (i := 0) rfl, fun _ h => absurd h List.not_mem_nil⟩) ?_
          exact k13 h2 y4 M4 e4 q4 h6 M8 e8 q8 h10 h12
        · have _ := h12
          refine AW.aload_n (dq rfl) rfl rfl ?_
          show AW l (pI pg 184) P kc ks 88 _ _ SHF _
          refine fw_get (dq rfl) (pg_ok.2.1 184 _ _ _ _ rfl) rfl (v := .int (M8.1 58 21)) rfl ?_
          show AW l (pI pg 184) P kc ks 91 _ _ SHF _
          refine AW.sipush (dq rfl) ?_
          show AW l (pI pg 184) P kc ks 94 _ _ SHF _
          refine AW.icmp_gt (dq rfl) (tgt := 117) (by decide) (fun h14 => ?_) (fun h14 => ?_)
          · have _ := h14
            refine AW.drop (lv' := [(0, .ref 58)]) (List.forall_mem_cons.mpr ⟨List.mem_of_getElem? (i := 0) rfl, fun _ h => absurd h List.not_mem_nil⟩) ?_
            exact k15 h2 y4 M4 e4 q4 h6 M8 e8 q8 h10 h12 h14
          · have _ := h14
            refine AW.aload_n (dq rfl) rfl rfl ?_
            show AW l (pI pg 184) P kc ks 98 _ _ SHF _
            refine fw_get (dq rfl) (pg_ok.2.1 184 _ _ _ _ rfl) rfl (v := .int (M8.1 58 27)) rfl ?_
            show AW l (pI pg 184) P kc ks 101 _ _ SHF _
            refine AW.aload_n (dq rfl) rfl rfl ?_
            show AW l (pI pg 184) P kc ks 102 _ _ SHF _
            refine fw_get (dq rfl) (pg_ok.2.1 184 _ _ _ _ rfl) rfl (v := .int (M8.1 58 21)) rfl ?_
            show AW l (pI pg 184) P kc ks 105 _ _ SHF _
            refine AW.iadd (dq rfl) ?_
            show AW l (pI pg 184) P kc ks 106 _ _ SHF _
            refine AW.sipush (dq rfl) ?_
            show AW l (pI pg 184) P kc ks 109 _ _ SHF _
            refine AW.icmp_le (dq rfl) (tgt := 117) (by decide) (fun h16 => ?_) (fun h16 => ?_)
            · have _ := h16
              refine AW.drop (lv' := [(0, .ref 58)]) (List.forall_mem_cons.mpr ⟨List.mem_of_getElem? (i := 0) rfl, fun _ h => absurd h List.not_mem_nil⟩) ?_
              exact k17 h2 y4 M4 e4 q4 h6 M8 e8 q8 h10 h12 h14 h16
            · have _ := h16
              refine AW.aload_n (dq rfl) rfl rfl ?_
              show AW l (pI pg 184) P kc ks 113 _ _ SHF _
              refine AW.iconst (dq rfl) ?_
              show AW l (pI pg 184) P kc ks 114 _ _ SHF _
              refine fw_callVV (as := [.int (Int32.ofInt 5)]) (dq rfl) (pg_ok.2.2.1 184 _ _ _ _ rfl) rfl (by decide +kernel) rfl rfl (wrg_c hl0 (fun e he => hJ8 e he)) (fun M18 e18 q18 => ?_)
              obtain rfl := q18
              have hJ18 : ∀ e ∈ RM, (wgM M8 (Int32.ofInt 5)).2.2 e.1 e.2.1 = e.2.2 := fun e he => by rw [wgM_2]; exact hJ8 e he
              show AW l (pI pg 184) P kc ks 117 [(0, .ref 58)] [] SHF _
              refine AW.drop (lv' := [(0, .ref 58)]) (List.forall_mem_cons.mpr ⟨List.mem_of_getElem? (i := 0) rfl, fun _ h => absurd h List.not_mem_nil⟩) ?_
              exact k19 h2 y4 M4 e4 q4 h6 M8 e8 q8 h10 h12 h14 h16

theorem rdp_117 {l : aL} {P : aP} {kc ks : Nat} {M : aM} (hJ : ∀ e ∈ RM, M.2.2 e.1 e.2.1 = e.2.2) (hl0 : l.1.stackTraces = false) (Q1 : Int32 → aM → Prop) (c2 : AC l (pI pg 186) (fcI M Q1) 0 0 [.ref 58, .int (Int32.ofInt 0), .int ((Int16.ofInt 1000).toInt32)] SHF M) (o3 : ∀ (y1 : Int32), ∀ (M1 : aM), ∀ (e1 : M1.2.2 = M.2.2), ∀ (q1 : Q1 y1 M1), vp_in (M.1 58 23) 6) (o4 : ∀ (y1 : Int32), ∀ (M1 : aM), ∀ (e1 : M1.2.2 = M.2.2), ∀ (q1 : Q1 y1 M1), vp_in ((aset M1 68 (M.1 58 23).toNatClampNeg (.int (y1))).1 58 23) 6) (k5 : ∀ (y1 : Int32), ∀ (M1 : aM), ∀ (e1 : M1.2.2 = M.2.2), ∀ (q1 : Q1 y1 M1), AW l (pI pg 184) P kc ks 154 [(0, .ref 58), (1, .int (Int32.ofInt 0))] [] SHF (aset (aset M1 68 (M.1 58 23).toNatClampNeg (.int (y1))) 58 27 (.int (((aset M1 68 (M.1 58 23).toNatClampNeg (.int (y1))).1 58 27) + ((aset M1 68 (M.1 58 23).toNatClampNeg (.int (y1))).1 68 ((aset M1 68 (M.1 58 23).toNatClampNeg (.int (y1))).1 58 23).toNatClampNeg))))) : AW l (pI pg 184) P kc ks 117 [(0, .ref 58)] [] SHF M := by
  refine AW.aload_n (dq rfl) rfl rfl ?_
  show AW l (pI pg 184) P kc ks 118 _ _ SHF _
  refine fw_get (dq rfl) (pg_ok.2.1 184 _ _ _ _ rfl) rfl (v := .ref 68) (isTA_ok rfl (rgR_ok hJ rfl)) ?_
  show AW l (pI pg 184) P kc ks 121 _ _ SHF _
  refine AW.aload_n (dq rfl) rfl rfl ?_
  show AW l (pI pg 184) P kc ks 122 _ _ SHF _
  refine fw_get (dq rfl) (pg_ok.2.1 184 _ _ _ _ rfl) rfl (v := .int (M.1 58 23)) rfl ?_
  show AW l (pI pg 184) P kc ks 125 _ _ SHF _
  refine AW.aload_n (dq rfl) rfl rfl ?_
  show AW l (pI pg 184) P kc ks 126 _ _ SHF _
  refine AW.iconst (dq rfl) ?_
  show AW l (pI pg 184) P kc ks 127 _ _ SHF _
  refine AW.sipush (dq rfl) ?_
  show AW l (pI pg 184) P kc ks 130 _ _ SHF _
  refine fw_callVI (as := [.int (Int32.ofInt 0), .int ((Int16.ofInt 1000).toInt32)]) (dq rfl) (pg_ok.2.2.1 184 _ _ _ _ rfl) rfl (by decide +kernel) rfl rfl (c2) (fun y1 M1 e1 q1 => ?_)
  have hJ1 : ∀ e ∈ RM, M1.2.2 e.1 e.2.1 = e.2.2 := fun e he => by rw [e1]; exact hJ e he
  show AW l (pI pg 184) P kc ks 133 [(0, .ref 58)] [.int (y1), .int (M.1 58 23), .ref 68] SHF _
  refine AW.iast (dq rfl) rfl (o3 y1 M1 e1 q1) ?_
  show AW l (pI pg 184) P kc ks 134 _ _ SHF _
  refine AW.aload_n (dq rfl) rfl rfl ?_
  show AW l (pI pg 184) P kc ks 135 _ _ SHF _
  refine AW.dup (dq rfl) rfl ?_
  show AW l (pI pg 184) P kc ks 136 _ _ SHF _
  refine fw_get (dq rfl) (pg_ok.2.1 184 _ _ _ _ rfl) rfl (v := .int ((aset M1 68 (M.1 58 23).toNatClampNeg (.int (y1))).1 58 27)) rfl ?_
  show AW l (pI pg 184) P kc ks 139 _ _ SHF _
  refine AW.aload_n (dq rfl) rfl rfl ?_
  show AW l (pI pg 184) P kc ks 140 _ _ SHF _
  refine fw_get (dq rfl) (pg_ok.2.1 184 _ _ _ _ rfl) rfl (v := .ref 68) (isTA_ok rfl (rgR_ok hJ1 rfl)) ?_
  show AW l (pI pg 184) P kc ks 143 _ _ SHF _
  refine AW.aload_n (dq rfl) rfl rfl ?_
  show AW l (pI pg 184) P kc ks 144 _ _ SHF _
  refine fw_get (dq rfl) (pg_ok.2.1 184 _ _ _ _ rfl) rfl (v := .int ((aset M1 68 (M.1 58 23).toNatClampNeg (.int (y1))).1 58 23)) rfl ?_
  show AW l (pI pg 184) P kc ks 147 _ _ SHF _
  refine AW.iald (dq rfl) rfl (o4 y1 M1 e1 q1) ?_
  show AW l (pI pg 184) P kc ks 148 _ _ SHF _
  refine AW.iadd (dq rfl) ?_
  show AW l (pI pg 184) P kc ks 149 _ _ SHF _
  refine fw_putI (dq rfl) (pg_ok.2.1 184 _ _ _ _ rfl) rfl rfl rfl ?_
  show AW l (pI pg 184) P kc ks 152 _ _ SHF _
  refine AW.iconst (dq rfl) ?_
  show AW l (pI pg 184) P kc ks 153 _ _ SHF _
  refine AW.istore_n (dq rfl) (by decide +kernel) ?_
  show AW l (pI pg 184) P kc ks 154 [(1, .int (Int32.ofInt 0)), (0, .ref 58)] [] SHF _
  refine AW.drop (lv' := [(0, .ref 58), (1, .int (Int32.ofInt 0))]) (List.forall_mem_cons.mpr ⟨List.mem_of_getElem? (i := 1) rfl, List.forall_mem_cons.mpr ⟨List.mem_of_getElem? (i := 0) rfl, fun _ h => absurd h List.not_mem_nil⟩⟩) ?_
  exact k5 y1 M1 e1 q1

theorem rdp_154 {l : aL} {P : aP} {kc ks : Nat} {i : Nat} {M : aM} (hJ : ∀ e ∈ RM, M.2.2 e.1 e.2.1 = e.2.2) (hl0 : l.1.stackTraces = false) (k2 : ∀ (h1 : ((Int8.ofInt 8).toInt32 : Int32) ≤ (nI i : Int32)), AW l (pI pg 184) P kc ks 181 [(0, .ref 58)] [] SHF M) (o3 : ∀ (h1 : ¬ (((Int8.ofInt 8).toInt32 : Int32) ≤ (nI i : Int32))), vp_in ((((Int8.ofInt 8).toInt32) * (M.1 58 23)) + (nI i)) 48) (k4 : ∀ (h1 : ¬ (((Int8.ofInt 8).toInt32 : Int32) ≤ (nI i : Int32))), AW l (pI pg 184) P kc ks 154 [(0, .ref 58), (1, .int ((nI i) + Int32.ofInt 1))] [] SHF (aset M 71 ((((Int8.ofInt 8).toInt32) * (M.1 58 23)) + (nI i)).toNatClampNeg (.int (Int32.ofInt 0)))) : AW l (pI pg 184) P kc ks 154 [(0, .ref 58), (1, .int (nI i))] [] SHF M := by
  refine AW.iload_n (dq rfl) rfl ?_
  show AW l (pI pg 184) P kc ks 155 _ _ SHF _
  refine AW.bipush (dq rfl) ?_
  show AW l (pI pg 184) P kc ks 157 _ _ SHF _
  refine AW.icmp_ge (dq rfl) (tgt := 181) (by decide) (fun h1 => ?_) (fun h1 => ?_)
  · have _ := h1
    refine AW.drop (lv' := [(0, .ref 58)]) (List.forall_mem_cons.mpr ⟨List.mem_of_getElem? (i := 0) rfl, fun _ h => absurd h List.not_mem_nil⟩) ?_
    exact k2 h1
  · have _ := h1
    refine AW.aload_n (dq rfl) rfl rfl ?_
    show AW l (pI pg 184) P kc ks 161 _ _ SHF _
    refine fw_get (dq rfl) (pg_ok.2.1 184 _ _ _ _ rfl) rfl (v := .ref 71) (isTA_ok rfl (rgR_ok hJ rfl)) ?_
    show AW l (pI pg 184) P kc ks 164 _ _ SHF _
    refine AW.bipush (dq rfl) ?_
    show AW l (pI pg 184) P kc ks 166 _ _ SHF _
    refine AW.aload_n (dq rfl) rfl rfl ?_
    show AW l (pI pg 184) P kc ks 167 _ _ SHF _
    refine fw_get (dq rfl) (pg_ok.2.1 184 _ _ _ _ rfl) rfl (v := .int (M.1 58 23)) rfl ?_
    show AW l (pI pg 184) P kc ks 170 _ _ SHF _
    refine AW.imul (dq rfl) ?_
    show AW l (pI pg 184) P kc ks 171 _ _ SHF _
    refine AW.iload_n (dq rfl) rfl ?_
    show AW l (pI pg 184) P kc ks 172 _ _ SHF _
    refine AW.iadd (dq rfl) ?_
    show AW l (pI pg 184) P kc ks 173 _ _ SHF _
    refine AW.iconst (dq rfl) ?_
    show AW l (pI pg 184) P kc ks 174 _ _ SHF _
    refine AW.iast (dq rfl) rfl (o3 h1) ?_
    show AW l (pI pg 184) P kc ks 175 _ _ SHF _
    refine AW.iinc (dq rfl) rfl (by decide +kernel) ?_
    show AW l (pI pg 184) P kc ks 178 [(1, .int ((nI i) + Int32.ofInt 1)), (0, .ref 58)] [] SHF _
    refine AW.goto (dq rfl) (tgt := 154) (by decide) ?_
    refine AW.drop (lv' := [(0, .ref 58), (1, .int ((nI i) + Int32.ofInt 1))]) (List.forall_mem_cons.mpr ⟨List.mem_of_getElem? (i := 1) rfl, List.forall_mem_cons.mpr ⟨List.mem_of_getElem? (i := 0) rfl, fun _ h => absurd h List.not_mem_nil⟩⟩) ?_
    exact k4 h1

theorem rdp_181 {l : aL} {P : aP} {kc ks : Nat} {M : aM} (hJ : ∀ e ∈ RM, M.2.2 e.1 e.2.1 = e.2.2) (hl0 : l.1.stackTraces = false) (r3 : ∀ (h2 : (gdV (M.1 58 13) : Int32) = 0), P (.inl none) SHF M) (r4 : ∀ (h2 : ¬ ((gdV (M.1 58 13) : Int32) = 0)), P (.inl none) SHF (aset M 58 23 (.int ((M.1 58 23) + (Int32.ofInt 1))))) : AW l (pI pg 184) P kc ks 181 [(0, .ref 58)] [] SHF M := by
  refine AW.aload_n (dq rfl) rfl rfl ?_
  show AW l (pI pg 184) P kc ks 182 _ _ SHF _
  refine fw_callVI (as := []) (dq rfl) (pg_ok.2.2.1 184 _ _ _ _ rfl) rfl (by decide +kernel) rfl rfl (igd_c hl0 (fun e he => hJ e he)) (fun y1 M1 e1 q1 => ?_)
  obtain ⟨rfl, rfl⟩ := q1
  show AW l (pI pg 184) P kc ks 185 [(0, .ref 58)] [.int (gdV (M.1 58 13))] SHF _
  refine AW.if_eq (dq rfl) (tgt := 198) (by decide) (fun h2 => ?_) (fun h2 => ?_)
  · have _ := h2
    refine AW.vret (dq rfl) rfl ?_
    exact r3 h2
  · have _ := h2
    refine AW.aload_n (dq rfl) rfl rfl ?_
    show AW l (pI pg 184) P kc ks 189 _ _ SHF _
    refine AW.dup (dq rfl) rfl ?_
    show AW l (pI pg 184) P kc ks 190 _ _ SHF _
    refine fw_get (dq rfl) (pg_ok.2.1 184 _ _ _ _ rfl) rfl (v := .int (M.1 58 23)) rfl ?_
    show AW l (pI pg 184) P kc ks 193 _ _ SHF _
    refine AW.iconst (dq rfl) ?_
    show AW l (pI pg 184) P kc ks 194 _ _ SHF _
    refine AW.iadd (dq rfl) ?_
    show AW l (pI pg 184) P kc ks 195 _ _ SHF _
    refine fw_putI (dq rfl) (pg_ok.2.1 184 _ _ _ _ rfl) rfl rfl rfl ?_
    show AW l (pI pg 184) P kc ks 198 _ _ SHF _
    refine AW.vret (dq rfl) rfl ?_
    exact r4 h2

theorem rdw_0 {l : aL} {P : aP} {kc ks : Nat} {M : aM} (hJ : ∀ e ∈ RM, M.2.2 e.1 e.2.1 = e.2.2) (hl0 : l.1.stackTraces = false) (k2 : ∀ (h1 : ¬ (M.1 58 24 : Int32) = ((Int8.ofInt 8).toInt32 : Int32)), AW l (pI pg 187) P kc ks 14 [(0, .ref 58)] [] SHF M) (k4 : ∀ (h1 : (M.1 58 24 : Int32) = ((Int8.ofInt 8).toInt32 : Int32)), AW l (pI pg 187) P kc ks 14 [(0, .ref 58)] [] SHF (wgM M (Int32.ofInt 2))) : AW l (pI pg 187) P kc ks 0 [(0, .ref 58)] [] SHF M := by
  refine AW.aload_n (dq rfl) rfl rfl ?_
  show AW l (pI pg 187) P kc ks 1 _ _ SHF _
  refine fw_get (dq rfl) (pg_ok.2.1 187 _ _ _ _ rfl) rfl (v := .int (M.1 58 24)) rfl ?_
  show AW l (pI pg 187) P kc ks 4 _ _ SHF _
  refine AW.bipush (dq rfl) ?_
  show AW l (pI pg 187) P kc ks 6 _ _ SHF _
  refine AW.icmp_ne (dq rfl) (tgt := 14) (by decide) (fun h1 => ?_) (fun h1 => ?_)
  · have _ := h1
    refine AW.drop (lv' := [(0, .ref 58)]) (List.forall_mem_cons.mpr ⟨List.mem_of_getElem? (i := 0) rfl, fun _ h => absurd h List.not_mem_nil⟩) ?_
    exact k2 h1
  · have _ := h1
    refine AW.aload_n (dq rfl) rfl rfl ?_
    show AW l (pI pg 187) P kc ks 10 _ _ SHF _
    refine AW.iconst (dq rfl) ?_
    show AW l (pI pg 187) P kc ks 11 _ _ SHF _
    refine fw_callVV (as := [.int (Int32.ofInt 2)]) (dq rfl) (pg_ok.2.2.1 187 _ _ _ _ rfl) rfl (by decide +kernel) rfl rfl (wrg_c hl0 (fun e he => hJ e he)) (fun M3 e3 q3 => ?_)
    obtain rfl := q3
    have hJ3 : ∀ e ∈ RM, (wgM M (Int32.ofInt 2)).2.2 e.1 e.2.1 = e.2.2 := fun e he => by rw [wgM_2]; exact hJ e he
    show AW l (pI pg 187) P kc ks 14 [(0, .ref 58)] [] SHF _
    refine AW.drop (lv' := [(0, .ref 58)]) (List.forall_mem_cons.mpr ⟨List.mem_of_getElem? (i := 0) rfl, fun _ h => absurd h List.not_mem_nil⟩) ?_
    exact k4 h1

theorem rdw_14 {l : aL} {P : aP} {kc ks : Nat} {M : aM} (hJ : ∀ e ∈ RM, M.2.2 e.1 e.2.1 = e.2.2) (hl0 : l.1.stackTraces = false) (Q3 : aM → Prop) (c4 : ∀ (h2 : ¬ (gdV (M.1 58 13) : Int32) = 0), AC l (pI pg 176) (fcV M Q3) 0 0 [.ref 58] SHF M) (Q5 : aM → Int32 → aM → Prop) (c6 : ∀ (h2 : ¬ (gdV (M.1 58 13) : Int32) = 0), ∀ (M3 : aM), ∀ (e3 : M3.2.2 = M.2.2), ∀ (q3 : Q3 M3), AC l (pI pg 186) (fcI M3 (Q5 M3)) 0 0 [.ref 58, .int (Int32.ofInt 0), .int ((Int8.ofInt 23).toInt32)] SHF M3) (o7 : ∀ (h2 : ¬ (gdV (M.1 58 13) : Int32) = 0), ∀ (M3 : aM), ∀ (e3 : M3.2.2 = M.2.2), ∀ (q3 : Q3 M3), ∀ (y5 : Int32), ∀ (M5 : aM), ∀ (e5 : M5.2.2 = M3.2.2), ∀ (q5 : (Q5 M3) y5 M5), vp_in (M3.1 58 24) 8) (k8 : ∀ (h2 : ¬ (gdV (M.1 58 13) : Int32) = 0), ∀ (M3 : aM), ∀ (e3 : M3.2.2 = M.2.2), ∀ (q3 : Q3 M3), ∀ (y5 : Int32), ∀ (M5 : aM), ∀ (e5 : M5.2.2 = M3.2.2), ∀ (q5 : (Q5 M3) y5 M5), AW l (pI pg 187) P kc ks 42 [(0, .ref 58)] [] SHF (aset M5 69 (M3.1 58 24).toNatClampNeg (.int (y5)))) (r9 : ∀ (h2 : (gdV (M.1 58 13) : Int32) = 0), P (.inl none) SHF M) : AW l (pI pg 187) P kc ks 14 [(0, .ref 58)] [] SHF M := by
  refine AW.aload_n (dq rfl) rfl rfl ?_
  show AW l (pI pg 187) P kc ks 15 _ _ SHF _
  refine fw_callVI (as := []) (dq rfl) (pg_ok.2.2.1 187 _ _ _ _ rfl) rfl (by decide +kernel) rfl rfl (igd_c hl0 (fun e he => hJ e he)) (fun y1 M1 e1 q1 => ?_)
  obtain ⟨rfl, rfl⟩ := q1
  show AW l (pI pg 187) P kc ks 18 [(0, .ref 58)] [.int (gdV (M.1 58 13))] SHF _
  refine AW.if_ne (dq rfl) (tgt := 22) (by decide) (fun h2 => ?_) (fun h2 => ?_)
  · have _ := h2
    refine AW.aload_n (dq rfl) rfl rfl ?_
    show AW l (pI pg 187) P kc ks 23 _ _ SHF _
    refine fw_callVV (as := []) (dq rfl) (pg_ok.2.2.1 187 _ _ _ _ rfl) rfl (by decide +kernel) rfl rfl (c4 h2) (fun M3 e3 q3 => ?_)
    have hJ3 : ∀ e ∈ RM, M3.2.2 e.1 e.2.1 = e.2.2 := fun e he => by rw [e3]; exact hJ e he
    show AW l (pI pg 187) P kc ks 26 [(0, .ref 58)] [] SHF _
    refine AW.aload_n (dq rfl) rfl rfl ?_
    show AW l (pI pg 187) P kc ks 27 _ _ SHF _
    refine fw_get (dq rfl) (pg_ok.2.1 187 _ _ _ _ rfl) rfl (v := .ref 69) (isTA_ok rfl (rgR_ok hJ3 rfl)) ?_
    show AW l (pI pg 187) P kc ks 30 _ _ SHF _
    refine AW.aload_n (dq rfl) rfl rfl ?_
    show AW l (pI pg 187) P kc ks 31 _ _ SHF _
    refine fw_get (dq rfl) (pg_ok.2.1 187 _ _ _ _ rfl) rfl (v := .int (M3.1 58 24)) rfl ?_
    show AW l (pI pg 187) P kc ks 34 _ _ SHF _
    refine AW.aload_n (dq rfl) rfl rfl ?_
    show AW l (pI pg 187) P kc ks 35 _ _ SHF _
    refine AW.iconst (dq rfl) ?_
    show AW l (pI pg 187) P kc ks 36 _ _ SHF _
    refine AW.bipush (dq rfl) ?_
    show AW l (pI pg 187) P kc ks 38 _ _ SHF _
    refine fw_callVI (as := [.int (Int32.ofInt 0), .int ((Int8.ofInt 23).toInt32)]) (dq rfl) (pg_ok.2.2.1 187 _ _ _ _ rfl) rfl (by decide +kernel) rfl rfl (c6 h2 M3 e3 q3) (fun y5 M5 e5 q5 => ?_)
    have hJ5 : ∀ e ∈ RM, M5.2.2 e.1 e.2.1 = e.2.2 := fun e he => by rw [e5]; exact hJ3 e he
    show AW l (pI pg 187) P kc ks 41 [(0, .ref 58)] [.int (y5), .int (M3.1 58 24), .ref 69] SHF _
    refine AW.iast (dq rfl) rfl (o7 h2 M3 e3 q3 y5 M5 e5 q5) ?_
    show AW l (pI pg 187) P kc ks 42 _ _ SHF _
    refine AW.drop (lv' := [(0, .ref 58)]) (List.forall_mem_cons.mpr ⟨List.mem_of_getElem? (i := 0) rfl, fun _ h => absurd h List.not_mem_nil⟩) ?_
    exact k8 h2 M3 e3 q3 y5 M5 e5 q5
  · have _ := h2
    refine AW.vret (dq rfl) rfl ?_
    exact r9 h2

theorem rdw_42 {l : aL} {P : aP} {kc ks : Nat} {M : aM} (hJ : ∀ e ∈ RM, M.2.2 e.1 e.2.1 = e.2.2) (hl0 : l.1.stackTraces = false) (o1 : vp_in (M.1 58 24) 8) (Q3 : Int32 → aM → Prop) (c4 : ∀ (h2 : ((Int8.ofInt 8).toInt32 : Int32) ≤ (((Int8.ofInt 24).toInt32) - (M.1 69 (M.1 58 24).toNatClampNeg) : Int32)), AC l (pI pg 186) (fcI M Q3) 0 0 [.ref 58, .int (Int32.ofInt 1), .int ((Int8.ofInt 8).toInt32)] SHF M) (k5 : ∀ (h2 : ((Int8.ofInt 8).toInt32 : Int32) ≤ (((Int8.ofInt 24).toInt32) - (M.1 69 (M.1 58 24).toNatClampNeg) : Int32)), ∀ (y3 : Int32), ∀ (M3 : aM), ∀ (e3 : M3.2.2 = M.2.2), ∀ (q3 : Q3 y3 M3), AW l (pI pg 187) P kc ks 92 [(0, .ref 58), (1, .int (Int32.ofInt 0))] [] SHF (aset M3 70 (M.1 58 24).toNatClampNeg (.int (y3)))) (Q6 : Int32 → aM → Prop) (c7 : ∀ (h2 : ¬ (((Int8.ofInt 8).toInt32 : Int32) ≤ (((Int8.ofInt 24).toInt32) - (M.1 69 (M.1 58 24).toNatClampNeg) : Int32))), AC l (pI pg 186) (fcI M Q6) 0 0 [.ref 58, .int (Int32.ofInt 1), .int (((Int8.ofInt 24).toInt32) - (M.1 69 (M.1 58 24).toNatClampNeg))] SHF M) (k8 : ∀ (h2 : ¬ (((Int8.ofInt 8).toInt32 : Int32) ≤ (((Int8.ofInt 24).toInt32) - (M.1 69 (M.1 58 24).toNatClampNeg) : Int32))), ∀ (y6 : Int32), ∀ (M6 : aM), ∀ (e6 : M6.2.2 = M.2.2), ∀ (q6 : Q6 y6 M6), AW l (pI pg 187) P kc ks 92 [(0, .ref 58), (1, .int (Int32.ofInt 0))] [] SHF (aset M6 70 (M.1 58 24).toNatClampNeg (.int (y6)))) : AW l (pI pg 187) P kc ks 42 [(0, .ref 58)] [] SHF M := by
  refine AW.aload_n (dq rfl) rfl rfl ?_
  show AW l (pI pg 187) P kc ks 43 _ _ SHF _
  refine fw_get (dq rfl) (pg_ok.2.1 187 _ _ _ _ rfl) rfl (v := .ref 70) (isTA_ok rfl (rgR_ok hJ rfl)) ?_
  show AW l (pI pg 187) P kc ks 46 _ _ SHF _
  refine AW.aload_n (dq rfl) rfl rfl ?_
  show AW l (pI pg 187) P kc ks 47 _ _ SHF _
  refine fw_get (dq rfl) (pg_ok.2.1 187 _ _ _ _ rfl) rfl (v := .int (M.1 58 24)) rfl ?_
  show AW l (pI pg 187) P kc ks 50 _ _ SHF _
  refine AW.aload_n (dq rfl) rfl rfl ?_
  show AW l (pI pg 187) P kc ks 51 _ _ SHF _
  refine AW.iconst (dq rfl) ?_
  show AW l (pI pg 187) P kc ks 52 _ _ SHF _
  refine AW.bipush (dq rfl) ?_
  show AW l (pI pg 187) P kc ks 54 _ _ SHF _
  refine AW.aload_n (dq rfl) rfl rfl ?_
  show AW l (pI pg 187) P kc ks 55 _ _ SHF _
  refine fw_get (dq rfl) (pg_ok.2.1 187 _ _ _ _ rfl) rfl (v := .ref 69) (isTA_ok rfl (rgR_ok hJ rfl)) ?_
  show AW l (pI pg 187) P kc ks 58 _ _ SHF _
  refine AW.aload_n (dq rfl) rfl rfl ?_
  show AW l (pI pg 187) P kc ks 59 _ _ SHF _
  refine fw_get (dq rfl) (pg_ok.2.1 187 _ _ _ _ rfl) rfl (v := .int (M.1 58 24)) rfl ?_
  show AW l (pI pg 187) P kc ks 62 _ _ SHF _
  refine AW.iald (dq rfl) rfl (o1) ?_
  show AW l (pI pg 187) P kc ks 63 _ _ SHF _
  refine AW.isub (dq rfl) ?_
  show AW l (pI pg 187) P kc ks 64 _ _ SHF _
  refine AW.bipush (dq rfl) ?_
  show AW l (pI pg 187) P kc ks 66 _ _ SHF _
  refine AW.icmp_ge (dq rfl) (tgt := 84) (by decide) (fun h2 => ?_) (fun h2 => ?_)
  · have _ := h2
    refine AW.bipush (dq rfl) ?_
    show AW l (pI pg 187) P kc ks 86 _ _ SHF _
    refine fw_callVI (as := [.int (Int32.ofInt 1), .int ((Int8.ofInt 8).toInt32)]) (dq rfl) (pg_ok.2.2.1 187 _ _ _ _ rfl) rfl (by decide +kernel) rfl rfl (c4 h2) (fun y3 M3 e3 q3 => ?_)
    have hJ3 : ∀ e ∈ RM, M3.2.2 e.1 e.2.1 = e.2.2 := fun e he => by rw [e3]; exact hJ e he
    show AW l (pI pg 187) P kc ks 89 [(0, .ref 58)] [.int (y3), .int (M.1 58 24), .ref 70] SHF _
    refine AW.iast (dq rfl) rfl (o1) ?_
    show AW l (pI pg 187) P kc ks 90 _ _ SHF _
    refine AW.iconst (dq rfl) ?_
    show AW l (pI pg 187) P kc ks 91 _ _ SHF _
    refine AW.istore_n (dq rfl) (by decide +kernel) ?_
    show AW l (pI pg 187) P kc ks 92 [(1, .int (Int32.ofInt 0)), (0, .ref 58)] [] SHF _
    refine AW.drop (lv' := [(0, .ref 58), (1, .int (Int32.ofInt 0))]) (List.forall_mem_cons.mpr ⟨List.mem_of_getElem? (i := 1) rfl, List.forall_mem_cons.mpr ⟨List.mem_of_getElem? (i := 0) rfl, fun _ h => absurd h List.not_mem_nil⟩⟩) ?_
    exact k5 h2 y3 M3 e3 q3
  · have _ := h2
    refine AW.bipush (dq rfl) ?_
    show AW l (pI pg 187) P kc ks 71 _ _ SHF _
    refine AW.aload_n (dq rfl) rfl rfl ?_
    show AW l (pI pg 187) P kc ks 72 _ _ SHF _
    refine fw_get (dq rfl) (pg_ok.2.1 187 _ _ _ _ rfl) rfl (v := .ref 69) (isTA_ok rfl (rgR_ok hJ rfl)) ?_
    show AW l (pI pg 187) P kc ks 75 _ _ SHF _
    refine AW.aload_n (dq rfl) rfl rfl ?_
    show AW l (pI pg 187) P kc ks 76 _ _ SHF _
    refine fw_get (dq rfl) (pg_ok.2.1 187 _ _ _ _ rfl) rfl (v := .int (M.1 58 24)) rfl ?_
    show AW l (pI pg 187) P kc ks 79 _ _ SHF _
    refine AW.iald (dq rfl) rfl (o1) ?_
    show AW l (pI pg 187) P kc ks 80 _ _ SHF _
    refine AW.isub (dq rfl) ?_
    show AW l (pI pg 187) P kc ks 81 _ _ SHF _
    refine AW.goto (dq rfl) (tgt := 86) (by decide) ?_
    refine fw_callVI (as := [.int (Int32.ofInt 1), .int (((Int8.ofInt 24).toInt32) - (M.1 69 (M.1 58 24).toNatClampNeg))]) (dq rfl) (pg_ok.2.2.1 187 _ _ _ _ rfl) rfl (by decide +kernel) rfl rfl (c7 h2) (fun y6 M6 e6 q6 => ?_)
    have hJ6 : ∀ e ∈ RM, M6.2.2 e.1 e.2.1 = e.2.2 := fun e he => by rw [e6]; exact hJ e he
    show AW l (pI pg 187) P kc ks 89 [(0, .ref 58)] [.int (y6), .int (M.1 58 24), .ref 70] SHF _
    refine AW.iast (dq rfl) rfl (o1) ?_
    show AW l (pI pg 187) P kc ks 90 _ _ SHF _
    refine AW.iconst (dq rfl) ?_
    show AW l (pI pg 187) P kc ks 91 _ _ SHF _
    refine AW.istore_n (dq rfl) (by decide +kernel) ?_
    show AW l (pI pg 187) P kc ks 92 [(1, .int (Int32.ofInt 0)), (0, .ref 58)] [] SHF _
    refine AW.drop (lv' := [(0, .ref 58), (1, .int (Int32.ofInt 0))]) (List.forall_mem_cons.mpr ⟨List.mem_of_getElem? (i := 1) rfl, List.forall_mem_cons.mpr ⟨List.mem_of_getElem? (i := 0) rfl, fun _ h => absurd h List.not_mem_nil⟩⟩) ?_
    exact k8 h2 y6 M6 e6 q6

theorem rdw_92 {l : aL} {P : aP} {kc ks : Nat} {i : Nat} {M : aM} (hJ : ∀ e ∈ RM, M.2.2 e.1 e.2.1 = e.2.2) (hl0 : l.1.stackTraces = false) (k2 : ∀ (h1 : ((Int8.ofInt 6).toInt32 : Int32) ≤ (nI i : Int32)), AW l (pI pg 187) P kc ks 119 [(0, .ref 58)] [] SHF M) (o3 : ∀ (h1 : ¬ (((Int8.ofInt 6).toInt32 : Int32) ≤ (nI i : Int32))), vp_in ((((Int8.ofInt 8).toInt32) * (nI i)) + (M.1 58 24)) 48) (k4 : ∀ (h1 : ¬ (((Int8.ofInt 6).toInt32 : Int32) ≤ (nI i : Int32))), AW l (pI pg 187) P kc ks 92 [(0, .ref 58), (1, .int ((nI i) + Int32.ofInt 1))] [] SHF (aset M 71 ((((Int8.ofInt 8).toInt32) * (nI i)) + (M.1 58 24)).toNatClampNeg (.int (Int32.ofInt 0)))) : AW l (pI pg 187) P kc ks 92 [(0, .ref 58), (1, .int (nI i))] [] SHF M := by
  refine AW.iload_n (dq rfl) rfl ?_
  show AW l (pI pg 187) P kc ks 93 _ _ SHF _
  refine AW.bipush (dq rfl) ?_
  show AW l (pI pg 187) P kc ks 95 _ _ SHF _
  refine AW.icmp_ge (dq rfl) (tgt := 119) (by decide) (fun h1 => ?_) (fun h1 => ?_)
  · have _ := h1
    refine AW.drop (lv' := [(0, .ref 58)]) (List.forall_mem_cons.mpr ⟨List.mem_of_getElem? (i := 0) rfl, fun _ h => absurd h List.not_mem_nil⟩) ?_
    exact k2 h1
  · have _ := h1
    refine AW.aload_n (dq rfl) rfl rfl ?_
    show AW l (pI pg 187) P kc ks 99 _ _ SHF _
    refine fw_get (dq rfl) (pg_ok.2.1 187 _ _ _ _ rfl) rfl (v := .ref 71) (isTA_ok rfl (rgR_ok hJ rfl)) ?_
    show AW l (pI pg 187) P kc ks 102 _ _ SHF _
    refine AW.bipush (dq rfl) ?_
    show AW l (pI pg 187) P kc ks 104 _ _ SHF _
    refine AW.iload_n (dq rfl) rfl ?_
    show AW l (pI pg 187) P kc ks 105 _ _ SHF _
    refine AW.imul (dq rfl) ?_
    show AW l (pI pg 187) P kc ks 106 _ _ SHF _
    refine AW.aload_n (dq rfl) rfl rfl ?_
    show AW l (pI pg 187) P kc ks 107 _ _ SHF _
    refine fw_get (dq rfl) (pg_ok.2.1 187 _ _ _ _ rfl) rfl (v := .int (M.1 58 24)) rfl ?_
    show AW l (pI pg 187) P kc ks 110 _ _ SHF _
    refine AW.iadd (dq rfl) ?_
    show AW l (pI pg 187) P kc ks 111 _ _ SHF _
    refine AW.iconst (dq rfl) ?_
    show AW l (pI pg 187) P kc ks 112 _ _ SHF _
    refine AW.iast (dq rfl) rfl (o3 h1) ?_
    show AW l (pI pg 187) P kc ks 113 _ _ SHF _
    refine AW.iinc (dq rfl) rfl (by decide +kernel) ?_
    show AW l (pI pg 187) P kc ks 116 [(1, .int ((nI i) + Int32.ofInt 1)), (0, .ref 58)] [] SHF _
    refine AW.goto (dq rfl) (tgt := 92) (by decide) ?_
    refine AW.drop (lv' := [(0, .ref 58), (1, .int ((nI i) + Int32.ofInt 1))]) (List.forall_mem_cons.mpr ⟨List.mem_of_getElem? (i := 1) rfl, List.forall_mem_cons.mpr ⟨List.mem_of_getElem? (i := 0) rfl, fun _ h => absurd h List.not_mem_nil⟩⟩) ?_
    exact k4 h1

theorem rdw_119 {l : aL} {P : aP} {kc ks : Nat} {M : aM} (hJ : ∀ e ∈ RM, M.2.2 e.1 e.2.1 = e.2.2) (hl0 : l.1.stackTraces = false) (r3 : ∀ (h2 : (gdV (M.1 58 13) : Int32) = 0), P (.inl none) SHF M) (r4 : ∀ (h2 : ¬ ((gdV (M.1 58 13) : Int32) = 0)), P (.inl none) SHF (aset M 58 24 (.int ((M.1 58 24) + (Int32.ofInt 1))))) : AW l (pI pg 187) P kc ks 119 [(0, .ref 58)] [] SHF M := by
  refine AW.aload_n (dq rfl) rfl rfl ?_
  show AW l (pI pg 187) P kc ks 120 _ _ SHF _
  refine fw_callVI (as := []) (dq rfl) (pg_ok.2.2.1 187 _ _ _ _ rfl) rfl (by decide +kernel) rfl rfl (igd_c hl0 (fun e he => hJ e he)) (fun y1 M1 e1 q1 => ?_)
  obtain ⟨rfl, rfl⟩ := q1
  show AW l (pI pg 187) P kc ks 123 [(0, .ref 58)] [.int (gdV (M.1 58 13))] SHF _
  refine AW.if_eq (dq rfl) (tgt := 136) (by decide) (fun h2 => ?_) (fun h2 => ?_)
  · have _ := h2
    refine AW.vret (dq rfl) rfl ?_
    exact r3 h2
  · have _ := h2
    refine AW.aload_n (dq rfl) rfl rfl ?_
    show AW l (pI pg 187) P kc ks 127 _ _ SHF _
    refine AW.dup (dq rfl) rfl ?_
    show AW l (pI pg 187) P kc ks 128 _ _ SHF _
    refine fw_get (dq rfl) (pg_ok.2.1 187 _ _ _ _ rfl) rfl (v := .int (M.1 58 24)) rfl ?_
    show AW l (pI pg 187) P kc ks 131 _ _ SHF _
    refine AW.iconst (dq rfl) ?_
    show AW l (pI pg 187) P kc ks 132 _ _ SHF _
    refine AW.iadd (dq rfl) ?_
    show AW l (pI pg 187) P kc ks 133 _ _ SHF _
    refine fw_putI (dq rfl) (pg_ok.2.1 187 _ _ _ _ rfl) rfl rfl rfl ?_
    show AW l (pI pg 187) P kc ks 136 _ _ SHF _
    refine AW.vret (dq rfl) rfl ?_
    exact r4 h2

theorem rdc_0 {l : aL} {P : aP} {kc ks : Nat} {M : aM} (hJ : ∀ e ∈ RM, M.2.2 e.1 e.2.1 = e.2.2) (hl0 : l.1.stackTraces = false) (Q1 : aM → Prop) (c2 : AC l (pI pg 176) (fcV M Q1) 0 0 [.ref 58] SHF M) (Q3 : aM → Int32 → aM → Prop) (c4 : ∀ (M1 : aM), ∀ (e1 : M1.2.2 = M.2.2), ∀ (q1 : Q1 M1), AC l (pI pg 189) (fcI M1 (Q3 M1)) 0 0 [.ref 58, .int (M1.1 58 23)] SHF M1) (k6 : ∀ (M1 : aM), ∀ (e1 : M1.2.2 = M.2.2), ∀ (q1 : Q1 M1), ∀ (y3 : Int32), ∀ (M3 : aM), ∀ (e3 : M3.2.2 = M1.2.2), ∀ (q3 : (Q3 M1) y3 M3), ∀ (h5 : (y3 : Int32) = 0), AW l (pI pg 188) P kc ks 27 [(0, .ref 58)] [] SHF (aset M3 58 35 (.int (Int32.ofInt 0)))) (k7 : ∀ (M1 : aM), ∀ (e1 : M1.2.2 = M.2.2), ∀ (q1 : Q1 M1), ∀ (y3 : Int32), ∀ (M3 : aM), ∀ (e3 : M3.2.2 = M1.2.2), ∀ (q3 : (Q3 M1) y3 M3), ∀ (h5 : ¬ ((y3 : Int32) = 0)), AW l (pI pg 188) P kc ks 27 [(0, .ref 58)] [] SHF (aset M3 58 35 (.int (M3.1 58 21)))) : AW l (pI pg 188) P kc ks 0 [(0, .ref 58)] [] SHF M := by
  refine AW.aload_n (dq rfl) rfl rfl ?_
  show AW l (pI pg 188) P kc ks 1 _ _ SHF _
  refine fw_callVV (as := []) (dq rfl) (pg_ok.2.2.1 188 _ _ _ _ rfl) rfl (by decide +kernel) rfl rfl (c2) (fun M1 e1 q1 => ?_)
  have hJ1 : ∀ e ∈ RM, M1.2.2 e.1 e.2.1 = e.2.2 := fun e he => by rw [e1]; exact hJ e he
  show AW l (pI pg 188) P kc ks 4 [(0, .ref 58)] [] SHF _
  refine AW.aload_n (dq rfl) rfl rfl ?_
  show AW l (pI pg 188) P kc ks 5 _ _ SHF _
  refine AW.aload_n (dq rfl) rfl rfl ?_
  show AW l (pI pg 188) P kc ks 6 _ _ SHF _
  refine AW.aload_n (dq rfl) rfl rfl ?_
  show AW l (pI pg 188) P kc ks 7 _ _ SHF _
  refine fw_get (dq rfl) (pg_ok.2.1 188 _ _ _ _ rfl) rfl (v := .int (M1.1 58 23)) rfl ?_
  show AW l (pI pg 188) P kc ks 10 _ _ SHF _
  refine fw_callVI (as := [.int (M1.1 58 23)]) (dq rfl) (pg_ok.2.2.1 188 _ _ _ _ rfl) rfl (by decide +kernel) rfl rfl (c4 M1 e1 q1) (fun y3 M3 e3 q3 => ?_)
  have hJ3 : ∀ e ∈ RM, M3.2.2 e.1 e.2.1 = e.2.2 := fun e he => by rw [e3]; exact hJ1 e he
  show AW l (pI pg 188) P kc ks 13 [(0, .ref 58)] [.int (y3), .ref 58] SHF _
  refine AW.if_eq (dq rfl) (tgt := 23) (by decide) (fun h5 => ?_) (fun h5 => ?_)
  · have _ := h5
    refine AW.iconst (dq rfl) ?_
    show AW l (pI pg 188) P kc ks 24 _ _ SHF _
    refine fw_putI (dq rfl) (pg_ok.2.1 188 _ _ _ _ rfl) rfl rfl rfl ?_
    show AW l (pI pg 188) P kc ks 27 _ _ SHF _
    refine AW.drop (lv' := [(0, .ref 58)]) (List.forall_mem_cons.mpr ⟨List.mem_of_getElem? (i := 0) rfl, fun _ h => absurd h List.not_mem_nil⟩) ?_
    exact k6 M1 e1 q1 y3 M3 e3 q3 h5
  · have _ := h5
    refine AW.aload_n (dq rfl) rfl rfl ?_
    show AW l (pI pg 188) P kc ks 17 _ _ SHF _
    refine fw_get (dq rfl) (pg_ok.2.1 188 _ _ _ _ rfl) rfl (v := .int (M3.1 58 21)) rfl ?_
    show AW l (pI pg 188) P kc ks 20 _ _ SHF _
    refine AW.goto (dq rfl) (tgt := 24) (by decide) ?_
    refine fw_putI (dq rfl) (pg_ok.2.1 188 _ _ _ _ rfl) rfl rfl rfl ?_
    show AW l (pI pg 188) P kc ks 27 _ _ SHF _
    refine AW.drop (lv' := [(0, .ref 58)]) (List.forall_mem_cons.mpr ⟨List.mem_of_getElem? (i := 0) rfl, fun _ h => absurd h List.not_mem_nil⟩) ?_
    exact k7 M1 e1 q1 y3 M3 e3 q3 h5

theorem rdc_27 {l : aL} {P : aP} {kc ks : Nat} {M : aM} (hJ : ∀ e ∈ RM, M.2.2 e.1 e.2.1 = e.2.2) (hl0 : l.1.stackTraces = false) (k3 : ∀ (h2 : (gdV (M.1 58 13) : Int32) = 0), AW l (pI pg 188) P kc ks 38 [(0, .ref 58)] [] SHF M) (Q4 : aM → Prop) (c5 : ∀ (h2 : ¬ ((gdV (M.1 58 13) : Int32) = 0)), AC l (pI pg 176) (fcV M Q4) 0 0 [.ref 58] SHF M) (k6 : ∀ (h2 : ¬ ((gdV (M.1 58 13) : Int32) = 0)), ∀ (M4 : aM), ∀ (e4 : M4.2.2 = M.2.2), ∀ (q4 : Q4 M4), AW l (pI pg 188) P kc ks 38 [(0, .ref 58)] [] SHF M4) : AW l (pI pg 188) P kc ks 27 [(0, .ref 58)] [] SHF M := by
  refine AW.aload_n (dq rfl) rfl rfl ?_
  show AW l (pI pg 188) P kc ks 28 _ _ SHF _
  refine fw_callVI (as := []) (dq rfl) (pg_ok.2.2.1 188 _ _ _ _ rfl) rfl (by decide +kernel) rfl rfl (igd_c hl0 (fun e he => hJ e he)) (fun y1 M1 e1 q1 => ?_)
  obtain ⟨rfl, rfl⟩ := q1
  show AW l (pI pg 188) P kc ks 31 [(0, .ref 58)] [.int (gdV (M.1 58 13))] SHF _
  refine AW.if_eq (dq rfl) (tgt := 38) (by decide) (fun h2 => ?_) (fun h2 => ?_)
  · have _ := h2
    refine AW.drop (lv' := [(0, .ref 58)]) (List.forall_mem_cons.mpr ⟨List.mem_of_getElem? (i := 0) rfl, fun _ h => absurd h List.not_mem_nil⟩) ?_
    exact k3 h2
  · have _ := h2
    refine AW.aload_n (dq rfl) rfl rfl ?_
    show AW l (pI pg 188) P kc ks 35 _ _ SHF _
    refine fw_callVV (as := []) (dq rfl) (pg_ok.2.2.1 188 _ _ _ _ rfl) rfl (by decide +kernel) rfl rfl (c5 h2) (fun M4 e4 q4 => ?_)
    have hJ4 : ∀ e ∈ RM, M4.2.2 e.1 e.2.1 = e.2.2 := fun e he => by rw [e4]; exact hJ e he
    show AW l (pI pg 188) P kc ks 38 [(0, .ref 58)] [] SHF _
    refine AW.drop (lv' := [(0, .ref 58)]) (List.forall_mem_cons.mpr ⟨List.mem_of_getElem? (i := 0) rfl, fun _ h => absurd h List.not_mem_nil⟩) ?_
    exact k6 h2 M4 e4 q4

theorem rdc_38 {l : aL} {P : aP} {kc ks : Nat} {M : aM} (hJ : ∀ e ∈ RM, M.2.2 e.1 e.2.1 = e.2.2) (hl0 : l.1.stackTraces = false) (Q1 : Int32 → aM → Prop) (c2 : AC l (pI pg 189) (fcI M Q1) 0 0 [.ref 58, .int (M.1 58 24)] SHF M) (k4 : ∀ (y1 : Int32), ∀ (M1 : aM), ∀ (e1 : M1.2.2 = M.2.2), ∀ (q1 : Q1 y1 M1), ∀ (h3 : (y1 : Int32) = 0), AW l (pI pg 188) P kc ks 142 [(0, .ref 58)] [] SHF M1) (o5 : ∀ (y1 : Int32), ∀ (M1 : aM), ∀ (e1 : M1.2.2 = M.2.2), ∀ (q1 : Q1 y1 M1), ∀ (h3 : ¬ ((y1 : Int32) = 0)), vp_in ((((Int8.ofInt 8).toInt32) * (M1.1 58 35)) + (M1.1 58 21)) 48) (k7 : ∀ (y1 : Int32), ∀ (M1 : aM), ∀ (e1 : M1.2.2 = M.2.2), ∀ (q1 : Q1 y1 M1), ∀ (h3 : ¬ ((y1 : Int32) = 0)), ∀ (h6 : (M1.1 71 ((((Int8.ofInt 8).toInt32) * (M1.1 58 35)) + (M1.1 58 21)).toNatClampNeg : Int32) ≤ 0), AW l (pI pg 188) P kc ks 77 [(0, .ref 58), (1, .int (Int32.ofInt 0)), (2, .int (Int32.ofInt 0))] [] SHF M1) (k8 : ∀ (y1 : Int32), ∀ (M1 : aM), ∀ (e1 : M1.2.2 = M.2.2), ∀ (q1 : Q1 y1 M1), ∀ (h3 : ¬ ((y1 : Int32) = 0)), ∀ (h6 : ¬ ((M1.1 71 ((((Int8.ofInt 8).toInt32) * (M1.1 58 35)) + (M1.1 58 21)).toNatClampNeg : Int32) ≤ 0)), AW l (pI pg 188) P kc ks 77 [(0, .ref 58), (1, .int (Int32.ofInt 1)), (2, .int (Int32.ofInt 0))] [] SHF M1) : AW l (pI pg 188) P kc ks 38 [(0, .ref 58)] [] SHF M := by
  refine AW.aload_n (dq rfl) rfl rfl ?_
  show AW l (pI pg 188) P kc ks 39 _ _ SHF _
  refine AW.aload_n (dq rfl) rfl rfl ?_
  show AW l (pI pg 188) P kc ks 40 _ _ SHF _
  refine fw_get (dq rfl) (pg_ok.2.1 188 _ _ _ _ rfl) rfl (v := .int (M.1 58 24)) rfl ?_
  show AW l (pI pg 188) P kc ks 43 _ _ SHF _
  refine fw_callVI (as := [.int (M.1 58 24)]) (dq rfl) (pg_ok.2.2.1 188 _ _ _ _ rfl) rfl (by decide +kernel) rfl rfl (c2) (fun y1 M1 e1 q1 => ?_)
  have hJ1 : ∀ e ∈ RM, M1.2.2 e.1 e.2.1 = e.2.2 := fun e he => by rw [e1]; exact hJ e he
  show AW l (pI pg 188) P kc ks 46 [(0, .ref 58)] [.int (y1)] SHF _
  refine AW.if_eq (dq rfl) (tgt := 142) (by decide) (fun h3 => ?_) (fun h3 => ?_)
  · have _ := h3
    refine AW.drop (lv' := [(0, .ref 58)]) (List.forall_mem_cons.mpr ⟨List.mem_of_getElem? (i := 0) rfl, fun _ h => absurd h List.not_mem_nil⟩) ?_
    exact k4 y1 M1 e1 q1 h3
  · have _ := h3
    refine AW.aload_n (dq rfl) rfl rfl ?_
    show AW l (pI pg 188) P kc ks 50 _ _ SHF _
    refine fw_get (dq rfl) (pg_ok.2.1 188 _ _ _ _ rfl) rfl (v := .ref 71) (isTA_ok rfl (rgR_ok hJ1 rfl)) ?_
    show AW l (pI pg 188) P kc ks 53 _ _ SHF _
    refine AW.bipush (dq rfl) ?_
    show AW l (pI pg 188) P kc ks 55 _ _ SHF _
    refine AW.aload_n (dq rfl) rfl rfl ?_
    show AW l (pI pg 188) P kc ks 56 _ _ SHF _
    refine fw_get (dq rfl) (pg_ok.2.1 188 _ _ _ _ rfl) rfl (v := .int (M1.1 58 35)) rfl ?_
    show AW l (pI pg 188) P kc ks 59 _ _ SHF _
    refine AW.imul (dq rfl) ?_
    show AW l (pI pg 188) P kc ks 60 _ _ SHF _
    refine AW.aload_n (dq rfl) rfl rfl ?_
    show AW l (pI pg 188) P kc ks 61 _ _ SHF _
    refine fw_get (dq rfl) (pg_ok.2.1 188 _ _ _ _ rfl) rfl (v := .int (M1.1 58 21)) rfl ?_
    show AW l (pI pg 188) P kc ks 64 _ _ SHF _
    refine AW.iadd (dq rfl) ?_
    show AW l (pI pg 188) P kc ks 65 _ _ SHF _
    refine AW.iald (dq rfl) rfl (o5 y1 M1 e1 q1 h3) ?_
    show AW l (pI pg 188) P kc ks 66 _ _ SHF _
    refine AW.if_le (dq rfl) (tgt := 73) (by decide) (fun h6 => ?_) (fun h6 => ?_)
    · have _ := h6
      refine AW.iconst (dq rfl) ?_
      show AW l (pI pg 188) P kc ks 74 _ _ SHF _
      refine AW.istore_n (dq rfl) (by decide +kernel) ?_
      show AW l (pI pg 188) P kc ks 75 [(1, .int (Int32.ofInt 0)), (0, .ref 58)] [] SHF _
      refine AW.iconst (dq rfl) ?_
      show AW l (pI pg 188) P kc ks 76 _ _ SHF _
      refine AW.istore_n (dq rfl) (by decide +kernel) ?_
      show AW l (pI pg 188) P kc ks 77 [(2, .int (Int32.ofInt 0)), (1, .int (Int32.ofInt 0)), (0, .ref 58)] [] SHF _
      refine AW.drop (lv' := [(0, .ref 58), (1, .int (Int32.ofInt 0)), (2, .int (Int32.ofInt 0))]) (List.forall_mem_cons.mpr ⟨List.mem_of_getElem? (i := 2) rfl, List.forall_mem_cons.mpr ⟨List.mem_of_getElem? (i := 1) rfl, List.forall_mem_cons.mpr ⟨List.mem_of_getElem? (i := 0) rfl, fun _ h => absurd h List.not_mem_nil⟩⟩⟩) ?_
      exact k7 y1 M1 e1 q1 h3 h6
    · have _ := h6
      refine AW.iconst (dq rfl) ?_
      show AW l (pI pg 188) P kc ks 70 _ _ SHF _
      refine AW.goto (dq rfl) (tgt := 74) (by decide) ?_
      refine AW.istore_n (dq rfl) (by decide +kernel) ?_
      show AW l (pI pg 188) P kc ks 75 [(1, .int (Int32.ofInt 1)), (0, .ref 58)] [] SHF _
      refine AW.iconst (dq rfl) ?_
      show AW l (pI pg 188) P kc ks 76 _ _ SHF _
      refine AW.istore_n (dq rfl) (by decide +kernel) ?_
      show AW l (pI pg 188) P kc ks 77 [(2, .int (Int32.ofInt 0)), (1, .int (Int32.ofInt 1)), (0, .ref 58)] [] SHF _
      refine AW.drop (lv' := [(0, .ref 58), (1, .int (Int32.ofInt 1)), (2, .int (Int32.ofInt 0))]) (List.forall_mem_cons.mpr ⟨List.mem_of_getElem? (i := 2) rfl, List.forall_mem_cons.mpr ⟨List.mem_of_getElem? (i := 1) rfl, List.forall_mem_cons.mpr ⟨List.mem_of_getElem? (i := 0) rfl, fun _ h => absurd h List.not_mem_nil⟩⟩⟩) ?_
      exact k8 y1 M1 e1 q1 h3 h6

theorem rdc_77 {l : aL} {P : aP} {kc ks : Nat} {i : Nat} {x1 : Int32} {M : aM} (hJ : ∀ e ∈ RM, M.2.2 e.1 e.2.1 = e.2.2) (hl0 : l.1.stackTraces = false) (k3 : ∀ (h1 : (M.1 58 25 : Int32) ≤ (nI i : Int32)), ∀ (h2 : (x1 : Int32) = 0), AW l (pI pg 188) P kc ks 142 [(0, .ref 58)] [] SHF M) (k5 : ∀ (h1 : (M.1 58 25 : Int32) ≤ (nI i : Int32)), ∀ (h2 : ¬ ((x1 : Int32) = 0)), AW l (pI pg 188) P kc ks 142 [(0, .ref 58)] [] SHF (wgM M (Int32.ofInt 4))) (k7 : ∀ (h1 : ¬ ((M.1 58 25 : Int32) ≤ (nI i : Int32))), ∀ (h6 : ¬ (x1 : Int32) = 0), AW l (pI pg 188) P kc ks 77 [(0, .ref 58), (1, .int (Int32.ofInt 1)), (2, .int ((nI i) + Int32.ofInt 1))] [] SHF M) (o8 : ∀ (h1 : ¬ ((M.1 58 25 : Int32) ≤ (nI i : Int32))), ∀ (h6 : (x1 : Int32) = 0), vp_in ((Int32.ofInt 4) * (nI i)) 32) (k10 : ∀ (h1 : ¬ ((M.1 58 25 : Int32) ≤ (nI i : Int32))), ∀ (h6 : (x1 : Int32) = 0), ∀ (h9 : ¬ (M.1 72 ((Int32.ofInt 4) * (nI i)).toNatClampNeg : Int32) = (M.1 58 35 : Int32)), AW l (pI pg 188) P kc ks 77 [(0, .ref 58), (1, .int (Int32.ofInt 0)), (2, .int ((nI i) + Int32.ofInt 1))] [] SHF M) (o11 : ∀ (h1 : ¬ ((M.1 58 25 : Int32) ≤ (nI i : Int32))), ∀ (h6 : (x1 : Int32) = 0), ∀ (h9 : (M.1 72 ((Int32.ofInt 4) * (nI i)).toNatClampNeg : Int32) = (M.1 58 35 : Int32)), vp_in (((Int32.ofInt 4) * (nI i)) + (Int32.ofInt 1)) 32) (k13 : ∀ (h1 : ¬ ((M.1 58 25 : Int32) ≤ (nI i : Int32))), ∀ (h6 : (x1 : Int32) = 0), ∀ (h9 : (M.1 72 ((Int32.ofInt 4) * (nI i)).toNatClampNeg : Int32) = (M.1 58 35 : Int32)), ∀ (h12 : ¬ (M.1 72 (((Int32.ofInt 4) * (nI i)) + (Int32.ofInt 1)).toNatClampNeg : Int32) = (M.1 58 21 : Int32)), AW l (pI pg 188) P kc ks 77 [(0, .ref 58), (1, .int (Int32.ofInt 0)), (2, .int ((nI i) + Int32.ofInt 1))] [] SHF M) (k14 : ∀ (h1 : ¬ ((M.1 58 25 : Int32) ≤ (nI i : Int32))), ∀ (h6 : (x1 : Int32) = 0), ∀ (h9 : (M.1 72 ((Int32.ofInt 4) * (nI i)).toNatClampNeg : Int32) = (M.1 58 35 : Int32)), ∀ (h12 : (M.1 72 (((Int32.ofInt 4) * (nI i)) + (Int32.ofInt 1)).toNatClampNeg : Int32) = (M.1 58 21 : Int32)), AW l (pI pg 188) P kc ks 77 [(0, .ref 58), (1, .int (Int32.ofInt 1)), (2, .int ((nI i) + Int32.ofInt 1))] [] SHF M) : AW l (pI pg 188) P kc ks 77 [(0, .ref 58), (1, .int (x1)), (2, .int (nI i))] [] SHF M := by
  refine AW.iload_n (dq rfl) rfl ?_
  show AW l (pI pg 188) P kc ks 78 _ _ SHF _
  refine AW.aload_n (dq rfl) rfl rfl ?_
  show AW l (pI pg 188) P kc ks 79 _ _ SHF _
  refine fw_get (dq rfl) (pg_ok.2.1 188 _ _ _ _ rfl) rfl (v := .int (M.1 58 25)) rfl ?_
  show AW l (pI pg 188) P kc ks 82 _ _ SHF _
  refine AW.icmp_ge (dq rfl) (tgt := 133) (by decide) (fun h1 => ?_) (fun h1 => ?_)
  · have _ := h1
    refine AW.iload_n (dq rfl) rfl ?_
    show AW l (pI pg 188) P kc ks 134 _ _ SHF _
    refine AW.if_eq (dq rfl) (tgt := 142) (by decide) (fun h2 => ?_) (fun h2 => ?_)
    · have _ := h2
      refine AW.drop (lv' := [(0, .ref 58)]) (List.forall_mem_cons.mpr ⟨List.mem_of_getElem? (i := 0) rfl, fun _ h => absurd h List.not_mem_nil⟩) ?_
      exact k3 h1 h2
    · have _ := h2
      refine AW.aload_n (dq rfl) rfl rfl ?_
      show AW l (pI pg 188) P kc ks 138 _ _ SHF _
      refine AW.iconst (dq rfl) ?_
      show AW l (pI pg 188) P kc ks 139 _ _ SHF _
      refine fw_callVV (as := [.int (Int32.ofInt 4)]) (dq rfl) (pg_ok.2.2.1 188 _ _ _ _ rfl) rfl (by decide +kernel) rfl rfl (wrg_c hl0 (fun e he => hJ e he)) (fun M4 e4 q4 => ?_)
      obtain rfl := q4
      have hJ4 : ∀ e ∈ RM, (wgM M (Int32.ofInt 4)).2.2 e.1 e.2.1 = e.2.2 := fun e he => by rw [wgM_2]; exact hJ e he
      show AW l (pI pg 188) P kc ks 142 [(0, .ref 58), (1, .int (x1)), (2, .int (nI i))] [] SHF _
      refine AW.drop (lv' := [(0, .ref 58)]) (List.forall_mem_cons.mpr ⟨List.mem_of_getElem? (i := 0) rfl, fun _ h => absurd h List.not_mem_nil⟩) ?_
      exact k5 h1 h2
  · have _ := h1
    refine AW.iload_n (dq rfl) rfl ?_
    show AW l (pI pg 188) P kc ks 86 _ _ SHF _
    refine AW.if_ne (dq rfl) (tgt := 121) (by decide) (fun h6 => ?_) (fun h6 => ?_)
    · have _ := h6
      refine AW.iconst (dq rfl) ?_
      show AW l (pI pg 188) P kc ks 122 _ _ SHF _
      refine AW.goto (dq rfl) (tgt := 126) (by decide) ?_
      refine AW.istore_n (dq rfl) (by decide +kernel) ?_
      show AW l (pI pg 188) P kc ks 127 [(1, .int (Int32.ofInt 1)), (0, .ref 58), (2, .int (nI i))] [] SHF _
      refine AW.iinc (dq rfl) rfl (by decide +kernel) ?_
      show AW l (pI pg 188) P kc ks 130 [(2, .int ((nI i) + Int32.ofInt 1)), (1, .int (Int32.ofInt 1)), (0, .ref 58)] [] SHF _
      refine AW.goto (dq rfl) (tgt := 77) (by decide) ?_
      refine AW.drop (lv' := [(0, .ref 58), (1, .int (Int32.ofInt 1)), (2, .int ((nI i) + Int32.ofInt 1))]) (List.forall_mem_cons.mpr ⟨List.mem_of_getElem? (i := 2) rfl, List.forall_mem_cons.mpr ⟨List.mem_of_getElem? (i := 1) rfl, List.forall_mem_cons.mpr ⟨List.mem_of_getElem? (i := 0) rfl, fun _ h => absurd h List.not_mem_nil⟩⟩⟩) ?_
      exact k7 h1 h6
    · have _ := h6
      refine AW.aload_n (dq rfl) rfl rfl ?_
      show AW l (pI pg 188) P kc ks 90 _ _ SHF _
      refine fw_get (dq rfl) (pg_ok.2.1 188 _ _ _ _ rfl) rfl (v := .ref 72) (isTA_ok rfl (rgR_ok hJ rfl)) ?_
      show AW l (pI pg 188) P kc ks 93 _ _ SHF _
      refine AW.iconst (dq rfl) ?_
      show AW l (pI pg 188) P kc ks 94 _ _ SHF _
      refine AW.iload_n (dq rfl) rfl ?_
      show AW l (pI pg 188) P kc ks 95 _ _ SHF _
      refine AW.imul (dq rfl) ?_
      show AW l (pI pg 188) P kc ks 96 _ _ SHF _
      refine AW.iald (dq rfl) rfl (o8 h1 h6) ?_
      show AW l (pI pg 188) P kc ks 97 _ _ SHF _
      refine AW.aload_n (dq rfl) rfl rfl ?_
      show AW l (pI pg 188) P kc ks 98 _ _ SHF _
      refine fw_get (dq rfl) (pg_ok.2.1 188 _ _ _ _ rfl) rfl (v := .int (M.1 58 35)) rfl ?_
      show AW l (pI pg 188) P kc ks 101 _ _ SHF _
      refine AW.icmp_ne (dq rfl) (tgt := 125) (by decide) (fun h9 => ?_) (fun h9 => ?_)
      · have _ := h9
        refine AW.iconst (dq rfl) ?_
        show AW l (pI pg 188) P kc ks 126 _ _ SHF _
        refine AW.istore_n (dq rfl) (by decide +kernel) ?_
        show AW l (pI pg 188) P kc ks 127 [(1, .int (Int32.ofInt 0)), (0, .ref 58), (2, .int (nI i))] [] SHF _
        refine AW.iinc (dq rfl) rfl (by decide +kernel) ?_
        show AW l (pI pg 188) P kc ks 130 [(2, .int ((nI i) + Int32.ofInt 1)), (1, .int (Int32.ofInt 0)), (0, .ref 58)] [] SHF _
        refine AW.goto (dq rfl) (tgt := 77) (by decide) ?_
        refine AW.drop (lv' := [(0, .ref 58), (1, .int (Int32.ofInt 0)), (2, .int ((nI i) + Int32.ofInt 1))]) (List.forall_mem_cons.mpr ⟨List.mem_of_getElem? (i := 2) rfl, List.forall_mem_cons.mpr ⟨List.mem_of_getElem? (i := 1) rfl, List.forall_mem_cons.mpr ⟨List.mem_of_getElem? (i := 0) rfl, fun _ h => absurd h List.not_mem_nil⟩⟩⟩) ?_
        exact k10 h1 h6 h9
      · have _ := h9
        refine AW.aload_n (dq rfl) rfl rfl ?_
        show AW l (pI pg 188) P kc ks 105 _ _ SHF _
        refine fw_get (dq rfl) (pg_ok.2.1 188 _ _ _ _ rfl) rfl (v := .ref 72) (isTA_ok rfl (rgR_ok hJ rfl)) ?_
        show AW l (pI pg 188) P kc ks 108 _ _ SHF _
        refine AW.iconst (dq rfl) ?_
        show AW l (pI pg 188) P kc ks 109 _ _ SHF _
        refine AW.iload_n (dq rfl) rfl ?_
        show AW l (pI pg 188) P kc ks 110 _ _ SHF _
        refine AW.imul (dq rfl) ?_
        show AW l (pI pg 188) P kc ks 111 _ _ SHF _
        refine AW.iconst (dq rfl) ?_
        show AW l (pI pg 188) P kc ks 112 _ _ SHF _
        refine AW.iadd (dq rfl) ?_
        show AW l (pI pg 188) P kc ks 113 _ _ SHF _
        refine AW.iald (dq rfl) rfl (o11 h1 h6 h9) ?_
        show AW l (pI pg 188) P kc ks 114 _ _ SHF _
        refine AW.aload_n (dq rfl) rfl rfl ?_
        show AW l (pI pg 188) P kc ks 115 _ _ SHF _
        refine fw_get (dq rfl) (pg_ok.2.1 188 _ _ _ _ rfl) rfl (v := .int (M.1 58 21)) rfl ?_
        show AW l (pI pg 188) P kc ks 118 _ _ SHF _
        refine AW.icmp_ne (dq rfl) (tgt := 125) (by decide) (fun h12 => ?_) (fun h12 => ?_)
        · have _ := h12
          refine AW.iconst (dq rfl) ?_
          show AW l (pI pg 188) P kc ks 126 _ _ SHF _
          refine AW.istore_n (dq rfl) (by decide +kernel) ?_
          show AW l (pI pg 188) P kc ks 127 [(1, .int (Int32.ofInt 0)), (0, .ref 58), (2, .int (nI i))] [] SHF _
          refine AW.iinc (dq rfl) rfl (by decide +kernel) ?_
          show AW l (pI pg 188) P kc ks 130 [(2, .int ((nI i) + Int32.ofInt 1)), (1, .int (Int32.ofInt 0)), (0, .ref 58)] [] SHF _
          refine AW.goto (dq rfl) (tgt := 77) (by decide) ?_
          refine AW.drop (lv' := [(0, .ref 58), (1, .int (Int32.ofInt 0)), (2, .int ((nI i) + Int32.ofInt 1))]) (List.forall_mem_cons.mpr ⟨List.mem_of_getElem? (i := 2) rfl, List.forall_mem_cons.mpr ⟨List.mem_of_getElem? (i := 1) rfl, List.forall_mem_cons.mpr ⟨List.mem_of_getElem? (i := 0) rfl, fun _ h => absurd h List.not_mem_nil⟩⟩⟩) ?_
          exact k13 h1 h6 h9 h12
        · have _ := h12
          refine AW.iconst (dq rfl) ?_
          show AW l (pI pg 188) P kc ks 122 _ _ SHF _
          refine AW.goto (dq rfl) (tgt := 126) (by decide) ?_
          refine AW.istore_n (dq rfl) (by decide +kernel) ?_
          show AW l (pI pg 188) P kc ks 127 [(1, .int (Int32.ofInt 1)), (0, .ref 58), (2, .int (nI i))] [] SHF _
          refine AW.iinc (dq rfl) rfl (by decide +kernel) ?_
          show AW l (pI pg 188) P kc ks 130 [(2, .int ((nI i) + Int32.ofInt 1)), (1, .int (Int32.ofInt 1)), (0, .ref 58)] [] SHF _
          refine AW.goto (dq rfl) (tgt := 77) (by decide) ?_
          refine AW.drop (lv' := [(0, .ref 58), (1, .int (Int32.ofInt 1)), (2, .int ((nI i) + Int32.ofInt 1))]) (List.forall_mem_cons.mpr ⟨List.mem_of_getElem? (i := 2) rfl, List.forall_mem_cons.mpr ⟨List.mem_of_getElem? (i := 1) rfl, List.forall_mem_cons.mpr ⟨List.mem_of_getElem? (i := 0) rfl, fun _ h => absurd h List.not_mem_nil⟩⟩⟩) ?_
          exact k14 h1 h6 h9 h12

theorem rdc_142 {l : aL} {P : aP} {kc ks : Nat} {M : aM} (hJ : ∀ e ∈ RM, M.2.2 e.1 e.2.1 = e.2.2) (hl0 : l.1.stackTraces = false) (r3 : ∀ (h2 : (gdV ((aset M 58 36 (.int (M.1 58 21))).1 58 13) : Int32) = 0), P (.inl none) SHF (aset M 58 36 (.int (M.1 58 21)))) (Q4 : aM → Prop) (c5 : ∀ (h2 : ¬ ((gdV ((aset M 58 36 (.int (M.1 58 21))).1 58 13) : Int32) = 0)), AC l (pI pg 176) (fcV (aset M 58 36 (.int (M.1 58 21))) Q4) 0 0 [.ref 58] SHF (aset M 58 36 (.int (M.1 58 21)))) (r6 : ∀ (h2 : ¬ ((gdV ((aset M 58 36 (.int (M.1 58 21))).1 58 13) : Int32) = 0)), ∀ (M4 : aM), ∀ (e4 : M4.2.2 = (aset M 58 36 (.int (M.1 58 21))).2.2), ∀ (q4 : Q4 M4), P (.inl none) SHF M4) : AW l (pI pg 188) P kc ks 142 [(0, .ref 58)] [] SHF M := by
  refine AW.aload_n (dq rfl) rfl rfl ?_
  show AW l (pI pg 188) P kc ks 143 _ _ SHF _
  refine AW.aload_n (dq rfl) rfl rfl ?_
  show AW l (pI pg 188) P kc ks 144 _ _ SHF _
  refine fw_get (dq rfl) (pg_ok.2.1 188 _ _ _ _ rfl) rfl (v := .int (M.1 58 21)) rfl ?_
  show AW l (pI pg 188) P kc ks 147 _ _ SHF _
  refine fw_putI (dq rfl) (pg_ok.2.1 188 _ _ _ _ rfl) rfl rfl rfl ?_
  show AW l (pI pg 188) P kc ks 150 _ _ SHF _
  refine AW.aload_n (dq rfl) rfl rfl ?_
  show AW l (pI pg 188) P kc ks 151 _ _ SHF _
  refine fw_callVI (as := []) (dq rfl) (pg_ok.2.2.1 188 _ _ _ _ rfl) rfl (by decide +kernel) rfl rfl (igd_c hl0 (fun e he => hJ e he)) (fun y1 M1 e1 q1 => ?_)
  obtain ⟨rfl, rfl⟩ := q1
  show AW l (pI pg 188) P kc ks 154 [(0, .ref 58)] [.int (gdV ((aset M 58 36 (.int (M.1 58 21))).1 58 13))] SHF _
  refine AW.if_eq (dq rfl) (tgt := 161) (by decide) (fun h2 => ?_) (fun h2 => ?_)
  · have _ := h2
    refine AW.vret (dq rfl) rfl ?_
    exact r3 h2
  · have _ := h2
    refine AW.aload_n (dq rfl) rfl rfl ?_
    show AW l (pI pg 188) P kc ks 158 _ _ SHF _
    refine fw_callVV (as := []) (dq rfl) (pg_ok.2.2.1 188 _ _ _ _ rfl) rfl (by decide +kernel) rfl rfl (c5 h2) (fun M4 e4 q4 => ?_)
    have hJ4 : ∀ e ∈ RM, M4.2.2 e.1 e.2.1 = e.2.2 := fun e he => by rw [e4]; exact hJ e he
    show AW l (pI pg 188) P kc ks 161 [(0, .ref 58)] [] SHF _
    refine AW.vret (dq rfl) rfl ?_
    exact r6 h2 M4 e4 q4

theorem rdl_0 {l : aL} {P : aP} {kc ks : Nat} {M : aM} (hJ : ∀ e ∈ RM, M.2.2 e.1 e.2.1 = e.2.2) (hl0 : l.1.stackTraces = false) (k2 : ∀ (h1 : ¬ (M.1 58 25 : Int32) = ((Int8.ofInt 8).toInt32 : Int32)), AW l (pI pg 190) P kc ks 14 [(0, .ref 58)] [] SHF M) (k4 : ∀ (h1 : (M.1 58 25 : Int32) = ((Int8.ofInt 8).toInt32 : Int32)), AW l (pI pg 190) P kc ks 14 [(0, .ref 58)] [] SHF (wgM M (Int32.ofInt 2))) : AW l (pI pg 190) P kc ks 0 [(0, .ref 58)] [] SHF M := by
  refine AW.aload_n (dq rfl) rfl rfl ?_
  show AW l (pI pg 190) P kc ks 1 _ _ SHF _
  refine fw_get (dq rfl) (pg_ok.2.1 190 _ _ _ _ rfl) rfl (v := .int (M.1 58 25)) rfl ?_
  show AW l (pI pg 190) P kc ks 4 _ _ SHF _
  refine AW.bipush (dq rfl) ?_
  show AW l (pI pg 190) P kc ks 6 _ _ SHF _
  refine AW.icmp_ne (dq rfl) (tgt := 14) (by decide) (fun h1 => ?_) (fun h1 => ?_)
  · have _ := h1
    refine AW.drop (lv' := [(0, .ref 58)]) (List.forall_mem_cons.mpr ⟨List.mem_of_getElem? (i := 0) rfl, fun _ h => absurd h List.not_mem_nil⟩) ?_
    exact k2 h1
  · have _ := h1
    refine AW.aload_n (dq rfl) rfl rfl ?_
    show AW l (pI pg 190) P kc ks 10 _ _ SHF _
    refine AW.iconst (dq rfl) ?_
    show AW l (pI pg 190) P kc ks 11 _ _ SHF _
    refine fw_callVV (as := [.int (Int32.ofInt 2)]) (dq rfl) (pg_ok.2.2.1 190 _ _ _ _ rfl) rfl (by decide +kernel) rfl rfl (wrg_c hl0 (fun e he => hJ e he)) (fun M3 e3 q3 => ?_)
    obtain rfl := q3
    have hJ3 : ∀ e ∈ RM, (wgM M (Int32.ofInt 2)).2.2 e.1 e.2.1 = e.2.2 := fun e he => by rw [wgM_2]; exact hJ e he
    show AW l (pI pg 190) P kc ks 14 [(0, .ref 58)] [] SHF _
    refine AW.drop (lv' := [(0, .ref 58)]) (List.forall_mem_cons.mpr ⟨List.mem_of_getElem? (i := 0) rfl, fun _ h => absurd h List.not_mem_nil⟩) ?_
    exact k4 h1

theorem rdl_14 {l : aL} {P : aP} {kc ks : Nat} {M : aM} (hJ : ∀ e ∈ RM, M.2.2 e.1 e.2.1 = e.2.2) (hl0 : l.1.stackTraces = false) (Q3 : aM → Prop) (c4 : ∀ (h2 : ¬ (gdV (M.1 58 13) : Int32) = 0), AC l (pI pg 188) (fcV M Q3) 0 0 [.ref 58] SHF M) (k5 : ∀ (h2 : ¬ (gdV (M.1 58 13) : Int32) = 0), ∀ (M3 : aM), ∀ (e3 : M3.2.2 = M.2.2), ∀ (q3 : Q3 M3), AW l (pI pg 190) P kc ks 26 [(0, .ref 58)] [] SHF M3) (r6 : ∀ (h2 : (gdV (M.1 58 13) : Int32) = 0), P (.inl none) SHF M) : AW l (pI pg 190) P kc ks 14 [(0, .ref 58)] [] SHF M := by
  refine AW.aload_n (dq rfl) rfl rfl ?_
  show AW l (pI pg 190) P kc ks 15 _ _ SHF _
  refine fw_callVI (as := []) (dq rfl) (pg_ok.2.2.1 190 _ _ _ _ rfl) rfl (by decide +kernel) rfl rfl (igd_c hl0 (fun e he => hJ e he)) (fun y1 M1 e1 q1 => ?_)
  obtain ⟨rfl, rfl⟩ := q1
  show AW l (pI pg 190) P kc ks 18 [(0, .ref 58)] [.int (gdV (M.1 58 13))] SHF _
  refine AW.if_ne (dq rfl) (tgt := 22) (by decide) (fun h2 => ?_) (fun h2 => ?_)
  · have _ := h2
    refine AW.aload_n (dq rfl) rfl rfl ?_
    show AW l (pI pg 190) P kc ks 23 _ _ SHF _
    refine fw_callVV (as := []) (dq rfl) (pg_ok.2.2.1 190 _ _ _ _ rfl) rfl (by decide +kernel) rfl rfl (c4 h2) (fun M3 e3 q3 => ?_)
    have hJ3 : ∀ e ∈ RM, M3.2.2 e.1 e.2.1 = e.2.2 := fun e he => by rw [e3]; exact hJ e he
    show AW l (pI pg 190) P kc ks 26 [(0, .ref 58)] [] SHF _
    refine AW.drop (lv' := [(0, .ref 58)]) (List.forall_mem_cons.mpr ⟨List.mem_of_getElem? (i := 0) rfl, fun _ h => absurd h List.not_mem_nil⟩) ?_
    exact k5 h2 M3 e3 q3
  · have _ := h2
    refine AW.vret (dq rfl) rfl ?_
    exact r6 h2

theorem rdl_26 {l : aL} {P : aP} {kc ks : Nat} {M : aM} (hJ : ∀ e ∈ RM, M.2.2 e.1 e.2.1 = e.2.2) (hl0 : l.1.stackTraces = false) (o1 : vp_in ((Int32.ofInt 4) * (M.1 58 25)) 32) (o2 : vp_in (((Int32.ofInt 4) * ((aset M 72 ((Int32.ofInt 4) * (M.1 58 25)).toNatClampNeg (.int (M.1 58 35))).1 58 25)) + (Int32.ofInt 1)) 32) (k3 : AW l (pI pg 190) P kc ks 58 [(0, .ref 58)] [] SHF (aset (aset M 72 ((Int32.ofInt 4) * (M.1 58 25)).toNatClampNeg (.int (M.1 58 35))) 72 (((Int32.ofInt 4) * ((aset M 72 ((Int32.ofInt 4) * (M.1 58 25)).toNatClampNeg (.int (M.1 58 35))).1 58 25)) + (Int32.ofInt 1)).toNatClampNeg (.int ((aset M 72 ((Int32.ofInt 4) * (M.1 58 25)).toNatClampNeg (.int (M.1 58 35))).1 58 36)))) : AW l (pI pg 190) P kc ks 26 [(0, .ref 58)] [] SHF M := by
  refine AW.aload_n (dq rfl) rfl rfl ?_
  show AW l (pI pg 190) P kc ks 27 _ _ SHF _
  refine fw_get (dq rfl) (pg_ok.2.1 190 _ _ _ _ rfl) rfl (v := .ref 72) (isTA_ok rfl (rgR_ok hJ rfl)) ?_
  show AW l (pI pg 190) P kc ks 30 _ _ SHF _
  refine AW.iconst (dq rfl) ?_
  show AW l (pI pg 190) P kc ks 31 _ _ SHF _
  refine AW.aload_n (dq rfl) rfl rfl ?_
  show AW l (pI pg 190) P kc ks 32 _ _ SHF _
  refine fw_get (dq rfl) (pg_ok.2.1 190 _ _ _ _ rfl) rfl (v := .int (M.1 58 25)) rfl ?_
  show AW l (pI pg 190) P kc ks 35 _ _ SHF _
  refine AW.imul (dq rfl) ?_
  show AW l (pI pg 190) P kc ks 36 _ _ SHF _
  refine AW.aload_n (dq rfl) rfl rfl ?_
  show AW l (pI pg 190) P kc ks 37 _ _ SHF _
  refine fw_get (dq rfl) (pg_ok.2.1 190 _ _ _ _ rfl) rfl (v := .int (M.1 58 35)) rfl ?_
  show AW l (pI pg 190) P kc ks 40 _ _ SHF _
  refine AW.iast (dq rfl) rfl (o1) ?_
  show AW l (pI pg 190) P kc ks 41 _ _ SHF _
  refine AW.aload_n (dq rfl) rfl rfl ?_
  show AW l (pI pg 190) P kc ks 42 _ _ SHF _
  refine fw_get (dq rfl) (pg_ok.2.1 190 _ _ _ _ rfl) rfl (v := .ref 72) (isTA_ok rfl (rgR_ok hJ rfl)) ?_
  show AW l (pI pg 190) P kc ks 45 _ _ SHF _
  refine AW.iconst (dq rfl) ?_
  show AW l (pI pg 190) P kc ks 46 _ _ SHF _
  refine AW.aload_n (dq rfl) rfl rfl ?_
  show AW l (pI pg 190) P kc ks 47 _ _ SHF _
  refine fw_get (dq rfl) (pg_ok.2.1 190 _ _ _ _ rfl) rfl (v := .int ((aset M 72 ((Int32.ofInt 4) * (M.1 58 25)).toNatClampNeg (.int (M.1 58 35))).1 58 25)) rfl ?_
  show AW l (pI pg 190) P kc ks 50 _ _ SHF _
  refine AW.imul (dq rfl) ?_
  show AW l (pI pg 190) P kc ks 51 _ _ SHF _
  refine AW.iconst (dq rfl) ?_
  show AW l (pI pg 190) P kc ks 52 _ _ SHF _
  refine AW.iadd (dq rfl) ?_
  show AW l (pI pg 190) P kc ks 53 _ _ SHF _
  refine AW.aload_n (dq rfl) rfl rfl ?_
  show AW l (pI pg 190) P kc ks 54 _ _ SHF _
  refine fw_get (dq rfl) (pg_ok.2.1 190 _ _ _ _ rfl) rfl (v := .int ((aset M 72 ((Int32.ofInt 4) * (M.1 58 25)).toNatClampNeg (.int (M.1 58 35))).1 58 36)) rfl ?_
  show AW l (pI pg 190) P kc ks 57 _ _ SHF _
  refine AW.iast (dq rfl) rfl (o2) ?_
  show AW l (pI pg 190) P kc ks 58 _ _ SHF _
  refine AW.drop (lv' := [(0, .ref 58)]) (List.forall_mem_cons.mpr ⟨List.mem_of_getElem? (i := 0) rfl, fun _ h => absurd h List.not_mem_nil⟩) ?_
  exact k3

theorem rdl_58 {l : aL} {P : aP} {kc ks : Nat} {M : aM} (hJ : ∀ e ∈ RM, M.2.2 e.1 e.2.1 = e.2.2) (hl0 : l.1.stackTraces = false) (Q1 : Int32 → aM → Prop) (c2 : AC l (pI pg 186) (fcI M Q1) 0 0 [.ref 58, .int (Int32.ofInt 1), .int ((Int8.ofInt 9).toInt32)] SHF M) (o3 : ∀ (y1 : Int32), ∀ (M1 : aM), ∀ (e1 : M1.2.2 = M.2.2), ∀ (q1 : Q1 y1 M1), vp_in (((Int32.ofInt 4) * (M.1 58 25)) + (Int32.ofInt 2)) 32) (k4 : ∀ (y1 : Int32), ∀ (M1 : aM), ∀ (e1 : M1.2.2 = M.2.2), ∀ (q1 : Q1 y1 M1), AW l (pI pg 190) P kc ks 78 [(0, .ref 58)] [] SHF (aset M1 72 (((Int32.ofInt 4) * (M.1 58 25)) + (Int32.ofInt 2)).toNatClampNeg (.int (y1)))) : AW l (pI pg 190) P kc ks 58 [(0, .ref 58)] [] SHF M := by
  refine AW.aload_n (dq rfl) rfl rfl ?_
  show AW l (pI pg 190) P kc ks 59 _ _ SHF _
  refine fw_get (dq rfl) (pg_ok.2.1 190 _ _ _ _ rfl) rfl (v := .ref 72) (isTA_ok rfl (rgR_ok hJ rfl)) ?_
  show AW l (pI pg 190) P kc ks 62 _ _ SHF _
  refine AW.iconst (dq rfl) ?_
  show AW l (pI pg 190) P kc ks 63 _ _ SHF _
  refine AW.aload_n (dq rfl) rfl rfl ?_
  show AW l (pI pg 190) P kc ks 64 _ _ SHF _
  refine fw_get (dq rfl) (pg_ok.2.1 190 _ _ _ _ rfl) rfl (v := .int (M.1 58 25)) rfl ?_
  show AW l (pI pg 190) P kc ks 67 _ _ SHF _
  refine AW.imul (dq rfl) ?_
  show AW l (pI pg 190) P kc ks 68 _ _ SHF _
  refine AW.iconst (dq rfl) ?_
  show AW l (pI pg 190) P kc ks 69 _ _ SHF _
  refine AW.iadd (dq rfl) ?_
  show AW l (pI pg 190) P kc ks 70 _ _ SHF _
  refine AW.aload_n (dq rfl) rfl rfl ?_
  show AW l (pI pg 190) P kc ks 71 _ _ SHF _
  refine AW.iconst (dq rfl) ?_
  show AW l (pI pg 190) P kc ks 72 _ _ SHF _
  refine AW.bipush (dq rfl) ?_
  show AW l (pI pg 190) P kc ks 74 _ _ SHF _
  refine fw_callVI (as := [.int (Int32.ofInt 1), .int ((Int8.ofInt 9).toInt32)]) (dq rfl) (pg_ok.2.2.1 190 _ _ _ _ rfl) rfl (by decide +kernel) rfl rfl (c2) (fun y1 M1 e1 q1 => ?_)
  have hJ1 : ∀ e ∈ RM, M1.2.2 e.1 e.2.1 = e.2.2 := fun e he => by rw [e1]; exact hJ e he
  show AW l (pI pg 190) P kc ks 77 [(0, .ref 58)] [.int (y1), .int (((Int32.ofInt 4) * (M.1 58 25)) + (Int32.ofInt 2)), .ref 72] SHF _
  refine AW.iast (dq rfl) rfl (o3 y1 M1 e1 q1) ?_
  show AW l (pI pg 190) P kc ks 78 _ _ SHF _
  refine AW.drop (lv' := [(0, .ref 58)]) (List.forall_mem_cons.mpr ⟨List.mem_of_getElem? (i := 0) rfl, fun _ h => absurd h List.not_mem_nil⟩) ?_
  exact k4 y1 M1 e1 q1

theorem rdl_78 {l : aL} {P : aP} {kc ks : Nat} {M : aM} (hJ : ∀ e ∈ RM, M.2.2 e.1 e.2.1 = e.2.2) (hl0 : l.1.stackTraces = false) (Q1 : Int32 → aM → Prop) (c2 : AC l (pI pg 186) (fcI M Q1) 0 0 [.ref 58, .int (Int32.ofInt 1), .int ((Int8.ofInt 99).toInt32)] SHF M) (o3 : ∀ (y1 : Int32), ∀ (M1 : aM), ∀ (e1 : M1.2.2 = M.2.2), ∀ (q1 : Q1 y1 M1), vp_in (((Int32.ofInt 4) * (M.1 58 25)) + (Int32.ofInt 3)) 32) (k4 : ∀ (y1 : Int32), ∀ (M1 : aM), ∀ (e1 : M1.2.2 = M.2.2), ∀ (q1 : Q1 y1 M1), AW l (pI pg 190) P kc ks 98 [(0, .ref 58)] [] SHF (aset M1 72 (((Int32.ofInt 4) * (M.1 58 25)) + (Int32.ofInt 3)).toNatClampNeg (.int (y1)))) : AW l (pI pg 190) P kc ks 78 [(0, .ref 58)] [] SHF M := by
  refine AW.aload_n (dq rfl) rfl rfl ?_
  show AW l (pI pg 190) P kc ks 79 _ _ SHF _
  refine fw_get (dq rfl) (pg_ok.2.1 190 _ _ _ _ rfl) rfl (v := .ref 72) (isTA_ok rfl (rgR_ok hJ rfl)) ?_
  show AW l (pI pg 190) P kc ks 82 _ _ SHF _
  refine AW.iconst (dq rfl) ?_
  show AW l (pI pg 190) P kc ks 83 _ _ SHF _
  refine AW.aload_n (dq rfl) rfl rfl ?_
  show AW l (pI pg 190) P kc ks 84 _ _ SHF _
  refine fw_get (dq rfl) (pg_ok.2.1 190 _ _ _ _ rfl) rfl (v := .int (M.1 58 25)) rfl ?_
  show AW l (pI pg 190) P kc ks 87 _ _ SHF _
  refine AW.imul (dq rfl) ?_
  show AW l (pI pg 190) P kc ks 88 _ _ SHF _
  refine AW.iconst (dq rfl) ?_
  show AW l (pI pg 190) P kc ks 89 _ _ SHF _
  refine AW.iadd (dq rfl) ?_
  show AW l (pI pg 190) P kc ks 90 _ _ SHF _
  refine AW.aload_n (dq rfl) rfl rfl ?_
  show AW l (pI pg 190) P kc ks 91 _ _ SHF _
  refine AW.iconst (dq rfl) ?_
  show AW l (pI pg 190) P kc ks 92 _ _ SHF _
  refine AW.bipush (dq rfl) ?_
  show AW l (pI pg 190) P kc ks 94 _ _ SHF _
  refine fw_callVI (as := [.int (Int32.ofInt 1), .int ((Int8.ofInt 99).toInt32)]) (dq rfl) (pg_ok.2.2.1 190 _ _ _ _ rfl) rfl (by decide +kernel) rfl rfl (c2) (fun y1 M1 e1 q1 => ?_)
  have hJ1 : ∀ e ∈ RM, M1.2.2 e.1 e.2.1 = e.2.2 := fun e he => by rw [e1]; exact hJ e he
  show AW l (pI pg 190) P kc ks 97 [(0, .ref 58)] [.int (y1), .int (((Int32.ofInt 4) * (M.1 58 25)) + (Int32.ofInt 3)), .ref 72] SHF _
  refine AW.iast (dq rfl) rfl (o3 y1 M1 e1 q1) ?_
  show AW l (pI pg 190) P kc ks 98 _ _ SHF _
  refine AW.drop (lv' := [(0, .ref 58)]) (List.forall_mem_cons.mpr ⟨List.mem_of_getElem? (i := 0) rfl, fun _ h => absurd h List.not_mem_nil⟩) ?_
  exact k4 y1 M1 e1 q1

theorem rdl_98 {l : aL} {P : aP} {kc ks : Nat} {M : aM} (hJ : ∀ e ∈ RM, M.2.2 e.1 e.2.1 = e.2.2) (hl0 : l.1.stackTraces = false) (r3 : ∀ (h2 : (gdV (M.1 58 13) : Int32) = 0), P (.inl none) SHF M) (r4 : ∀ (h2 : ¬ ((gdV (M.1 58 13) : Int32) = 0)), P (.inl none) SHF (aset M 58 25 (.int ((M.1 58 25) + (Int32.ofInt 1))))) : AW l (pI pg 190) P kc ks 98 [(0, .ref 58)] [] SHF M := by
  refine AW.aload_n (dq rfl) rfl rfl ?_
  show AW l (pI pg 190) P kc ks 99 _ _ SHF _
  refine fw_callVI (as := []) (dq rfl) (pg_ok.2.2.1 190 _ _ _ _ rfl) rfl (by decide +kernel) rfl rfl (igd_c hl0 (fun e he => hJ e he)) (fun y1 M1 e1 q1 => ?_)
  obtain ⟨rfl, rfl⟩ := q1
  show AW l (pI pg 190) P kc ks 102 [(0, .ref 58)] [.int (gdV (M.1 58 13))] SHF _
  refine AW.if_eq (dq rfl) (tgt := 115) (by decide) (fun h2 => ?_) (fun h2 => ?_)
  · have _ := h2
    refine AW.vret (dq rfl) rfl ?_
    exact r3 h2
  · have _ := h2
    refine AW.aload_n (dq rfl) rfl rfl ?_
    show AW l (pI pg 190) P kc ks 106 _ _ SHF _
    refine AW.dup (dq rfl) rfl ?_
    show AW l (pI pg 190) P kc ks 107 _ _ SHF _
    refine fw_get (dq rfl) (pg_ok.2.1 190 _ _ _ _ rfl) rfl (v := .int (M.1 58 25)) rfl ?_
    show AW l (pI pg 190) P kc ks 110 _ _ SHF _
    refine AW.iconst (dq rfl) ?_
    show AW l (pI pg 190) P kc ks 111 _ _ SHF _
    refine AW.iadd (dq rfl) ?_
    show AW l (pI pg 190) P kc ks 112 _ _ SHF _
    refine fw_putI (dq rfl) (pg_ok.2.1 190 _ _ _ _ rfl) rfl rfl rfl ?_
    show AW l (pI pg 190) P kc ks 115 _ _ SHF _
    refine AW.vret (dq rfl) rfl ?_
    exact r4 h2

theorem lin_0 {l : aL} {P : aP} {kc ks : Nat} {M : aM} (hJ : ∀ e ∈ RM, M.2.2 e.1 e.2.1 = e.2.2) (hl0 : l.1.stackTraces = false) (Q1 : Int32 → aM → Prop) (c2 : AC l (pI pg 182) (fcI M Q1) 0 0 [.ref 58, .int (Int32.ofInt 0)] SHF M) (k4 : ∀ (y1 : Int32), ∀ (M1 : aM), ∀ (e1 : M1.2.2 = M.2.2), ∀ (q1 : Q1 y1 M1), ∀ (h3 : (y1 : Int32) = 0), AW l (pI pg 181) P kc ks 15 [(0, .ref 58)] [] SHF M1) (Q5 : Int32 → aM → aM → Prop) (c6 : ∀ (y1 : Int32), ∀ (M1 : aM), ∀ (e1 : M1.2.2 = M.2.2), ∀ (q1 : Q1 y1 M1), ∀ (h3 : ¬ ((y1 : Int32) = 0)), AC l (pI pg 184) (fcV M1 (Q5 y1 M1)) 0 0 [.ref 58] SHF M1) (k7 : ∀ (y1 : Int32), ∀ (M1 : aM), ∀ (e1 : M1.2.2 = M.2.2), ∀ (q1 : Q1 y1 M1), ∀ (h3 : ¬ ((y1 : Int32) = 0)), ∀ (M5 : aM), ∀ (e5 : M5.2.2 = M1.2.2), ∀ (q5 : (Q5 y1 M1) M5), AW l (pI pg 181) P kc ks 149 [(0, .ref 58)] [] SHF M5) : AW l (pI pg 181) P kc ks 0 [(0, .ref 58)] [] SHF M := by
  refine AW.aload_n (dq rfl) rfl rfl ?_
  show AW l (pI pg 181) P kc ks 1 _ _ SHF _
  refine AW.iconst (dq rfl) ?_
  show AW l (pI pg 181) P kc ks 2 _ _ SHF _
  refine fw_callVI (as := [.int (Int32.ofInt 0)]) (dq rfl) (pg_ok.2.2.1 181 _ _ _ _ rfl) rfl (by decide +kernel) rfl rfl (c2) (fun y1 M1 e1 q1 => ?_)
  have hJ1 : ∀ e ∈ RM, M1.2.2 e.1 e.2.1 = e.2.2 := fun e he => by rw [e1]; exact hJ e he
  show AW l (pI pg 181) P kc ks 5 [(0, .ref 58)] [.int (y1)] SHF _
  refine AW.if_eq (dq rfl) (tgt := 15) (by decide) (fun h3 => ?_) (fun h3 => ?_)
  · have _ := h3
    refine AW.drop (lv' := [(0, .ref 58)]) (List.forall_mem_cons.mpr ⟨List.mem_of_getElem? (i := 0) rfl, fun _ h => absurd h List.not_mem_nil⟩) ?_
    exact k4 y1 M1 e1 q1 h3
  · have _ := h3
    refine AW.aload_n (dq rfl) rfl rfl ?_
    show AW l (pI pg 181) P kc ks 9 _ _ SHF _
    refine fw_callVV (as := []) (dq rfl) (pg_ok.2.2.1 181 _ _ _ _ rfl) rfl (by decide +kernel) rfl rfl (c6 y1 M1 e1 q1 h3) (fun M5 e5 q5 => ?_)
    have hJ5 : ∀ e ∈ RM, M5.2.2 e.1 e.2.1 = e.2.2 := fun e he => by rw [e5]; exact hJ1 e he
    show AW l (pI pg 181) P kc ks 12 [(0, .ref 58)] [] SHF _
    refine AW.goto (dq rfl) (tgt := 149) (by decide) ?_
    refine AW.drop (lv' := [(0, .ref 58)]) (List.forall_mem_cons.mpr ⟨List.mem_of_getElem? (i := 0) rfl, fun _ h => absurd h List.not_mem_nil⟩) ?_
    exact k7 y1 M1 e1 q1 h3 M5 e5 q5

theorem lin_15 {l : aL} {P : aP} {kc ks : Nat} {M : aM} (hJ : ∀ e ∈ RM, M.2.2 e.1 e.2.1 = e.2.2) (hl0 : l.1.stackTraces = false) (Q1 : Int32 → aM → Prop) (c2 : AC l (pI pg 182) (fcI M Q1) 0 0 [.ref 58, .int (Int32.ofInt 1)] SHF M) (k4 : ∀ (y1 : Int32), ∀ (M1 : aM), ∀ (e1 : M1.2.2 = M.2.2), ∀ (q1 : Q1 y1 M1), ∀ (h3 : (y1 : Int32) = 0), AW l (pI pg 181) P kc ks 30 [(0, .ref 58)] [] SHF M1) (Q5 : Int32 → aM → aM → Prop) (c6 : ∀ (y1 : Int32), ∀ (M1 : aM), ∀ (e1 : M1.2.2 = M.2.2), ∀ (q1 : Q1 y1 M1), ∀ (h3 : ¬ ((y1 : Int32) = 0)), AC l (pI pg 187) (fcV M1 (Q5 y1 M1)) 0 0 [.ref 58] SHF M1) (k7 : ∀ (y1 : Int32), ∀ (M1 : aM), ∀ (e1 : M1.2.2 = M.2.2), ∀ (q1 : Q1 y1 M1), ∀ (h3 : ¬ ((y1 : Int32) = 0)), ∀ (M5 : aM), ∀ (e5 : M5.2.2 = M1.2.2), ∀ (q5 : (Q5 y1 M1) M5), AW l (pI pg 181) P kc ks 149 [(0, .ref 58)] [] SHF M5) : AW l (pI pg 181) P kc ks 15 [(0, .ref 58)] [] SHF M := by
  refine AW.aload_n (dq rfl) rfl rfl ?_
  show AW l (pI pg 181) P kc ks 16 _ _ SHF _
  refine AW.iconst (dq rfl) ?_
  show AW l (pI pg 181) P kc ks 17 _ _ SHF _
  refine fw_callVI (as := [.int (Int32.ofInt 1)]) (dq rfl) (pg_ok.2.2.1 181 _ _ _ _ rfl) rfl (by decide +kernel) rfl rfl (c2) (fun y1 M1 e1 q1 => ?_)
  have hJ1 : ∀ e ∈ RM, M1.2.2 e.1 e.2.1 = e.2.2 := fun e he => by rw [e1]; exact hJ e he
  show AW l (pI pg 181) P kc ks 20 [(0, .ref 58)] [.int (y1)] SHF _
  refine AW.if_eq (dq rfl) (tgt := 30) (by decide) (fun h3 => ?_) (fun h3 => ?_)
  · have _ := h3
    refine AW.drop (lv' := [(0, .ref 58)]) (List.forall_mem_cons.mpr ⟨List.mem_of_getElem? (i := 0) rfl, fun _ h => absurd h List.not_mem_nil⟩) ?_
    exact k4 y1 M1 e1 q1 h3
  · have _ := h3
    refine AW.aload_n (dq rfl) rfl rfl ?_
    show AW l (pI pg 181) P kc ks 24 _ _ SHF _
    refine fw_callVV (as := []) (dq rfl) (pg_ok.2.2.1 181 _ _ _ _ rfl) rfl (by decide +kernel) rfl rfl (c6 y1 M1 e1 q1 h3) (fun M5 e5 q5 => ?_)
    have hJ5 : ∀ e ∈ RM, M5.2.2 e.1 e.2.1 = e.2.2 := fun e he => by rw [e5]; exact hJ1 e he
    show AW l (pI pg 181) P kc ks 27 [(0, .ref 58)] [] SHF _
    refine AW.goto (dq rfl) (tgt := 149) (by decide) ?_
    refine AW.drop (lv' := [(0, .ref 58)]) (List.forall_mem_cons.mpr ⟨List.mem_of_getElem? (i := 0) rfl, fun _ h => absurd h List.not_mem_nil⟩) ?_
    exact k7 y1 M1 e1 q1 h3 M5 e5 q5

theorem lin_30 {l : aL} {P : aP} {kc ks : Nat} {M : aM} (hJ : ∀ e ∈ RM, M.2.2 e.1 e.2.1 = e.2.2) (hl0 : l.1.stackTraces = false) (Q1 : Int32 → aM → Prop) (c2 : AC l (pI pg 182) (fcI M Q1) 0 0 [.ref 58, .int (Int32.ofInt 2)] SHF M) (k4 : ∀ (y1 : Int32), ∀ (M1 : aM), ∀ (e1 : M1.2.2 = M.2.2), ∀ (q1 : Q1 y1 M1), ∀ (h3 : (y1 : Int32) = 0), AW l (pI pg 181) P kc ks 78 [(0, .ref 58)] [] SHF M1) (Q5 : Int32 → aM → aM → Prop) (c6 : ∀ (y1 : Int32), ∀ (M1 : aM), ∀ (e1 : M1.2.2 = M.2.2), ∀ (q1 : Q1 y1 M1), ∀ (h3 : ¬ ((y1 : Int32) = 0)), AC l (pI pg 188) (fcV M1 (Q5 y1 M1)) 0 0 [.ref 58] SHF M1) (k7 : ∀ (y1 : Int32), ∀ (M1 : aM), ∀ (e1 : M1.2.2 = M.2.2), ∀ (q1 : Q1 y1 M1), ∀ (h3 : ¬ ((y1 : Int32) = 0)), ∀ (M5 : aM), ∀ (e5 : M5.2.2 = M1.2.2), ∀ (q5 : (Q5 y1 M1) M5), AW l (pI pg 181) P kc ks 42 [(0, .ref 58)] [] SHF M5) : AW l (pI pg 181) P kc ks 30 [(0, .ref 58)] [] SHF M := by
  refine AW.aload_n (dq rfl) rfl rfl ?_
  show AW l (pI pg 181) P kc ks 31 _ _ SHF _
  refine AW.iconst (dq rfl) ?_
  show AW l (pI pg 181) P kc ks 32 _ _ SHF _
  refine fw_callVI (as := [.int (Int32.ofInt 2)]) (dq rfl) (pg_ok.2.2.1 181 _ _ _ _ rfl) rfl (by decide +kernel) rfl rfl (c2) (fun y1 M1 e1 q1 => ?_)
  have hJ1 : ∀ e ∈ RM, M1.2.2 e.1 e.2.1 = e.2.2 := fun e he => by rw [e1]; exact hJ e he
  show AW l (pI pg 181) P kc ks 35 [(0, .ref 58)] [.int (y1)] SHF _
  refine AW.if_eq (dq rfl) (tgt := 78) (by decide) (fun h3 => ?_) (fun h3 => ?_)
  · have _ := h3
    refine AW.drop (lv' := [(0, .ref 58)]) (List.forall_mem_cons.mpr ⟨List.mem_of_getElem? (i := 0) rfl, fun _ h => absurd h List.not_mem_nil⟩) ?_
    exact k4 y1 M1 e1 q1 h3
  · have _ := h3
    refine AW.aload_n (dq rfl) rfl rfl ?_
    show AW l (pI pg 181) P kc ks 39 _ _ SHF _
    refine fw_callVV (as := []) (dq rfl) (pg_ok.2.2.1 181 _ _ _ _ rfl) rfl (by decide +kernel) rfl rfl (c6 y1 M1 e1 q1 h3) (fun M5 e5 q5 => ?_)
    have hJ5 : ∀ e ∈ RM, M5.2.2 e.1 e.2.1 = e.2.2 := fun e he => by rw [e5]; exact hJ1 e he
    show AW l (pI pg 181) P kc ks 42 [(0, .ref 58)] [] SHF _
    refine AW.drop (lv' := [(0, .ref 58)]) (List.forall_mem_cons.mpr ⟨List.mem_of_getElem? (i := 0) rfl, fun _ h => absurd h List.not_mem_nil⟩) ?_
    exact k7 y1 M1 e1 q1 h3 M5 e5 q5

theorem lin_42 {l : aL} {P : aP} {kc ks : Nat} {M : aM} (hJ : ∀ e ∈ RM, M.2.2 e.1 e.2.1 = e.2.2) (hl0 : l.1.stackTraces = false) (Q1 : Int32 → aM → Prop) (c2 : AC l (pI pg 186) (fcI M Q1) 0 0 [.ref 58, .int (Int32.ofInt 1), .int ((Int8.ofInt 9).toInt32)] SHF M) (k5 : ∀ (y1 : Int32), ∀ (M1 : aM), ∀ (e1 : M1.2.2 = M.2.2), ∀ (q1 : Q1 y1 M1), ∀ (h4 : (gdV (M1.1 58 13) : Int32) = 0), AW l (pI pg 181) P kc ks 149 [(0, .ref 58)] [] SHF M1) (o6 : ∀ (y1 : Int32), ∀ (M1 : aM), ∀ (e1 : M1.2.2 = M.2.2), ∀ (q1 : Q1 y1 M1), ∀ (h4 : ¬ ((gdV (M1.1 58 13) : Int32) = 0)), vp_in ((((Int8.ofInt 8).toInt32) * (M1.1 58 35)) + (M1.1 58 36)) 48) (k7 : ∀ (y1 : Int32), ∀ (M1 : aM), ∀ (e1 : M1.2.2 = M.2.2), ∀ (q1 : Q1 y1 M1), ∀ (h4 : ¬ ((gdV (M1.1 58 13) : Int32) = 0)), AW l (pI pg 181) P kc ks 149 [(0, .ref 58)] [] SHF (aset M1 71 ((((Int8.ofInt 8).toInt32) * (M1.1 58 35)) + (M1.1 58 36)).toNatClampNeg (.int (y1)))) : AW l (pI pg 181) P kc ks 42 [(0, .ref 58)] [] SHF M := by
  refine AW.aload_n (dq rfl) rfl rfl ?_
  show AW l (pI pg 181) P kc ks 43 _ _ SHF _
  refine AW.iconst (dq rfl) ?_
  show AW l (pI pg 181) P kc ks 44 _ _ SHF _
  refine AW.bipush (dq rfl) ?_
  show AW l (pI pg 181) P kc ks 46 _ _ SHF _
  refine fw_callVI (as := [.int (Int32.ofInt 1), .int ((Int8.ofInt 9).toInt32)]) (dq rfl) (pg_ok.2.2.1 181 _ _ _ _ rfl) rfl (by decide +kernel) rfl rfl (c2) (fun y1 M1 e1 q1 => ?_)
  have hJ1 : ∀ e ∈ RM, M1.2.2 e.1 e.2.1 = e.2.2 := fun e he => by rw [e1]; exact hJ e he
  show AW l (pI pg 181) P kc ks 49 [(0, .ref 58)] [.int (y1)] SHF _
  refine AW.istore_n (dq rfl) (by decide +kernel) ?_
  show AW l (pI pg 181) P kc ks 50 [(1, .int (y1)), (0, .ref 58)] [] SHF _
  refine AW.aload_n (dq rfl) rfl rfl ?_
  show AW l (pI pg 181) P kc ks 51 _ _ SHF _
  refine fw_callVI (as := []) (dq rfl) (pg_ok.2.2.1 181 _ _ _ _ rfl) rfl (by decide +kernel) rfl rfl (igd_c hl0 (fun e he => hJ1 e he)) (fun y3 M3 e3 q3 => ?_)
  obtain ⟨rfl, rfl⟩ := q3
  show AW l (pI pg 181) P kc ks 54 [(1, .int (y1)), (0, .ref 58)] [.int (gdV (M1.1 58 13))] SHF _
  refine AW.if_eq (dq rfl) (tgt := 75) (by decide) (fun h4 => ?_) (fun h4 => ?_)
  · have _ := h4
    refine AW.goto (dq rfl) (tgt := 149) (by decide) ?_
    refine AW.drop (lv' := [(0, .ref 58)]) (List.forall_mem_cons.mpr ⟨List.mem_of_getElem? (i := 1) rfl, fun _ h => absurd h List.not_mem_nil⟩) ?_
    exact k5 y1 M1 e1 q1 h4
  · have _ := h4
    refine AW.aload_n (dq rfl) rfl rfl ?_
    show AW l (pI pg 181) P kc ks 58 _ _ SHF _
    refine fw_get (dq rfl) (pg_ok.2.1 181 _ _ _ _ rfl) rfl (v := .ref 71) (isTA_ok rfl (rgR_ok hJ1 rfl)) ?_
    show AW l (pI pg 181) P kc ks 61 _ _ SHF _
    refine AW.bipush (dq rfl) ?_
    show AW l (pI pg 181) P kc ks 63 _ _ SHF _
    refine AW.aload_n (dq rfl) rfl rfl ?_
    show AW l (pI pg 181) P kc ks 64 _ _ SHF _
    refine fw_get (dq rfl) (pg_ok.2.1 181 _ _ _ _ rfl) rfl (v := .int (M1.1 58 35)) rfl ?_
    show AW l (pI pg 181) P kc ks 67 _ _ SHF _
    refine AW.imul (dq rfl) ?_
    show AW l (pI pg 181) P kc ks 68 _ _ SHF _
    refine AW.aload_n (dq rfl) rfl rfl ?_
    show AW l (pI pg 181) P kc ks 69 _ _ SHF _
    refine fw_get (dq rfl) (pg_ok.2.1 181 _ _ _ _ rfl) rfl (v := .int (M1.1 58 36)) rfl ?_
    show AW l (pI pg 181) P kc ks 72 _ _ SHF _
    refine AW.iadd (dq rfl) ?_
    show AW l (pI pg 181) P kc ks 73 _ _ SHF _
    refine AW.iload_n (dq rfl) rfl ?_
    show AW l (pI pg 181) P kc ks 74 _ _ SHF _
    refine AW.iast (dq rfl) rfl (o6 y1 M1 e1 q1 h4) ?_
    show AW l (pI pg 181) P kc ks 75 _ _ SHF _
    refine AW.goto (dq rfl) (tgt := 149) (by decide) ?_
    refine AW.drop (lv' := [(0, .ref 58)]) (List.forall_mem_cons.mpr ⟨List.mem_of_getElem? (i := 1) rfl, fun _ h => absurd h List.not_mem_nil⟩) ?_
    exact k7 y1 M1 e1 q1 h4

theorem lin_78 {l : aL} {P : aP} {kc ks : Nat} {M : aM} (hJ : ∀ e ∈ RM, M.2.2 e.1 e.2.1 = e.2.2) (hl0 : l.1.stackTraces = false) (Q1 : Int32 → aM → Prop) (c2 : AC l (pI pg 182) (fcI M Q1) 0 0 [.ref 58, .int (Int32.ofInt 3)] SHF M) (k4 : ∀ (y1 : Int32), ∀ (M1 : aM), ∀ (e1 : M1.2.2 = M.2.2), ∀ (q1 : Q1 y1 M1), ∀ (h3 : (y1 : Int32) = 0), AW l (pI pg 181) P kc ks 93 [(0, .ref 58)] [] SHF M1) (Q5 : Int32 → aM → aM → Prop) (c6 : ∀ (y1 : Int32), ∀ (M1 : aM), ∀ (e1 : M1.2.2 = M.2.2), ∀ (q1 : Q1 y1 M1), ∀ (h3 : ¬ ((y1 : Int32) = 0)), AC l (pI pg 190) (fcV M1 (Q5 y1 M1)) 0 0 [.ref 58] SHF M1) (k7 : ∀ (y1 : Int32), ∀ (M1 : aM), ∀ (e1 : M1.2.2 = M.2.2), ∀ (q1 : Q1 y1 M1), ∀ (h3 : ¬ ((y1 : Int32) = 0)), ∀ (M5 : aM), ∀ (e5 : M5.2.2 = M1.2.2), ∀ (q5 : (Q5 y1 M1) M5), AW l (pI pg 181) P kc ks 149 [(0, .ref 58)] [] SHF M5) : AW l (pI pg 181) P kc ks 78 [(0, .ref 58)] [] SHF M := by
  refine AW.aload_n (dq rfl) rfl rfl ?_
  show AW l (pI pg 181) P kc ks 79 _ _ SHF _
  refine AW.iconst (dq rfl) ?_
  show AW l (pI pg 181) P kc ks 80 _ _ SHF _
  refine fw_callVI (as := [.int (Int32.ofInt 3)]) (dq rfl) (pg_ok.2.2.1 181 _ _ _ _ rfl) rfl (by decide +kernel) rfl rfl (c2) (fun y1 M1 e1 q1 => ?_)
  have hJ1 : ∀ e ∈ RM, M1.2.2 e.1 e.2.1 = e.2.2 := fun e he => by rw [e1]; exact hJ e he
  show AW l (pI pg 181) P kc ks 83 [(0, .ref 58)] [.int (y1)] SHF _
  refine AW.if_eq (dq rfl) (tgt := 93) (by decide) (fun h3 => ?_) (fun h3 => ?_)
  · have _ := h3
    refine AW.drop (lv' := [(0, .ref 58)]) (List.forall_mem_cons.mpr ⟨List.mem_of_getElem? (i := 0) rfl, fun _ h => absurd h List.not_mem_nil⟩) ?_
    exact k4 y1 M1 e1 q1 h3
  · have _ := h3
    refine AW.aload_n (dq rfl) rfl rfl ?_
    show AW l (pI pg 181) P kc ks 87 _ _ SHF _
    refine fw_callVV (as := []) (dq rfl) (pg_ok.2.2.1 181 _ _ _ _ rfl) rfl (by decide +kernel) rfl rfl (c6 y1 M1 e1 q1 h3) (fun M5 e5 q5 => ?_)
    have hJ5 : ∀ e ∈ RM, M5.2.2 e.1 e.2.1 = e.2.2 := fun e he => by rw [e5]; exact hJ1 e he
    show AW l (pI pg 181) P kc ks 90 [(0, .ref 58)] [] SHF _
    refine AW.goto (dq rfl) (tgt := 149) (by decide) ?_
    refine AW.drop (lv' := [(0, .ref 58)]) (List.forall_mem_cons.mpr ⟨List.mem_of_getElem? (i := 0) rfl, fun _ h => absurd h List.not_mem_nil⟩) ?_
    exact k7 y1 M1 e1 q1 h3 M5 e5 q5

theorem lin_93 {l : aL} {P : aP} {kc ks : Nat} {M : aM} (hJ : ∀ e ∈ RM, M.2.2 e.1 e.2.1 = e.2.2) (hl0 : l.1.stackTraces = false) (Q1 : Int32 → aM → Prop) (c2 : AC l (pI pg 182) (fcI M Q1) 0 0 [.ref 58, .int (Int32.ofInt 4)] SHF M) (k5 : ∀ (y1 : Int32), ∀ (M1 : aM), ∀ (e1 : M1.2.2 = M.2.2), ∀ (q1 : Q1 y1 M1), ∀ (h3 : (y1 : Int32) = 0), AW l (pI pg 181) P kc ks 149 [(0, .ref 58)] [] SHF (wgM M1 (Int32.ofInt 1))) (k7 : ∀ (y1 : Int32), ∀ (M1 : aM), ∀ (e1 : M1.2.2 = M.2.2), ∀ (q1 : Q1 y1 M1), ∀ (h3 : ¬ ((y1 : Int32) = 0)), ∀ (h6 : (M1.1 58 28 : Int32) = 0), AW l (pI pg 181) P kc ks 113 [(0, .ref 58)] [] SHF M1) (k9 : ∀ (y1 : Int32), ∀ (M1 : aM), ∀ (e1 : M1.2.2 = M.2.2), ∀ (q1 : Q1 y1 M1), ∀ (h3 : ¬ ((y1 : Int32) = 0)), ∀ (h6 : ¬ ((M1.1 58 28 : Int32) = 0)), AW l (pI pg 181) P kc ks 113 [(0, .ref 58)] [] SHF (wgM M1 (Int32.ofInt 5))) : AW l (pI pg 181) P kc ks 93 [(0, .ref 58)] [] SHF M := by
  refine AW.aload_n (dq rfl) rfl rfl ?_
  show AW l (pI pg 181) P kc ks 94 _ _ SHF _
  refine AW.iconst (dq rfl) ?_
  show AW l (pI pg 181) P kc ks 95 _ _ SHF _
  refine fw_callVI (as := [.int (Int32.ofInt 4)]) (dq rfl) (pg_ok.2.2.1 181 _ _ _ _ rfl) rfl (by decide +kernel) rfl rfl (c2) (fun y1 M1 e1 q1 => ?_)
  have hJ1 : ∀ e ∈ RM, M1.2.2 e.1 e.2.1 = e.2.2 := fun e he => by rw [e1]; exact hJ e he
  show AW l (pI pg 181) P kc ks 98 [(0, .ref 58)] [.int (y1)] SHF _
  refine AW.if_eq (dq rfl) (tgt := 144) (by decide) (fun h3 => ?_) (fun h3 => ?_)
  · have _ := h3
    refine AW.aload_n (dq rfl) rfl rfl ?_
    show AW l (pI pg 181) P kc ks 145 _ _ SHF _
    refine AW.iconst (dq rfl) ?_
    show AW l (pI pg 181) P kc ks 146 _ _ SHF _
    refine fw_callVV (as := [.int (Int32.ofInt 1)]) (dq rfl) (pg_ok.2.2.1 181 _ _ _ _ rfl) rfl (by decide +kernel) rfl rfl (wrg_c hl0 (fun e he => hJ1 e he)) (fun M4 e4 q4 => ?_)
    obtain rfl := q4
    have hJ4 : ∀ e ∈ RM, (wgM M1 (Int32.ofInt 1)).2.2 e.1 e.2.1 = e.2.2 := fun e he => by rw [wgM_2]; exact hJ1 e he
    show AW l (pI pg 181) P kc ks 149 [(0, .ref 58)] [] SHF _
    refine AW.drop (lv' := [(0, .ref 58)]) (List.forall_mem_cons.mpr ⟨List.mem_of_getElem? (i := 0) rfl, fun _ h => absurd h List.not_mem_nil⟩) ?_
    exact k5 y1 M1 e1 q1 h3
  · have _ := h3
    refine AW.aload_n (dq rfl) rfl rfl ?_
    show AW l (pI pg 181) P kc ks 102 _ _ SHF _
    refine fw_get (dq rfl) (pg_ok.2.1 181 _ _ _ _ rfl) rfl (v := .int (M1.1 58 28)) rfl ?_
    show AW l (pI pg 181) P kc ks 105 _ _ SHF _
    refine AW.if_eq (dq rfl) (tgt := 113) (by decide) (fun h6 => ?_) (fun h6 => ?_)
    · have _ := h6
      refine AW.drop (lv' := [(0, .ref 58)]) (List.forall_mem_cons.mpr ⟨List.mem_of_getElem? (i := 0) rfl, fun _ h => absurd h List.not_mem_nil⟩) ?_
      exact k7 y1 M1 e1 q1 h3 h6
    · have _ := h6
      refine AW.aload_n (dq rfl) rfl rfl ?_
      show AW l (pI pg 181) P kc ks 109 _ _ SHF _
      refine AW.iconst (dq rfl) ?_
      show AW l (pI pg 181) P kc ks 110 _ _ SHF _
      refine fw_callVV (as := [.int (Int32.ofInt 5)]) (dq rfl) (pg_ok.2.2.1 181 _ _ _ _ rfl) rfl (by decide +kernel) rfl rfl (wrg_c hl0 (fun e he => hJ1 e he)) (fun M8 e8 q8 => ?_)
      obtain rfl := q8
      have hJ8 : ∀ e ∈ RM, (wgM M1 (Int32.ofInt 5)).2.2 e.1 e.2.1 = e.2.2 := fun e he => by rw [wgM_2]; exact hJ1 e he
      show AW l (pI pg 181) P kc ks 113 [(0, .ref 58)] [] SHF _
      refine AW.drop (lv' := [(0, .ref 58)]) (List.forall_mem_cons.mpr ⟨List.mem_of_getElem? (i := 0) rfl, fun _ h => absurd h List.not_mem_nil⟩) ?_
      exact k9 y1 M1 e1 q1 h3 h6

theorem lin_113 {l : aL} {P : aP} {kc ks : Nat} {M : aM} (hJ : ∀ e ∈ RM, M.2.2 e.1 e.2.1 = e.2.2) (hl0 : l.1.stackTraces = false) (Q3 : aM → Prop) (c4 : ∀ (h2 : ¬ (gdV (M.1 58 13) : Int32) = 0), AC l (pI pg 176) (fcV (aset M 58 28 (.int (Int32.ofInt 1))) Q3) 0 0 [.ref 58] SHF (aset M 58 28 (.int (Int32.ofInt 1)))) (Q5 : aM → Int32 → aM → Prop) (c6 : ∀ (h2 : ¬ (gdV (M.1 58 13) : Int32) = 0), ∀ (M3 : aM), ∀ (e3 : M3.2.2 = (aset M 58 28 (.int (Int32.ofInt 1))).2.2), ∀ (q3 : Q3 M3), AC l (pI pg 186) (fcI M3 (Q5 M3)) 0 0 [.ref 58, .int (Int32.ofInt 1), .int ((Int8.ofInt 50).toInt32)] SHF M3) (k7 : ∀ (h2 : ¬ (gdV (M.1 58 13) : Int32) = 0), ∀ (M3 : aM), ∀ (e3 : M3.2.2 = (aset M 58 28 (.int (Int32.ofInt 1))).2.2), ∀ (q3 : Q3 M3), ∀ (y5 : Int32), ∀ (M5 : aM), ∀ (e5 : M5.2.2 = M3.2.2), ∀ (q5 : (Q5 M3) y5 M5), AW l (pI pg 181) P kc ks 149 [(0, .ref 58)] [] SHF (aset M5 58 26 (.int (y5)))) (r8 : ∀ (h2 : (gdV (M.1 58 13) : Int32) = 0), P (.inl none) SHF M) : AW l (pI pg 181) P kc ks 113 [(0, .ref 58)] [] SHF M := by
  refine AW.aload_n (dq rfl) rfl rfl ?_
  show AW l (pI pg 181) P kc ks 114 _ _ SHF _
  refine fw_callVI (as := []) (dq rfl) (pg_ok.2.2.1 181 _ _ _ _ rfl) rfl (by decide +kernel) rfl rfl (igd_c hl0 (fun e he => hJ e he)) (fun y1 M1 e1 q1 => ?_)
  obtain ⟨rfl, rfl⟩ := q1
  show AW l (pI pg 181) P kc ks 117 [(0, .ref 58)] [.int (gdV (M.1 58 13))] SHF _
  refine AW.if_ne (dq rfl) (tgt := 121) (by decide) (fun h2 => ?_) (fun h2 => ?_)
  · have _ := h2
    refine AW.aload_n (dq rfl) rfl rfl ?_
    show AW l (pI pg 181) P kc ks 122 _ _ SHF _
    refine AW.iconst (dq rfl) ?_
    show AW l (pI pg 181) P kc ks 123 _ _ SHF _
    refine fw_putZ (dq rfl) (pg_ok.2.1 181 _ _ _ _ rfl) rfl rfl rfl (by decide) ?_
    show AW l (pI pg 181) P kc ks 126 _ _ SHF _
    refine AW.aload_n (dq rfl) rfl rfl ?_
    show AW l (pI pg 181) P kc ks 127 _ _ SHF _
    refine fw_callVV (as := []) (dq rfl) (pg_ok.2.2.1 181 _ _ _ _ rfl) rfl (by decide +kernel) rfl rfl (c4 h2) (fun M3 e3 q3 => ?_)
    have hJ3 : ∀ e ∈ RM, M3.2.2 e.1 e.2.1 = e.2.2 := fun e he => by rw [e3]; exact hJ e he
    show AW l (pI pg 181) P kc ks 130 [(0, .ref 58)] [] SHF _
    refine AW.aload_n (dq rfl) rfl rfl ?_
    show AW l (pI pg 181) P kc ks 131 _ _ SHF _
    refine AW.aload_n (dq rfl) rfl rfl ?_
    show AW l (pI pg 181) P kc ks 132 _ _ SHF _
    refine AW.iconst (dq rfl) ?_
    show AW l (pI pg 181) P kc ks 133 _ _ SHF _
    refine AW.bipush (dq rfl) ?_
    show AW l (pI pg 181) P kc ks 135 _ _ SHF _
    refine fw_callVI (as := [.int (Int32.ofInt 1), .int ((Int8.ofInt 50).toInt32)]) (dq rfl) (pg_ok.2.2.1 181 _ _ _ _ rfl) rfl (by decide +kernel) rfl rfl (c6 h2 M3 e3 q3) (fun y5 M5 e5 q5 => ?_)
    have hJ5 : ∀ e ∈ RM, M5.2.2 e.1 e.2.1 = e.2.2 := fun e he => by rw [e5]; exact hJ3 e he
    show AW l (pI pg 181) P kc ks 138 [(0, .ref 58)] [.int (y5), .ref 58] SHF _
    refine fw_putI (dq rfl) (pg_ok.2.1 181 _ _ _ _ rfl) rfl rfl rfl ?_
    show AW l (pI pg 181) P kc ks 141 _ _ SHF _
    refine AW.goto (dq rfl) (tgt := 149) (by decide) ?_
    refine AW.drop (lv' := [(0, .ref 58)]) (List.forall_mem_cons.mpr ⟨List.mem_of_getElem? (i := 0) rfl, fun _ h => absurd h List.not_mem_nil⟩) ?_
    exact k7 h2 M3 e3 q3 y5 M5 e5 q5
  · have _ := h2
    refine AW.vret (dq rfl) rfl ?_
    exact r8 h2

theorem lin_149 {l : aL} {P : aP} {kc ks : Nat} {M : aM} (hJ : ∀ e ∈ RM, M.2.2 e.1 e.2.1 = e.2.2) (hl0 : l.1.stackTraces = false) (Q2 : aM → Prop) (c3 : ∀ (h1 : ¬ (M.1 58 18 : Int32) = (Int32.ofInt 3 : Int32)), AC l (pI pg 191) (fcV M Q2) 0 0 [.ref 58, .int (Int32.ofInt 0)] SHF M) (r4 : ∀ (h1 : ¬ (M.1 58 18 : Int32) = (Int32.ofInt 3 : Int32)), ∀ (M2 : aM), ∀ (e2 : M2.2.2 = M.2.2), ∀ (q2 : Q2 M2), P (.inl none) SHF M2) (Q5 : aM → Prop) (c6 : ∀ (h1 : (M.1 58 18 : Int32) = (Int32.ofInt 3 : Int32)), AC l (pI pg 191) (fcV M Q5) 0 0 [.ref 58, .int (Int32.ofInt 1)] SHF M) (r7 : ∀ (h1 : (M.1 58 18 : Int32) = (Int32.ofInt 3 : Int32)), ∀ (M5 : aM), ∀ (e5 : M5.2.2 = M.2.2), ∀ (q5 : Q5 M5), P (.inl none) SHF M5) : AW l (pI pg 181) P kc ks 149 [(0, .ref 58)] [] SHF M := by
  refine AW.aload_n (dq rfl) rfl rfl ?_
  show AW l (pI pg 181) P kc ks 150 _ _ SHF _
  refine AW.aload_n (dq rfl) rfl rfl ?_
  show AW l (pI pg 181) P kc ks 151 _ _ SHF _
  refine fw_get (dq rfl) (pg_ok.2.1 181 _ _ _ _ rfl) rfl (v := .int (M.1 58 18)) rfl ?_
  show AW l (pI pg 181) P kc ks 154 _ _ SHF _
  refine AW.iconst (dq rfl) ?_
  show AW l (pI pg 181) P kc ks 155 _ _ SHF _
  refine AW.icmp_ne (dq rfl) (tgt := 162) (by decide) (fun h1 => ?_) (fun h1 => ?_)
  · have _ := h1
    refine AW.iconst (dq rfl) ?_
    show AW l (pI pg 181) P kc ks 163 _ _ SHF _
    refine fw_callVV (as := [.int (Int32.ofInt 0)]) (dq rfl) (pg_ok.2.2.1 181 _ _ _ _ rfl) rfl (by decide +kernel) rfl rfl (c3 h1) (fun M2 e2 q2 => ?_)
    have hJ2 : ∀ e ∈ RM, M2.2.2 e.1 e.2.1 = e.2.2 := fun e he => by rw [e2]; exact hJ e he
    show AW l (pI pg 181) P kc ks 166 [(0, .ref 58)] [] SHF _
    refine AW.vret (dq rfl) rfl ?_
    exact r4 h1 M2 e2 q2
  · have _ := h1
    refine AW.iconst (dq rfl) ?_
    show AW l (pI pg 181) P kc ks 159 _ _ SHF _
    refine AW.goto (dq rfl) (tgt := 163) (by decide) ?_
    refine fw_callVV (as := [.int (Int32.ofInt 1)]) (dq rfl) (pg_ok.2.2.1 181 _ _ _ _ rfl) rfl (by decide +kernel) rfl rfl (c6 h1) (fun M5 e5 q5 => ?_)
    have hJ5 : ∀ e ∈ RM, M5.2.2 e.1 e.2.1 = e.2.2 := fun e he => by rw [e5]; exact hJ e he
    show AW l (pI pg 181) P kc ks 166 [(0, .ref 58)] [] SHF _
    refine AW.vret (dq rfl) rfl ?_
    exact r7 h1 M5 e5 q5

