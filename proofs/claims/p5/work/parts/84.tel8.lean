/-! stretches of count, printed by wip/gen/segs_q4.py -/
theorem tb_out8 {x : Int32} (h0 : ¬ x = Int32.ofInt 0) (h1 : ¬ x = Int32.ofInt 1) (h2 : ¬ x = Int32.ofInt 2) (h3 : ¬ x = Int32.ofInt 3) (h4 : ¬ x = Int32.ofInt 4) (h5 : ¬ x = Int32.ofInt 5) (h6 : ¬ x = Int32.ofInt 6) (h7 : ¬ x = Int32.ofInt 7) (h8 : ¬ x = Int32.ofInt 8) : x.toInt < 0 ∨ 8 < x.toInt := tb_out (m := 8) (fun j hj => match j, hj with
  | 0, _ => h0
  | 1, _ => h1
  | 2, _ => h2
  | 3, _ => h3
  | 4, _ => h4
  | 5, _ => h5
  | 6, _ => h6
  | 7, _ => h7
  | 8, _ => h8
  | j + 9, h => absurd h (by omega))
theorem cnta_0 {l : aL} {P : aP} {kc ks : Nat} {x : Int32} {M : aM} (hJ : ∀ e ∈ RR.2, M.2.2 e.1 e.2.1 = e.2.2) (hl0 : l.1.stackTraces = false) (r2 : ∀ (h1 : (x : Int32) = Int32.ofInt 0), P (.inl (some (.int (M.1 4 0)))) SHF M) (r4 : ∀ (h1 : ¬ (x : Int32) = Int32.ofInt 0), ∀ (h3 : (x : Int32) = Int32.ofInt 1), P (.inl (some (.int (M.1 4 1)))) SHF M) (r6 : ∀ (h1 : ¬ (x : Int32) = Int32.ofInt 0), ∀ (h3 : ¬ (x : Int32) = Int32.ofInt 1), ∀ (h5 : (x : Int32) = Int32.ofInt 2), P (.inl (some (.int (M.1 4 2)))) SHF M) (r8 : ∀ (h1 : ¬ (x : Int32) = Int32.ofInt 0), ∀ (h3 : ¬ (x : Int32) = Int32.ofInt 1), ∀ (h5 : ¬ (x : Int32) = Int32.ofInt 2), ∀ (h7 : (x : Int32) = Int32.ofInt 3), P (.inl (some (.int (M.1 4 3)))) SHF M) (r10 : ∀ (h1 : ¬ (x : Int32) = Int32.ofInt 0), ∀ (h3 : ¬ (x : Int32) = Int32.ofInt 1), ∀ (h5 : ¬ (x : Int32) = Int32.ofInt 2), ∀ (h7 : ¬ (x : Int32) = Int32.ofInt 3), ∀ (h9 : (x : Int32) = Int32.ofInt 4), P (.inl (some (.int (M.1 2 1)))) SHF M) (o12 : ∀ (h1 : ¬ (x : Int32) = Int32.ofInt 0), ∀ (h3 : ¬ (x : Int32) = Int32.ofInt 1), ∀ (h5 : ¬ (x : Int32) = Int32.ofInt 2), ∀ (h7 : ¬ (x : Int32) = Int32.ofInt 3), ∀ (h9 : ¬ (x : Int32) = Int32.ofInt 4), ∀ (h11 : (x : Int32) = Int32.ofInt 5), vp_in (Int32.ofInt 0) 3) (r13 : ∀ (h1 : ¬ (x : Int32) = Int32.ofInt 0), ∀ (h3 : ¬ (x : Int32) = Int32.ofInt 1), ∀ (h5 : ¬ (x : Int32) = Int32.ofInt 2), ∀ (h7 : ¬ (x : Int32) = Int32.ofInt 3), ∀ (h9 : ¬ (x : Int32) = Int32.ofInt 4), ∀ (h11 : (x : Int32) = Int32.ofInt 5), P (.inl (some (.int (M.1 57 (Int32.ofInt 0).toNatClampNeg)))) SHF M) (o15 : ∀ (h1 : ¬ (x : Int32) = Int32.ofInt 0), ∀ (h3 : ¬ (x : Int32) = Int32.ofInt 1), ∀ (h5 : ¬ (x : Int32) = Int32.ofInt 2), ∀ (h7 : ¬ (x : Int32) = Int32.ofInt 3), ∀ (h9 : ¬ (x : Int32) = Int32.ofInt 4), ∀ (h11 : ¬ (x : Int32) = Int32.ofInt 5), ∀ (h14 : (x : Int32) = Int32.ofInt 6), vp_in (Int32.ofInt 1) 3) (r16 : ∀ (h1 : ¬ (x : Int32) = Int32.ofInt 0), ∀ (h3 : ¬ (x : Int32) = Int32.ofInt 1), ∀ (h5 : ¬ (x : Int32) = Int32.ofInt 2), ∀ (h7 : ¬ (x : Int32) = Int32.ofInt 3), ∀ (h9 : ¬ (x : Int32) = Int32.ofInt 4), ∀ (h11 : ¬ (x : Int32) = Int32.ofInt 5), ∀ (h14 : (x : Int32) = Int32.ofInt 6), P (.inl (some (.int (M.1 57 (Int32.ofInt 1).toNatClampNeg)))) SHF M) (o18 : ∀ (h1 : ¬ (x : Int32) = Int32.ofInt 0), ∀ (h3 : ¬ (x : Int32) = Int32.ofInt 1), ∀ (h5 : ¬ (x : Int32) = Int32.ofInt 2), ∀ (h7 : ¬ (x : Int32) = Int32.ofInt 3), ∀ (h9 : ¬ (x : Int32) = Int32.ofInt 4), ∀ (h11 : ¬ (x : Int32) = Int32.ofInt 5), ∀ (h14 : ¬ (x : Int32) = Int32.ofInt 6), ∀ (h17 : (x : Int32) = Int32.ofInt 7), vp_in (Int32.ofInt 2) 3) (r19 : ∀ (h1 : ¬ (x : Int32) = Int32.ofInt 0), ∀ (h3 : ¬ (x : Int32) = Int32.ofInt 1), ∀ (h5 : ¬ (x : Int32) = Int32.ofInt 2), ∀ (h7 : ¬ (x : Int32) = Int32.ofInt 3), ∀ (h9 : ¬ (x : Int32) = Int32.ofInt 4), ∀ (h11 : ¬ (x : Int32) = Int32.ofInt 5), ∀ (h14 : ¬ (x : Int32) = Int32.ofInt 6), ∀ (h17 : (x : Int32) = Int32.ofInt 7), P (.inl (some (.int (M.1 57 (Int32.ofInt 2).toNatClampNeg)))) SHF M) (r21 : ∀ (h1 : ¬ (x : Int32) = Int32.ofInt 0), ∀ (h3 : ¬ (x : Int32) = Int32.ofInt 1), ∀ (h5 : ¬ (x : Int32) = Int32.ofInt 2), ∀ (h7 : ¬ (x : Int32) = Int32.ofInt 3), ∀ (h9 : ¬ (x : Int32) = Int32.ofInt 4), ∀ (h11 : ¬ (x : Int32) = Int32.ofInt 5), ∀ (h14 : ¬ (x : Int32) = Int32.ofInt 6), ∀ (h17 : ¬ (x : Int32) = Int32.ofInt 7), ∀ (h20 : (x : Int32) = Int32.ofInt 8), P (.inl (some (.int (M.1 49 1)))) SHF M) (x22 : ∀ (h1 : ¬ (x : Int32) = Int32.ofInt 0), ∀ (h3 : ¬ (x : Int32) = Int32.ofInt 1), ∀ (h5 : ¬ (x : Int32) = Int32.ofInt 2), ∀ (h7 : ¬ (x : Int32) = Int32.ofInt 3), ∀ (h9 : ¬ (x : Int32) = Int32.ofInt 4), ∀ (h11 : ¬ (x : Int32) = Int32.ofInt 5), ∀ (h14 : ¬ (x : Int32) = Int32.ofInt 6), ∀ (h17 : ¬ (x : Int32) = Int32.ofInt 7), ∀ (h20 : ¬ (x : Int32) = Int32.ofInt 8), P (.inr "java/util/NoSuchElementException") SHF M) : AW l (pI pg 86) P (kc + 1) (ks + 6) 0 [(0, .ref 0), (1, .int (x))] [] SHF M := by
  refine AW.iload_n (dq rfl) rfl ?_
  show AW l (pI pg 86) P (kc + 1) (ks + 6) 1 _ _ SHF _
  by_cases h1 : (x : Int32) = Int32.ofInt 0
  · refine AW.tableIn (dq rfl) (by rw [h1]; decide) (by rw [h1]; decide) (off := 51) (by rw [h1]; decide) (tgt := 52) (by decide) ?_
    show AW l (pI pg 86) P (kc + 1) (ks + 6) 52 [(0, .ref 0), (1, .int (x))] [] SHF _
    refine AW.aload_n (dq rfl) rfl rfl ?_
    show AW l (pI pg 86) P (kc + 1) (ks + 6) 53 _ _ SHF _
    refine fw_get (dq rfl) (pg_ok.2.1 86 _ _ _ _ rfl) rfl (v := .ref 4) (isTA_ok rfl (rgR_ok hJ rfl)) ?_
    show AW l (pI pg 86) P (kc + 1) (ks + 6) 56 _ _ SHF _
    refine fw_get (dq rfl) (pg_ok.2.1 86 _ _ _ _ rfl) rfl (v := .int (M.1 4 0)) rfl ?_
    show AW l (pI pg 86) P (kc + 1) (ks + 6) 59 _ _ SHF _
    refine AW.iret (dq rfl) rfl ?_
    exact r2 h1
  by_cases h3 : (x : Int32) = Int32.ofInt 1
  · refine AW.tableIn (dq rfl) (by rw [h3]; decide) (by rw [h3]; decide) (off := 59) (by rw [h3]; decide) (tgt := 60) (by decide) ?_
    show AW l (pI pg 86) P (kc + 1) (ks + 6) 60 [(0, .ref 0), (1, .int (x))] [] SHF _
    refine AW.aload_n (dq rfl) rfl rfl ?_
    show AW l (pI pg 86) P (kc + 1) (ks + 6) 61 _ _ SHF _
    refine fw_get (dq rfl) (pg_ok.2.1 86 _ _ _ _ rfl) rfl (v := .ref 4) (isTA_ok rfl (rgR_ok hJ rfl)) ?_
    show AW l (pI pg 86) P (kc + 1) (ks + 6) 64 _ _ SHF _
    refine fw_get (dq rfl) (pg_ok.2.1 86 _ _ _ _ rfl) rfl (v := .int (M.1 4 1)) rfl ?_
    show AW l (pI pg 86) P (kc + 1) (ks + 6) 67 _ _ SHF _
    refine AW.iret (dq rfl) rfl ?_
    exact r4 h1 h3
  by_cases h5 : (x : Int32) = Int32.ofInt 2
  · refine AW.tableIn (dq rfl) (by rw [h5]; decide) (by rw [h5]; decide) (off := 67) (by rw [h5]; decide) (tgt := 68) (by decide) ?_
    show AW l (pI pg 86) P (kc + 1) (ks + 6) 68 [(0, .ref 0), (1, .int (x))] [] SHF _
    refine AW.aload_n (dq rfl) rfl rfl ?_
    show AW l (pI pg 86) P (kc + 1) (ks + 6) 69 _ _ SHF _
    refine fw_get (dq rfl) (pg_ok.2.1 86 _ _ _ _ rfl) rfl (v := .ref 4) (isTA_ok rfl (rgR_ok hJ rfl)) ?_
    show AW l (pI pg 86) P (kc + 1) (ks + 6) 72 _ _ SHF _
    refine fw_get (dq rfl) (pg_ok.2.1 86 _ _ _ _ rfl) rfl (v := .int (M.1 4 2)) rfl ?_
    show AW l (pI pg 86) P (kc + 1) (ks + 6) 75 _ _ SHF _
    refine AW.iret (dq rfl) rfl ?_
    exact r6 h1 h3 h5
  by_cases h7 : (x : Int32) = Int32.ofInt 3
  · refine AW.tableIn (dq rfl) (by rw [h7]; decide) (by rw [h7]; decide) (off := 75) (by rw [h7]; decide) (tgt := 76) (by decide) ?_
    show AW l (pI pg 86) P (kc + 1) (ks + 6) 76 [(0, .ref 0), (1, .int (x))] [] SHF _
    refine AW.aload_n (dq rfl) rfl rfl ?_
    show AW l (pI pg 86) P (kc + 1) (ks + 6) 77 _ _ SHF _
    refine fw_get (dq rfl) (pg_ok.2.1 86 _ _ _ _ rfl) rfl (v := .ref 4) (isTA_ok rfl (rgR_ok hJ rfl)) ?_
    show AW l (pI pg 86) P (kc + 1) (ks + 6) 80 _ _ SHF _
    refine fw_get (dq rfl) (pg_ok.2.1 86 _ _ _ _ rfl) rfl (v := .int (M.1 4 3)) rfl ?_
    show AW l (pI pg 86) P (kc + 1) (ks + 6) 83 _ _ SHF _
    refine AW.iret (dq rfl) rfl ?_
    exact r8 h1 h3 h5 h7
  by_cases h9 : (x : Int32) = Int32.ofInt 4
  · refine AW.tableIn (dq rfl) (by rw [h9]; decide) (by rw [h9]; decide) (off := 83) (by rw [h9]; decide) (tgt := 84) (by decide) ?_
    show AW l (pI pg 86) P (kc + 1) (ks + 6) 84 [(0, .ref 0), (1, .int (x))] [] SHF _
    refine AW.aload_n (dq rfl) rfl rfl ?_
    show AW l (pI pg 86) P (kc + 1) (ks + 6) 85 _ _ SHF _
    refine fw_get (dq rfl) (pg_ok.2.1 86 _ _ _ _ rfl) rfl (v := .ref 1) (isTA_ok rfl (rgR_ok hJ rfl)) ?_
    show AW l (pI pg 86) P (kc + 1) (ks + 6) 88 _ _ SHF _
    refine fw_get (dq rfl) (pg_ok.2.1 86 _ _ _ _ rfl) rfl (v := .ref 2) (isTA_ok rfl (rgR_ok hJ rfl)) ?_
    show AW l (pI pg 86) P (kc + 1) (ks + 6) 91 _ _ SHF _
    refine fw_get (dq rfl) (pg_ok.2.1 86 _ _ _ _ rfl) rfl (v := .int (M.1 2 1)) rfl ?_
    show AW l (pI pg 86) P (kc + 1) (ks + 6) 94 _ _ SHF _
    refine AW.iret (dq rfl) rfl ?_
    exact r10 h1 h3 h5 h7 h9
  by_cases h11 : (x : Int32) = Int32.ofInt 5
  · refine AW.tableIn (dq rfl) (by rw [h11]; decide) (by rw [h11]; decide) (off := 94) (by rw [h11]; decide) (tgt := 95) (by decide) ?_
    show AW l (pI pg 86) P (kc + 1) (ks + 6) 95 [(0, .ref 0), (1, .int (x))] [] SHF _
    refine AW.aload_n (dq rfl) rfl rfl ?_
    show AW l (pI pg 86) P (kc + 1) (ks + 6) 96 _ _ SHF _
    refine fw_get (dq rfl) (pg_ok.2.1 86 _ _ _ _ rfl) rfl (v := .ref 57) (isTA_ok rfl (rgR_ok hJ rfl)) ?_
    show AW l (pI pg 86) P (kc + 1) (ks + 6) 99 _ _ SHF _
    refine AW.iconst (dq rfl) ?_
    show AW l (pI pg 86) P (kc + 1) (ks + 6) 100 _ _ SHF _
    refine AW.iald (dq rfl) rfl (o12 h1 h3 h5 h7 h9 h11) ?_
    show AW l (pI pg 86) P (kc + 1) (ks + 6) 101 _ _ SHF _
    refine AW.iret (dq rfl) rfl ?_
    exact r13 h1 h3 h5 h7 h9 h11
  by_cases h14 : (x : Int32) = Int32.ofInt 6
  · refine AW.tableIn (dq rfl) (by rw [h14]; decide) (by rw [h14]; decide) (off := 101) (by rw [h14]; decide) (tgt := 102) (by decide) ?_
    show AW l (pI pg 86) P (kc + 1) (ks + 6) 102 [(0, .ref 0), (1, .int (x))] [] SHF _
    refine AW.aload_n (dq rfl) rfl rfl ?_
    show AW l (pI pg 86) P (kc + 1) (ks + 6) 103 _ _ SHF _
    refine fw_get (dq rfl) (pg_ok.2.1 86 _ _ _ _ rfl) rfl (v := .ref 57) (isTA_ok rfl (rgR_ok hJ rfl)) ?_
    show AW l (pI pg 86) P (kc + 1) (ks + 6) 106 _ _ SHF _
    refine AW.iconst (dq rfl) ?_
    show AW l (pI pg 86) P (kc + 1) (ks + 6) 107 _ _ SHF _
    refine AW.iald (dq rfl) rfl (o15 h1 h3 h5 h7 h9 h11 h14) ?_
    show AW l (pI pg 86) P (kc + 1) (ks + 6) 108 _ _ SHF _
    refine AW.iret (dq rfl) rfl ?_
    exact r16 h1 h3 h5 h7 h9 h11 h14
  by_cases h17 : (x : Int32) = Int32.ofInt 7
  · refine AW.tableIn (dq rfl) (by rw [h17]; decide) (by rw [h17]; decide) (off := 108) (by rw [h17]; decide) (tgt := 109) (by decide) ?_
    show AW l (pI pg 86) P (kc + 1) (ks + 6) 109 [(0, .ref 0), (1, .int (x))] [] SHF _
    refine AW.aload_n (dq rfl) rfl rfl ?_
    show AW l (pI pg 86) P (kc + 1) (ks + 6) 110 _ _ SHF _
    refine fw_get (dq rfl) (pg_ok.2.1 86 _ _ _ _ rfl) rfl (v := .ref 57) (isTA_ok rfl (rgR_ok hJ rfl)) ?_
    show AW l (pI pg 86) P (kc + 1) (ks + 6) 113 _ _ SHF _
    refine AW.iconst (dq rfl) ?_
    show AW l (pI pg 86) P (kc + 1) (ks + 6) 114 _ _ SHF _
    refine AW.iald (dq rfl) rfl (o18 h1 h3 h5 h7 h9 h11 h14 h17) ?_
    show AW l (pI pg 86) P (kc + 1) (ks + 6) 115 _ _ SHF _
    refine AW.iret (dq rfl) rfl ?_
    exact r19 h1 h3 h5 h7 h9 h11 h14 h17
  by_cases h20 : (x : Int32) = Int32.ofInt 8
  · refine AW.tableIn (dq rfl) (by rw [h20]; decide) (by rw [h20]; decide) (off := 115) (by rw [h20]; decide) (tgt := 116) (by decide) ?_
    show AW l (pI pg 86) P (kc + 1) (ks + 6) 116 [(0, .ref 0), (1, .int (x))] [] SHF _
    refine AW.aload_n (dq rfl) rfl rfl ?_
    show AW l (pI pg 86) P (kc + 1) (ks + 6) 117 _ _ SHF _
    refine fw_get (dq rfl) (pg_ok.2.1 86 _ _ _ _ rfl) rfl (v := .ref 49) (isTA_ok rfl (rgR_ok hJ rfl)) ?_
    show AW l (pI pg 86) P (kc + 1) (ks + 6) 120 _ _ SHF _
    refine fw_get (dq rfl) (pg_ok.2.1 86 _ _ _ _ rfl) rfl (v := .int (M.1 49 1)) rfl ?_
    show AW l (pI pg 86) P (kc + 1) (ks + 6) 123 _ _ SHF _
    refine AW.iret (dq rfl) rfl ?_
    exact r21 h1 h3 h5 h7 h9 h11 h14 h17 h20
  refine AW.tableOut (dq rfl) (tb_out8 h1 h3 h5 h7 h9 h11 h14 h17 h20) (tgt := 124) (by decide) ?_
  show AW l (pI pg 86) P (kc + 1) (ks + 6) 124 [(0, .ref 0), (1, .int (x))] [] SHF _
  refine pg_ok.2.2.2.2.2.2.2.1 86 _ _ rfl _ _ _ _ _ _ _ ?_
  exact x22 h1 h3 h5 h7 h9 h11 h14 h17 h20

theorem cntb_0 {l : aL} {P : aP} {kc ks : Nat} {x : Int32} {M : aM} (hJ : ∀ e ∈ RRS.2, M.2.2 e.1 e.2.1 = e.2.2) (hl0 : l.1.stackTraces = false) (r2 : ∀ (h1 : (x : Int32) = Int32.ofInt 0), P (.inl (some (.int (M.1 17 0)))) SHF M) (r4 : ∀ (h1 : ¬ (x : Int32) = Int32.ofInt 0), ∀ (h3 : (x : Int32) = Int32.ofInt 1), P (.inl (some (.int (M.1 17 1)))) SHF M) (r6 : ∀ (h1 : ¬ (x : Int32) = Int32.ofInt 0), ∀ (h3 : ¬ (x : Int32) = Int32.ofInt 1), ∀ (h5 : (x : Int32) = Int32.ofInt 2), P (.inl (some (.int (M.1 17 2)))) SHF M) (r8 : ∀ (h1 : ¬ (x : Int32) = Int32.ofInt 0), ∀ (h3 : ¬ (x : Int32) = Int32.ofInt 1), ∀ (h5 : ¬ (x : Int32) = Int32.ofInt 2), ∀ (h7 : (x : Int32) = Int32.ofInt 3), P (.inl (some (.int (M.1 17 3)))) SHF M) (r10 : ∀ (h1 : ¬ (x : Int32) = Int32.ofInt 0), ∀ (h3 : ¬ (x : Int32) = Int32.ofInt 1), ∀ (h5 : ¬ (x : Int32) = Int32.ofInt 2), ∀ (h7 : ¬ (x : Int32) = Int32.ofInt 3), ∀ (h9 : (x : Int32) = Int32.ofInt 4), P (.inl (some (.int (M.1 2 1)))) SHF M) (o12 : ∀ (h1 : ¬ (x : Int32) = Int32.ofInt 0), ∀ (h3 : ¬ (x : Int32) = Int32.ofInt 1), ∀ (h5 : ¬ (x : Int32) = Int32.ofInt 2), ∀ (h7 : ¬ (x : Int32) = Int32.ofInt 3), ∀ (h9 : ¬ (x : Int32) = Int32.ofInt 4), ∀ (h11 : (x : Int32) = Int32.ofInt 5), vp_in (Int32.ofInt 0) 3) (r13 : ∀ (h1 : ¬ (x : Int32) = Int32.ofInt 0), ∀ (h3 : ¬ (x : Int32) = Int32.ofInt 1), ∀ (h5 : ¬ (x : Int32) = Int32.ofInt 2), ∀ (h7 : ¬ (x : Int32) = Int32.ofInt 3), ∀ (h9 : ¬ (x : Int32) = Int32.ofInt 4), ∀ (h11 : (x : Int32) = Int32.ofInt 5), P (.inl (some (.int (M.1 57 (Int32.ofInt 0).toNatClampNeg)))) SHF M) (o15 : ∀ (h1 : ¬ (x : Int32) = Int32.ofInt 0), ∀ (h3 : ¬ (x : Int32) = Int32.ofInt 1), ∀ (h5 : ¬ (x : Int32) = Int32.ofInt 2), ∀ (h7 : ¬ (x : Int32) = Int32.ofInt 3), ∀ (h9 : ¬ (x : Int32) = Int32.ofInt 4), ∀ (h11 : ¬ (x : Int32) = Int32.ofInt 5), ∀ (h14 : (x : Int32) = Int32.ofInt 6), vp_in (Int32.ofInt 1) 3) (r16 : ∀ (h1 : ¬ (x : Int32) = Int32.ofInt 0), ∀ (h3 : ¬ (x : Int32) = Int32.ofInt 1), ∀ (h5 : ¬ (x : Int32) = Int32.ofInt 2), ∀ (h7 : ¬ (x : Int32) = Int32.ofInt 3), ∀ (h9 : ¬ (x : Int32) = Int32.ofInt 4), ∀ (h11 : ¬ (x : Int32) = Int32.ofInt 5), ∀ (h14 : (x : Int32) = Int32.ofInt 6), P (.inl (some (.int (M.1 57 (Int32.ofInt 1).toNatClampNeg)))) SHF M) (o18 : ∀ (h1 : ¬ (x : Int32) = Int32.ofInt 0), ∀ (h3 : ¬ (x : Int32) = Int32.ofInt 1), ∀ (h5 : ¬ (x : Int32) = Int32.ofInt 2), ∀ (h7 : ¬ (x : Int32) = Int32.ofInt 3), ∀ (h9 : ¬ (x : Int32) = Int32.ofInt 4), ∀ (h11 : ¬ (x : Int32) = Int32.ofInt 5), ∀ (h14 : ¬ (x : Int32) = Int32.ofInt 6), ∀ (h17 : (x : Int32) = Int32.ofInt 7), vp_in (Int32.ofInt 2) 3) (r19 : ∀ (h1 : ¬ (x : Int32) = Int32.ofInt 0), ∀ (h3 : ¬ (x : Int32) = Int32.ofInt 1), ∀ (h5 : ¬ (x : Int32) = Int32.ofInt 2), ∀ (h7 : ¬ (x : Int32) = Int32.ofInt 3), ∀ (h9 : ¬ (x : Int32) = Int32.ofInt 4), ∀ (h11 : ¬ (x : Int32) = Int32.ofInt 5), ∀ (h14 : ¬ (x : Int32) = Int32.ofInt 6), ∀ (h17 : (x : Int32) = Int32.ofInt 7), P (.inl (some (.int (M.1 57 (Int32.ofInt 2).toNatClampNeg)))) SHF M) (r21 : ∀ (h1 : ¬ (x : Int32) = Int32.ofInt 0), ∀ (h3 : ¬ (x : Int32) = Int32.ofInt 1), ∀ (h5 : ¬ (x : Int32) = Int32.ofInt 2), ∀ (h7 : ¬ (x : Int32) = Int32.ofInt 3), ∀ (h9 : ¬ (x : Int32) = Int32.ofInt 4), ∀ (h11 : ¬ (x : Int32) = Int32.ofInt 5), ∀ (h14 : ¬ (x : Int32) = Int32.ofInt 6), ∀ (h17 : ¬ (x : Int32) = Int32.ofInt 7), ∀ (h20 : (x : Int32) = Int32.ofInt 8), P (.inl (some (.int (M.1 49 1)))) SHF M) (x22 : ∀ (h1 : ¬ (x : Int32) = Int32.ofInt 0), ∀ (h3 : ¬ (x : Int32) = Int32.ofInt 1), ∀ (h5 : ¬ (x : Int32) = Int32.ofInt 2), ∀ (h7 : ¬ (x : Int32) = Int32.ofInt 3), ∀ (h9 : ¬ (x : Int32) = Int32.ofInt 4), ∀ (h11 : ¬ (x : Int32) = Int32.ofInt 5), ∀ (h14 : ¬ (x : Int32) = Int32.ofInt 6), ∀ (h17 : ¬ (x : Int32) = Int32.ofInt 7), ∀ (h20 : ¬ (x : Int32) = Int32.ofInt 8), P (.inr "java/util/NoSuchElementException") SHF M) : AW l (pI pg 86) P (kc + 1) (ks + 6) 0 [(0, .ref 0), (1, .int (x))] [] SHF M := by
  refine AW.iload_n (dq rfl) rfl ?_
  show AW l (pI pg 86) P (kc + 1) (ks + 6) 1 _ _ SHF _
  by_cases h1 : (x : Int32) = Int32.ofInt 0
  · refine AW.tableIn (dq rfl) (by rw [h1]; decide) (by rw [h1]; decide) (off := 51) (by rw [h1]; decide) (tgt := 52) (by decide) ?_
    show AW l (pI pg 86) P (kc + 1) (ks + 6) 52 [(0, .ref 0), (1, .int (x))] [] SHF _
    refine AW.aload_n (dq rfl) rfl rfl ?_
    show AW l (pI pg 86) P (kc + 1) (ks + 6) 53 _ _ SHF _
    refine fw_get (dq rfl) (pg_ok.2.1 86 _ _ _ _ rfl) rfl (v := .ref 17) (isTA_ok rfl (rgR_ok hJ rfl)) ?_
    show AW l (pI pg 86) P (kc + 1) (ks + 6) 56 _ _ SHF _
    refine fw_get (dq rfl) (pg_ok.2.1 86 _ _ _ _ rfl) rfl (v := .int (M.1 17 0)) rfl ?_
    show AW l (pI pg 86) P (kc + 1) (ks + 6) 59 _ _ SHF _
    refine AW.iret (dq rfl) rfl ?_
    exact r2 h1
  by_cases h3 : (x : Int32) = Int32.ofInt 1
  · refine AW.tableIn (dq rfl) (by rw [h3]; decide) (by rw [h3]; decide) (off := 59) (by rw [h3]; decide) (tgt := 60) (by decide) ?_
    show AW l (pI pg 86) P (kc + 1) (ks + 6) 60 [(0, .ref 0), (1, .int (x))] [] SHF _
    refine AW.aload_n (dq rfl) rfl rfl ?_
    show AW l (pI pg 86) P (kc + 1) (ks + 6) 61 _ _ SHF _
    refine fw_get (dq rfl) (pg_ok.2.1 86 _ _ _ _ rfl) rfl (v := .ref 17) (isTA_ok rfl (rgR_ok hJ rfl)) ?_
    show AW l (pI pg 86) P (kc + 1) (ks + 6) 64 _ _ SHF _
    refine fw_get (dq rfl) (pg_ok.2.1 86 _ _ _ _ rfl) rfl (v := .int (M.1 17 1)) rfl ?_
    show AW l (pI pg 86) P (kc + 1) (ks + 6) 67 _ _ SHF _
    refine AW.iret (dq rfl) rfl ?_
    exact r4 h1 h3
  by_cases h5 : (x : Int32) = Int32.ofInt 2
  · refine AW.tableIn (dq rfl) (by rw [h5]; decide) (by rw [h5]; decide) (off := 67) (by rw [h5]; decide) (tgt := 68) (by decide) ?_
    show AW l (pI pg 86) P (kc + 1) (ks + 6) 68 [(0, .ref 0), (1, .int (x))] [] SHF _
    refine AW.aload_n (dq rfl) rfl rfl ?_
    show AW l (pI pg 86) P (kc + 1) (ks + 6) 69 _ _ SHF _
    refine fw_get (dq rfl) (pg_ok.2.1 86 _ _ _ _ rfl) rfl (v := .ref 17) (isTA_ok rfl (rgR_ok hJ rfl)) ?_
    show AW l (pI pg 86) P (kc + 1) (ks + 6) 72 _ _ SHF _
    refine fw_get (dq rfl) (pg_ok.2.1 86 _ _ _ _ rfl) rfl (v := .int (M.1 17 2)) rfl ?_
    show AW l (pI pg 86) P (kc + 1) (ks + 6) 75 _ _ SHF _
    refine AW.iret (dq rfl) rfl ?_
    exact r6 h1 h3 h5
  by_cases h7 : (x : Int32) = Int32.ofInt 3
  · refine AW.tableIn (dq rfl) (by rw [h7]; decide) (by rw [h7]; decide) (off := 75) (by rw [h7]; decide) (tgt := 76) (by decide) ?_
    show AW l (pI pg 86) P (kc + 1) (ks + 6) 76 [(0, .ref 0), (1, .int (x))] [] SHF _
    refine AW.aload_n (dq rfl) rfl rfl ?_
    show AW l (pI pg 86) P (kc + 1) (ks + 6) 77 _ _ SHF _
    refine fw_get (dq rfl) (pg_ok.2.1 86 _ _ _ _ rfl) rfl (v := .ref 17) (isTA_ok rfl (rgR_ok hJ rfl)) ?_
    show AW l (pI pg 86) P (kc + 1) (ks + 6) 80 _ _ SHF _
    refine fw_get (dq rfl) (pg_ok.2.1 86 _ _ _ _ rfl) rfl (v := .int (M.1 17 3)) rfl ?_
    show AW l (pI pg 86) P (kc + 1) (ks + 6) 83 _ _ SHF _
    refine AW.iret (dq rfl) rfl ?_
    exact r8 h1 h3 h5 h7
  by_cases h9 : (x : Int32) = Int32.ofInt 4
  · refine AW.tableIn (dq rfl) (by rw [h9]; decide) (by rw [h9]; decide) (off := 83) (by rw [h9]; decide) (tgt := 84) (by decide) ?_
    show AW l (pI pg 86) P (kc + 1) (ks + 6) 84 [(0, .ref 0), (1, .int (x))] [] SHF _
    refine AW.aload_n (dq rfl) rfl rfl ?_
    show AW l (pI pg 86) P (kc + 1) (ks + 6) 85 _ _ SHF _
    refine fw_get (dq rfl) (pg_ok.2.1 86 _ _ _ _ rfl) rfl (v := .ref 1) (isTA_ok rfl (rgR_ok hJ rfl)) ?_
    show AW l (pI pg 86) P (kc + 1) (ks + 6) 88 _ _ SHF _
    refine fw_get (dq rfl) (pg_ok.2.1 86 _ _ _ _ rfl) rfl (v := .ref 2) (isTA_ok rfl (rgR_ok hJ rfl)) ?_
    show AW l (pI pg 86) P (kc + 1) (ks + 6) 91 _ _ SHF _
    refine fw_get (dq rfl) (pg_ok.2.1 86 _ _ _ _ rfl) rfl (v := .int (M.1 2 1)) rfl ?_
    show AW l (pI pg 86) P (kc + 1) (ks + 6) 94 _ _ SHF _
    refine AW.iret (dq rfl) rfl ?_
    exact r10 h1 h3 h5 h7 h9
  by_cases h11 : (x : Int32) = Int32.ofInt 5
  · refine AW.tableIn (dq rfl) (by rw [h11]; decide) (by rw [h11]; decide) (off := 94) (by rw [h11]; decide) (tgt := 95) (by decide) ?_
    show AW l (pI pg 86) P (kc + 1) (ks + 6) 95 [(0, .ref 0), (1, .int (x))] [] SHF _
    refine AW.aload_n (dq rfl) rfl rfl ?_
    show AW l (pI pg 86) P (kc + 1) (ks + 6) 96 _ _ SHF _
    refine fw_get (dq rfl) (pg_ok.2.1 86 _ _ _ _ rfl) rfl (v := .ref 57) (isTA_ok rfl (rgR_ok hJ rfl)) ?_
    show AW l (pI pg 86) P (kc + 1) (ks + 6) 99 _ _ SHF _
    refine AW.iconst (dq rfl) ?_
    show AW l (pI pg 86) P (kc + 1) (ks + 6) 100 _ _ SHF _
    refine AW.iald (dq rfl) rfl (o12 h1 h3 h5 h7 h9 h11) ?_
    show AW l (pI pg 86) P (kc + 1) (ks + 6) 101 _ _ SHF _
    refine AW.iret (dq rfl) rfl ?_
    exact r13 h1 h3 h5 h7 h9 h11
  by_cases h14 : (x : Int32) = Int32.ofInt 6
  · refine AW.tableIn (dq rfl) (by rw [h14]; decide) (by rw [h14]; decide) (off := 101) (by rw [h14]; decide) (tgt := 102) (by decide) ?_
    show AW l (pI pg 86) P (kc + 1) (ks + 6) 102 [(0, .ref 0), (1, .int (x))] [] SHF _
    refine AW.aload_n (dq rfl) rfl rfl ?_
    show AW l (pI pg 86) P (kc + 1) (ks + 6) 103 _ _ SHF _
    refine fw_get (dq rfl) (pg_ok.2.1 86 _ _ _ _ rfl) rfl (v := .ref 57) (isTA_ok rfl (rgR_ok hJ rfl)) ?_
    show AW l (pI pg 86) P (kc + 1) (ks + 6) 106 _ _ SHF _
    refine AW.iconst (dq rfl) ?_
    show AW l (pI pg 86) P (kc + 1) (ks + 6) 107 _ _ SHF _
    refine AW.iald (dq rfl) rfl (o15 h1 h3 h5 h7 h9 h11 h14) ?_
    show AW l (pI pg 86) P (kc + 1) (ks + 6) 108 _ _ SHF _
    refine AW.iret (dq rfl) rfl ?_
    exact r16 h1 h3 h5 h7 h9 h11 h14
  by_cases h17 : (x : Int32) = Int32.ofInt 7
  · refine AW.tableIn (dq rfl) (by rw [h17]; decide) (by rw [h17]; decide) (off := 108) (by rw [h17]; decide) (tgt := 109) (by decide) ?_
    show AW l (pI pg 86) P (kc + 1) (ks + 6) 109 [(0, .ref 0), (1, .int (x))] [] SHF _
    refine AW.aload_n (dq rfl) rfl rfl ?_
    show AW l (pI pg 86) P (kc + 1) (ks + 6) 110 _ _ SHF _
    refine fw_get (dq rfl) (pg_ok.2.1 86 _ _ _ _ rfl) rfl (v := .ref 57) (isTA_ok rfl (rgR_ok hJ rfl)) ?_
    show AW l (pI pg 86) P (kc + 1) (ks + 6) 113 _ _ SHF _
    refine AW.iconst (dq rfl) ?_
    show AW l (pI pg 86) P (kc + 1) (ks + 6) 114 _ _ SHF _
    refine AW.iald (dq rfl) rfl (o18 h1 h3 h5 h7 h9 h11 h14 h17) ?_
    show AW l (pI pg 86) P (kc + 1) (ks + 6) 115 _ _ SHF _
    refine AW.iret (dq rfl) rfl ?_
    exact r19 h1 h3 h5 h7 h9 h11 h14 h17
  by_cases h20 : (x : Int32) = Int32.ofInt 8
  · refine AW.tableIn (dq rfl) (by rw [h20]; decide) (by rw [h20]; decide) (off := 115) (by rw [h20]; decide) (tgt := 116) (by decide) ?_
    show AW l (pI pg 86) P (kc + 1) (ks + 6) 116 [(0, .ref 0), (1, .int (x))] [] SHF _
    refine AW.aload_n (dq rfl) rfl rfl ?_
    show AW l (pI pg 86) P (kc + 1) (ks + 6) 117 _ _ SHF _
    refine fw_get (dq rfl) (pg_ok.2.1 86 _ _ _ _ rfl) rfl (v := .ref 49) (isTA_ok rfl (rgR_ok hJ rfl)) ?_
    show AW l (pI pg 86) P (kc + 1) (ks + 6) 120 _ _ SHF _
    refine fw_get (dq rfl) (pg_ok.2.1 86 _ _ _ _ rfl) rfl (v := .int (M.1 49 1)) rfl ?_
    show AW l (pI pg 86) P (kc + 1) (ks + 6) 123 _ _ SHF _
    refine AW.iret (dq rfl) rfl ?_
    exact r21 h1 h3 h5 h7 h9 h11 h14 h17 h20
  refine AW.tableOut (dq rfl) (tb_out8 h1 h3 h5 h7 h9 h11 h14 h17 h20) (tgt := 124) (by decide) ?_
  show AW l (pI pg 86) P (kc + 1) (ks + 6) 124 [(0, .ref 0), (1, .int (x))] [] SHF _
  refine pg_ok.2.2.2.2.2.2.2.1 86 _ _ rfl _ _ _ _ _ _ _ ?_
  exact x22 h1 h3 h5 h7 h9 h11 h14 h17 h20

theorem mcn_0 {l : aL} {P : aP} {kc ks : Nat} {x : Int32} {M : aM} (hJ : ∀ e ∈ RM, M.2.2 e.1 e.2.1 = e.2.2)  (Q1 : Int32 → aM → Prop) (c2 : AC l (pI pg 195) (fcI (aset M 58 0 (.int (Int32.ofInt 0))) Q1) 0 0 [.int (x), .int (Int32.ofInt 0), .int ((Int8.ofInt 8).toInt32)] SHF (aset M 58 0 (.int (Int32.ofInt 0)))) (Q3 : Int32 → aM → Int32 → aM → Prop) (c4 : ∀ (y1 : Int32), ∀ (M1 : aM), ∀ (e1 : M1.2.2 = (aset M 58 0 (.int (Int32.ofInt 0))).2.2), ∀ (q1 : Q1 y1 M1), AC l (pI pg 175) (fcI M1 (Q3 y1 M1)) 0 0 [.ref 58, .int (y1), .int (Int32.ofInt 1)] SHF M1) (r7 : ∀ (y1 : Int32), ∀ (M1 : aM), ∀ (e1 : M1.2.2 = (aset M 58 0 (.int (Int32.ofInt 0))).2.2), ∀ (q1 : Q1 y1 M1), ∀ (y3 : Int32), ∀ (M3 : aM), ∀ (e3 : M3.2.2 = M1.2.2), ∀ (q3 : (Q3 y1 M1) y3 M3), ∀ (h5 : ¬ (y3 : Int32) = 0), ∀ (h6 : (x : Int32) = Int32.ofInt 0), P (.inl (some (.int (M3.1 58 1)))) SHF M3) (r9 : ∀ (y1 : Int32), ∀ (M1 : aM), ∀ (e1 : M1.2.2 = (aset M 58 0 (.int (Int32.ofInt 0))).2.2), ∀ (q1 : Q1 y1 M1), ∀ (y3 : Int32), ∀ (M3 : aM), ∀ (e3 : M3.2.2 = M1.2.2), ∀ (q3 : (Q3 y1 M1) y3 M3), ∀ (h5 : ¬ (y3 : Int32) = 0), ∀ (h6 : ¬ (x : Int32) = Int32.ofInt 0), ∀ (h8 : (x : Int32) = Int32.ofInt 1), P (.inl (some (.int (M3.1 58 2)))) SHF M3) (r11 : ∀ (y1 : Int32), ∀ (M1 : aM), ∀ (e1 : M1.2.2 = (aset M 58 0 (.int (Int32.ofInt 0))).2.2), ∀ (q1 : Q1 y1 M1), ∀ (y3 : Int32), ∀ (M3 : aM), ∀ (e3 : M3.2.2 = M1.2.2), ∀ (q3 : (Q3 y1 M1) y3 M3), ∀ (h5 : ¬ (y3 : Int32) = 0), ∀ (h6 : ¬ (x : Int32) = Int32.ofInt 0), ∀ (h8 : ¬ (x : Int32) = Int32.ofInt 1), ∀ (h10 : (x : Int32) = Int32.ofInt 2), P (.inl (some (.int (M3.1 58 3)))) SHF M3) (r13 : ∀ (y1 : Int32), ∀ (M1 : aM), ∀ (e1 : M1.2.2 = (aset M 58 0 (.int (Int32.ofInt 0))).2.2), ∀ (q1 : Q1 y1 M1), ∀ (y3 : Int32), ∀ (M3 : aM), ∀ (e3 : M3.2.2 = M1.2.2), ∀ (q3 : (Q3 y1 M1) y3 M3), ∀ (h5 : ¬ (y3 : Int32) = 0), ∀ (h6 : ¬ (x : Int32) = Int32.ofInt 0), ∀ (h8 : ¬ (x : Int32) = Int32.ofInt 1), ∀ (h10 : ¬ (x : Int32) = Int32.ofInt 2), ∀ (h12 : (x : Int32) = Int32.ofInt 3), P (.inl (some (.int (M3.1 58 4)))) SHF M3) (r15 : ∀ (y1 : Int32), ∀ (M1 : aM), ∀ (e1 : M1.2.2 = (aset M 58 0 (.int (Int32.ofInt 0))).2.2), ∀ (q1 : Q1 y1 M1), ∀ (y3 : Int32), ∀ (M3 : aM), ∀ (e3 : M3.2.2 = M1.2.2), ∀ (q3 : (Q3 y1 M1) y3 M3), ∀ (h5 : ¬ (y3 : Int32) = 0), ∀ (h6 : ¬ (x : Int32) = Int32.ofInt 0), ∀ (h8 : ¬ (x : Int32) = Int32.ofInt 1), ∀ (h10 : ¬ (x : Int32) = Int32.ofInt 2), ∀ (h12 : ¬ (x : Int32) = Int32.ofInt 3), ∀ (h14 : (x : Int32) = Int32.ofInt 4), P (.inl (some (.int (M3.1 58 12)))) SHF M3) (o17 : ∀ (y1 : Int32), ∀ (M1 : aM), ∀ (e1 : M1.2.2 = (aset M 58 0 (.int (Int32.ofInt 0))).2.2), ∀ (q1 : Q1 y1 M1), ∀ (y3 : Int32), ∀ (M3 : aM), ∀ (e3 : M3.2.2 = M1.2.2), ∀ (q3 : (Q3 y1 M1) y3 M3), ∀ (h5 : ¬ (y3 : Int32) = 0), ∀ (h6 : ¬ (x : Int32) = Int32.ofInt 0), ∀ (h8 : ¬ (x : Int32) = Int32.ofInt 1), ∀ (h10 : ¬ (x : Int32) = Int32.ofInt 2), ∀ (h12 : ¬ (x : Int32) = Int32.ofInt 3), ∀ (h14 : ¬ (x : Int32) = Int32.ofInt 4), ∀ (h16 : (x : Int32) = Int32.ofInt 5), vp_in ((x) - (Int32.ofInt 5)) 3) (r18 : ∀ (y1 : Int32), ∀ (M1 : aM), ∀ (e1 : M1.2.2 = (aset M 58 0 (.int (Int32.ofInt 0))).2.2), ∀ (q1 : Q1 y1 M1), ∀ (y3 : Int32), ∀ (M3 : aM), ∀ (e3 : M3.2.2 = M1.2.2), ∀ (q3 : (Q3 y1 M1) y3 M3), ∀ (h5 : ¬ (y3 : Int32) = 0), ∀ (h6 : ¬ (x : Int32) = Int32.ofInt 0), ∀ (h8 : ¬ (x : Int32) = Int32.ofInt 1), ∀ (h10 : ¬ (x : Int32) = Int32.ofInt 2), ∀ (h12 : ¬ (x : Int32) = Int32.ofInt 3), ∀ (h14 : ¬ (x : Int32) = Int32.ofInt 4), ∀ (h16 : (x : Int32) = Int32.ofInt 5), P (.inl (some (.int (M3.1 66 ((x) - (Int32.ofInt 5)).toNatClampNeg)))) SHF M3) (o20 : ∀ (y1 : Int32), ∀ (M1 : aM), ∀ (e1 : M1.2.2 = (aset M 58 0 (.int (Int32.ofInt 0))).2.2), ∀ (q1 : Q1 y1 M1), ∀ (y3 : Int32), ∀ (M3 : aM), ∀ (e3 : M3.2.2 = M1.2.2), ∀ (q3 : (Q3 y1 M1) y3 M3), ∀ (h5 : ¬ (y3 : Int32) = 0), ∀ (h6 : ¬ (x : Int32) = Int32.ofInt 0), ∀ (h8 : ¬ (x : Int32) = Int32.ofInt 1), ∀ (h10 : ¬ (x : Int32) = Int32.ofInt 2), ∀ (h12 : ¬ (x : Int32) = Int32.ofInt 3), ∀ (h14 : ¬ (x : Int32) = Int32.ofInt 4), ∀ (h16 : ¬ (x : Int32) = Int32.ofInt 5), ∀ (h19 : (x : Int32) = Int32.ofInt 6), vp_in ((x) - (Int32.ofInt 5)) 3) (r21 : ∀ (y1 : Int32), ∀ (M1 : aM), ∀ (e1 : M1.2.2 = (aset M 58 0 (.int (Int32.ofInt 0))).2.2), ∀ (q1 : Q1 y1 M1), ∀ (y3 : Int32), ∀ (M3 : aM), ∀ (e3 : M3.2.2 = M1.2.2), ∀ (q3 : (Q3 y1 M1) y3 M3), ∀ (h5 : ¬ (y3 : Int32) = 0), ∀ (h6 : ¬ (x : Int32) = Int32.ofInt 0), ∀ (h8 : ¬ (x : Int32) = Int32.ofInt 1), ∀ (h10 : ¬ (x : Int32) = Int32.ofInt 2), ∀ (h12 : ¬ (x : Int32) = Int32.ofInt 3), ∀ (h14 : ¬ (x : Int32) = Int32.ofInt 4), ∀ (h16 : ¬ (x : Int32) = Int32.ofInt 5), ∀ (h19 : (x : Int32) = Int32.ofInt 6), P (.inl (some (.int (M3.1 66 ((x) - (Int32.ofInt 5)).toNatClampNeg)))) SHF M3) (o23 : ∀ (y1 : Int32), ∀ (M1 : aM), ∀ (e1 : M1.2.2 = (aset M 58 0 (.int (Int32.ofInt 0))).2.2), ∀ (q1 : Q1 y1 M1), ∀ (y3 : Int32), ∀ (M3 : aM), ∀ (e3 : M3.2.2 = M1.2.2), ∀ (q3 : (Q3 y1 M1) y3 M3), ∀ (h5 : ¬ (y3 : Int32) = 0), ∀ (h6 : ¬ (x : Int32) = Int32.ofInt 0), ∀ (h8 : ¬ (x : Int32) = Int32.ofInt 1), ∀ (h10 : ¬ (x : Int32) = Int32.ofInt 2), ∀ (h12 : ¬ (x : Int32) = Int32.ofInt 3), ∀ (h14 : ¬ (x : Int32) = Int32.ofInt 4), ∀ (h16 : ¬ (x : Int32) = Int32.ofInt 5), ∀ (h19 : ¬ (x : Int32) = Int32.ofInt 6), ∀ (h22 : (x : Int32) = Int32.ofInt 7), vp_in ((x) - (Int32.ofInt 5)) 3) (r24 : ∀ (y1 : Int32), ∀ (M1 : aM), ∀ (e1 : M1.2.2 = (aset M 58 0 (.int (Int32.ofInt 0))).2.2), ∀ (q1 : Q1 y1 M1), ∀ (y3 : Int32), ∀ (M3 : aM), ∀ (e3 : M3.2.2 = M1.2.2), ∀ (q3 : (Q3 y1 M1) y3 M3), ∀ (h5 : ¬ (y3 : Int32) = 0), ∀ (h6 : ¬ (x : Int32) = Int32.ofInt 0), ∀ (h8 : ¬ (x : Int32) = Int32.ofInt 1), ∀ (h10 : ¬ (x : Int32) = Int32.ofInt 2), ∀ (h12 : ¬ (x : Int32) = Int32.ofInt 3), ∀ (h14 : ¬ (x : Int32) = Int32.ofInt 4), ∀ (h16 : ¬ (x : Int32) = Int32.ofInt 5), ∀ (h19 : ¬ (x : Int32) = Int32.ofInt 6), ∀ (h22 : (x : Int32) = Int32.ofInt 7), P (.inl (some (.int (M3.1 66 ((x) - (Int32.ofInt 5)).toNatClampNeg)))) SHF M3) (r27 : ∀ (y1 : Int32), ∀ (M1 : aM), ∀ (e1 : M1.2.2 = (aset M 58 0 (.int (Int32.ofInt 0))).2.2), ∀ (q1 : Q1 y1 M1), ∀ (y3 : Int32), ∀ (M3 : aM), ∀ (e3 : M3.2.2 = M1.2.2), ∀ (q3 : (Q3 y1 M1) y3 M3), ∀ (h5 : ¬ (y3 : Int32) = 0), ∀ (h6 : ¬ (x : Int32) = Int32.ofInt 0), ∀ (h8 : ¬ (x : Int32) = Int32.ofInt 1), ∀ (h10 : ¬ (x : Int32) = Int32.ofInt 2), ∀ (h12 : ¬ (x : Int32) = Int32.ofInt 3), ∀ (h14 : ¬ (x : Int32) = Int32.ofInt 4), ∀ (h16 : ¬ (x : Int32) = Int32.ofInt 5), ∀ (h19 : ¬ (x : Int32) = Int32.ofInt 6), ∀ (h22 : ¬ (x : Int32) = Int32.ofInt 7), ∀ (h25 : (x : Int32) = Int32.ofInt 8), ∀ (h26 : ¬ (M3.1 58 51 : Int32) = (Int32.ofInt (-1) : Int32)), P (.inl (some (.int (M3.1 58 51)))) SHF M3) (r28 : ∀ (y1 : Int32), ∀ (M1 : aM), ∀ (e1 : M1.2.2 = (aset M 58 0 (.int (Int32.ofInt 0))).2.2), ∀ (q1 : Q1 y1 M1), ∀ (y3 : Int32), ∀ (M3 : aM), ∀ (e3 : M3.2.2 = M1.2.2), ∀ (q3 : (Q3 y1 M1) y3 M3), ∀ (h5 : ¬ (y3 : Int32) = 0), ∀ (h6 : ¬ (x : Int32) = Int32.ofInt 0), ∀ (h8 : ¬ (x : Int32) = Int32.ofInt 1), ∀ (h10 : ¬ (x : Int32) = Int32.ofInt 2), ∀ (h12 : ¬ (x : Int32) = Int32.ofInt 3), ∀ (h14 : ¬ (x : Int32) = Int32.ofInt 4), ∀ (h16 : ¬ (x : Int32) = Int32.ofInt 5), ∀ (h19 : ¬ (x : Int32) = Int32.ofInt 6), ∀ (h22 : ¬ (x : Int32) = Int32.ofInt 7), ∀ (h25 : (x : Int32) = Int32.ofInt 8), ∀ (h26 : (M3.1 58 51 : Int32) = (Int32.ofInt (-1) : Int32)), P (.inl (some (.int (Int32.ofInt 0)))) SHF M3) (o29 : ∀ (y1 : Int32), ∀ (M1 : aM), ∀ (e1 : M1.2.2 = (aset M 58 0 (.int (Int32.ofInt 0))).2.2), ∀ (q1 : Q1 y1 M1), ∀ (y3 : Int32), ∀ (M3 : aM), ∀ (e3 : M3.2.2 = M1.2.2), ∀ (q3 : (Q3 y1 M1) y3 M3), ∀ (h5 : ¬ (y3 : Int32) = 0), ∀ (h6 : ¬ (x : Int32) = Int32.ofInt 0), ∀ (h8 : ¬ (x : Int32) = Int32.ofInt 1), ∀ (h10 : ¬ (x : Int32) = Int32.ofInt 2), ∀ (h12 : ¬ (x : Int32) = Int32.ofInt 3), ∀ (h14 : ¬ (x : Int32) = Int32.ofInt 4), ∀ (h16 : ¬ (x : Int32) = Int32.ofInt 5), ∀ (h19 : ¬ (x : Int32) = Int32.ofInt 6), ∀ (h22 : ¬ (x : Int32) = Int32.ofInt 7), ∀ (h25 : ¬ (x : Int32) = Int32.ofInt 8), vp_in ((x) - (Int32.ofInt 5)) 3) (r30 : ∀ (y1 : Int32), ∀ (M1 : aM), ∀ (e1 : M1.2.2 = (aset M 58 0 (.int (Int32.ofInt 0))).2.2), ∀ (q1 : Q1 y1 M1), ∀ (y3 : Int32), ∀ (M3 : aM), ∀ (e3 : M3.2.2 = M1.2.2), ∀ (q3 : (Q3 y1 M1) y3 M3), ∀ (h5 : ¬ (y3 : Int32) = 0), ∀ (h6 : ¬ (x : Int32) = Int32.ofInt 0), ∀ (h8 : ¬ (x : Int32) = Int32.ofInt 1), ∀ (h10 : ¬ (x : Int32) = Int32.ofInt 2), ∀ (h12 : ¬ (x : Int32) = Int32.ofInt 3), ∀ (h14 : ¬ (x : Int32) = Int32.ofInt 4), ∀ (h16 : ¬ (x : Int32) = Int32.ofInt 5), ∀ (h19 : ¬ (x : Int32) = Int32.ofInt 6), ∀ (h22 : ¬ (x : Int32) = Int32.ofInt 7), ∀ (h25 : ¬ (x : Int32) = Int32.ofInt 8), P (.inl (some (.int (M3.1 66 ((x) - (Int32.ofInt 5)).toNatClampNeg)))) SHF M3) (r31 : ∀ (y1 : Int32), ∀ (M1 : aM), ∀ (e1 : M1.2.2 = (aset M 58 0 (.int (Int32.ofInt 0))).2.2), ∀ (q1 : Q1 y1 M1), ∀ (y3 : Int32), ∀ (M3 : aM), ∀ (e3 : M3.2.2 = M1.2.2), ∀ (q3 : (Q3 y1 M1) y3 M3), ∀ (h5 : (y3 : Int32) = 0), P (.inl (some (.int (Int32.ofInt 0)))) SHF M3) : AW l (pI pg 194) P kc ks 0 [(0, .ref 58), (1, .int (x))] [] SHF M := by
  refine AW.aload_n (dq rfl) rfl rfl ?_
  show AW l (pI pg 194) P kc ks 1 _ _ SHF _
  refine AW.iconst (dq rfl) ?_
  show AW l (pI pg 194) P kc ks 2 _ _ SHF _
  refine fw_putI (dq rfl) (pg_ok.2.1 194 _ _ _ _ rfl) rfl rfl rfl ?_
  show AW l (pI pg 194) P kc ks 5 _ _ SHF _
  refine AW.aload_n (dq rfl) rfl rfl ?_
  show AW l (pI pg 194) P kc ks 6 _ _ SHF _
  refine AW.iload_n (dq rfl) rfl ?_
  show AW l (pI pg 194) P kc ks 7 _ _ SHF _
  refine AW.iconst (dq rfl) ?_
  show AW l (pI pg 194) P kc ks 8 _ _ SHF _
  refine AW.bipush (dq rfl) ?_
  show AW l (pI pg 194) P kc ks 10 _ _ SHF _
  refine fw_callSI (as := [.int (x), .int (Int32.ofInt 0), .int ((Int8.ofInt 8).toInt32)]) (dq rfl) (pg_ok.2.2.1 194 _ _ _ _ rfl) (by decide +kernel) rfl rfl (c2) (fun y1 M1 e1 q1 => ?_)
  have hJ1 : ∀ e ∈ RM, M1.2.2 e.1 e.2.1 = e.2.2 := fun e he => by rw [e1]; exact hJ e he
  show AW l (pI pg 194) P kc ks 13 [(0, .ref 58), (1, .int (x))] [.int (y1), .ref 58] SHF _
  refine AW.iconst (dq rfl) ?_
  show AW l (pI pg 194) P kc ks 14 _ _ SHF _
  refine fw_callVI (as := [.int (y1), .int (Int32.ofInt 1)]) (dq rfl) (pg_ok.2.2.1 194 _ _ _ _ rfl) rfl (by decide +kernel) rfl rfl (c4 y1 M1 e1 q1) (fun y3 M3 e3 q3 => ?_)
  have hJ3 : ∀ e ∈ RM, M3.2.2 e.1 e.2.1 = e.2.2 := fun e he => by rw [e3]; exact hJ1 e he
  show AW l (pI pg 194) P kc ks 17 [(0, .ref 58), (1, .int (x))] [.int (y3)] SHF _
  refine AW.if_ne (dq rfl) (tgt := 22) (by decide) (fun h5 => ?_) (fun h5 => ?_)
  · have _ := h5
    refine AW.iload_n (dq rfl) rfl ?_
    show AW l (pI pg 194) P kc ks 23 _ _ SHF _
    by_cases h6 : (x : Int32) = Int32.ofInt 0
    · refine AW.tableIn (dq rfl) (by rw [h6]; decide) (by rw [h6]; decide) (off := 49) (by rw [h6]; decide) (tgt := 72) (by decide) ?_
      show AW l (pI pg 194) P kc ks 72 [(0, .ref 58), (1, .int (x))] [] SHF _
      refine AW.aload_n (dq rfl) rfl rfl ?_
      show AW l (pI pg 194) P kc ks 73 _ _ SHF _
      refine fw_get (dq rfl) (pg_ok.2.1 194 _ _ _ _ rfl) rfl (v := .int (M3.1 58 1)) rfl ?_
      show AW l (pI pg 194) P kc ks 76 _ _ SHF _
      refine AW.iret (dq rfl) rfl ?_
      exact r7 y1 M1 e1 q1 y3 M3 e3 q3 h5 h6
    by_cases h8 : (x : Int32) = Int32.ofInt 1
    · refine AW.tableIn (dq rfl) (by rw [h8]; decide) (by rw [h8]; decide) (off := 54) (by rw [h8]; decide) (tgt := 77) (by decide) ?_
      show AW l (pI pg 194) P kc ks 77 [(0, .ref 58), (1, .int (x))] [] SHF _
      refine AW.aload_n (dq rfl) rfl rfl ?_
      show AW l (pI pg 194) P kc ks 78 _ _ SHF _
      refine fw_get (dq rfl) (pg_ok.2.1 194 _ _ _ _ rfl) rfl (v := .int (M3.1 58 2)) rfl ?_
      show AW l (pI pg 194) P kc ks 81 _ _ SHF _
      refine AW.iret (dq rfl) rfl ?_
      exact r9 y1 M1 e1 q1 y3 M3 e3 q3 h5 h6 h8
    by_cases h10 : (x : Int32) = Int32.ofInt 2
    · refine AW.tableIn (dq rfl) (by rw [h10]; decide) (by rw [h10]; decide) (off := 59) (by rw [h10]; decide) (tgt := 82) (by decide) ?_
      show AW l (pI pg 194) P kc ks 82 [(0, .ref 58), (1, .int (x))] [] SHF _
      refine AW.aload_n (dq rfl) rfl rfl ?_
      show AW l (pI pg 194) P kc ks 83 _ _ SHF _
      refine fw_get (dq rfl) (pg_ok.2.1 194 _ _ _ _ rfl) rfl (v := .int (M3.1 58 3)) rfl ?_
      show AW l (pI pg 194) P kc ks 86 _ _ SHF _
      refine AW.iret (dq rfl) rfl ?_
      exact r11 y1 M1 e1 q1 y3 M3 e3 q3 h5 h6 h8 h10
    by_cases h12 : (x : Int32) = Int32.ofInt 3
    · refine AW.tableIn (dq rfl) (by rw [h12]; decide) (by rw [h12]; decide) (off := 64) (by rw [h12]; decide) (tgt := 87) (by decide) ?_
      show AW l (pI pg 194) P kc ks 87 [(0, .ref 58), (1, .int (x))] [] SHF _
      refine AW.aload_n (dq rfl) rfl rfl ?_
      show AW l (pI pg 194) P kc ks 88 _ _ SHF _
      refine fw_get (dq rfl) (pg_ok.2.1 194 _ _ _ _ rfl) rfl (v := .int (M3.1 58 4)) rfl ?_
      show AW l (pI pg 194) P kc ks 91 _ _ SHF _
      refine AW.iret (dq rfl) rfl ?_
      exact r13 y1 M1 e1 q1 y3 M3 e3 q3 h5 h6 h8 h10 h12
    by_cases h14 : (x : Int32) = Int32.ofInt 4
    · refine AW.tableIn (dq rfl) (by rw [h14]; decide) (by rw [h14]; decide) (off := 69) (by rw [h14]; decide) (tgt := 92) (by decide) ?_
      show AW l (pI pg 194) P kc ks 92 [(0, .ref 58), (1, .int (x))] [] SHF _
      refine AW.aload_n (dq rfl) rfl rfl ?_
      show AW l (pI pg 194) P kc ks 93 _ _ SHF _
      refine fw_get (dq rfl) (pg_ok.2.1 194 _ _ _ _ rfl) rfl (v := .int (M3.1 58 12)) rfl ?_
      show AW l (pI pg 194) P kc ks 96 _ _ SHF _
      refine AW.iret (dq rfl) rfl ?_
      exact r15 y1 M1 e1 q1 y3 M3 e3 q3 h5 h6 h8 h10 h12 h14
    by_cases h16 : (x : Int32) = Int32.ofInt 5
    · refine AW.tableIn (dq rfl) (by rw [h16]; decide) (by rw [h16]; decide) (off := 91) (by rw [h16]; decide) (tgt := 114) (by decide) ?_
      show AW l (pI pg 194) P kc ks 114 [(0, .ref 58), (1, .int (x))] [] SHF _
      refine AW.aload_n (dq rfl) rfl rfl ?_
      show AW l (pI pg 194) P kc ks 115 _ _ SHF _
      refine fw_get (dq rfl) (pg_ok.2.1 194 _ _ _ _ rfl) rfl (v := .ref 66) (isTA_ok rfl (rgR_ok hJ3 rfl)) ?_
      show AW l (pI pg 194) P kc ks 118 _ _ SHF _
      refine AW.iload_n (dq rfl) rfl ?_
      show AW l (pI pg 194) P kc ks 119 _ _ SHF _
      refine AW.iconst (dq rfl) ?_
      show AW l (pI pg 194) P kc ks 120 _ _ SHF _
      refine AW.isub (dq rfl) ?_
      show AW l (pI pg 194) P kc ks 121 _ _ SHF _
      refine AW.iald (dq rfl) rfl (o17 y1 M1 e1 q1 y3 M3 e3 q3 h5 h6 h8 h10 h12 h14 h16) ?_
      show AW l (pI pg 194) P kc ks 122 _ _ SHF _
      refine AW.iret (dq rfl) rfl ?_
      exact r18 y1 M1 e1 q1 y3 M3 e3 q3 h5 h6 h8 h10 h12 h14 h16
    by_cases h19 : (x : Int32) = Int32.ofInt 6
    · refine AW.tableIn (dq rfl) (by rw [h19]; decide) (by rw [h19]; decide) (off := 91) (by rw [h19]; decide) (tgt := 114) (by decide) ?_
      show AW l (pI pg 194) P kc ks 114 [(0, .ref 58), (1, .int (x))] [] SHF _
      refine AW.aload_n (dq rfl) rfl rfl ?_
      show AW l (pI pg 194) P kc ks 115 _ _ SHF _
      refine fw_get (dq rfl) (pg_ok.2.1 194 _ _ _ _ rfl) rfl (v := .ref 66) (isTA_ok rfl (rgR_ok hJ3 rfl)) ?_
      show AW l (pI pg 194) P kc ks 118 _ _ SHF _
      refine AW.iload_n (dq rfl) rfl ?_
      show AW l (pI pg 194) P kc ks 119 _ _ SHF _
      refine AW.iconst (dq rfl) ?_
      show AW l (pI pg 194) P kc ks 120 _ _ SHF _
      refine AW.isub (dq rfl) ?_
      show AW l (pI pg 194) P kc ks 121 _ _ SHF _
      refine AW.iald (dq rfl) rfl (o20 y1 M1 e1 q1 y3 M3 e3 q3 h5 h6 h8 h10 h12 h14 h16 h19) ?_
      show AW l (pI pg 194) P kc ks 122 _ _ SHF _
      refine AW.iret (dq rfl) rfl ?_
      exact r21 y1 M1 e1 q1 y3 M3 e3 q3 h5 h6 h8 h10 h12 h14 h16 h19
    by_cases h22 : (x : Int32) = Int32.ofInt 7
    · refine AW.tableIn (dq rfl) (by rw [h22]; decide) (by rw [h22]; decide) (off := 91) (by rw [h22]; decide) (tgt := 114) (by decide) ?_
      show AW l (pI pg 194) P kc ks 114 [(0, .ref 58), (1, .int (x))] [] SHF _
      refine AW.aload_n (dq rfl) rfl rfl ?_
      show AW l (pI pg 194) P kc ks 115 _ _ SHF _
      refine fw_get (dq rfl) (pg_ok.2.1 194 _ _ _ _ rfl) rfl (v := .ref 66) (isTA_ok rfl (rgR_ok hJ3 rfl)) ?_
      show AW l (pI pg 194) P kc ks 118 _ _ SHF _
      refine AW.iload_n (dq rfl) rfl ?_
      show AW l (pI pg 194) P kc ks 119 _ _ SHF _
      refine AW.iconst (dq rfl) ?_
      show AW l (pI pg 194) P kc ks 120 _ _ SHF _
      refine AW.isub (dq rfl) ?_
      show AW l (pI pg 194) P kc ks 121 _ _ SHF _
      refine AW.iald (dq rfl) rfl (o23 y1 M1 e1 q1 y3 M3 e3 q3 h5 h6 h8 h10 h12 h14 h16 h19 h22) ?_
      show AW l (pI pg 194) P kc ks 122 _ _ SHF _
      refine AW.iret (dq rfl) rfl ?_
      exact r24 y1 M1 e1 q1 y3 M3 e3 q3 h5 h6 h8 h10 h12 h14 h16 h19 h22
    by_cases h25 : (x : Int32) = Int32.ofInt 8
    · refine AW.tableIn (dq rfl) (by rw [h25]; decide) (by rw [h25]; decide) (off := 74) (by rw [h25]; decide) (tgt := 97) (by decide) ?_
      show AW l (pI pg 194) P kc ks 97 [(0, .ref 58), (1, .int (x))] [] SHF _
      refine AW.aload_n (dq rfl) rfl rfl ?_
      show AW l (pI pg 194) P kc ks 98 _ _ SHF _
      refine fw_get (dq rfl) (pg_ok.2.1 194 _ _ _ _ rfl) rfl (v := .int (M3.1 58 51)) rfl ?_
      show AW l (pI pg 194) P kc ks 101 _ _ SHF _
      refine AW.iconst (dq rfl) ?_
      show AW l (pI pg 194) P kc ks 102 _ _ SHF _
      refine AW.icmp_ne (dq rfl) (tgt := 109) (by decide) (fun h26 => ?_) (fun h26 => ?_)
      · have _ := h26
        refine AW.aload_n (dq rfl) rfl rfl ?_
        show AW l (pI pg 194) P kc ks 110 _ _ SHF _
        refine fw_get (dq rfl) (pg_ok.2.1 194 _ _ _ _ rfl) rfl (v := .int (M3.1 58 51)) rfl ?_
        show AW l (pI pg 194) P kc ks 113 _ _ SHF _
        refine AW.iret (dq rfl) rfl ?_
        exact r27 y1 M1 e1 q1 y3 M3 e3 q3 h5 h6 h8 h10 h12 h14 h16 h19 h22 h25 h26
      · have _ := h26
        refine AW.iconst (dq rfl) ?_
        show AW l (pI pg 194) P kc ks 106 _ _ SHF _
        refine AW.goto (dq rfl) (tgt := 113) (by decide) ?_
        refine AW.iret (dq rfl) rfl ?_
        exact r28 y1 M1 e1 q1 y3 M3 e3 q3 h5 h6 h8 h10 h12 h14 h16 h19 h22 h25 h26
    refine AW.tableOut (dq rfl) (tb_out8 h6 h8 h10 h12 h14 h16 h19 h22 h25) (tgt := 114) (by decide) ?_
    show AW l (pI pg 194) P kc ks 114 [(0, .ref 58), (1, .int (x))] [] SHF _
    refine AW.aload_n (dq rfl) rfl rfl ?_
    show AW l (pI pg 194) P kc ks 115 _ _ SHF _
    refine fw_get (dq rfl) (pg_ok.2.1 194 _ _ _ _ rfl) rfl (v := .ref 66) (isTA_ok rfl (rgR_ok hJ3 rfl)) ?_
    show AW l (pI pg 194) P kc ks 118 _ _ SHF _
    refine AW.iload_n (dq rfl) rfl ?_
    show AW l (pI pg 194) P kc ks 119 _ _ SHF _
    refine AW.iconst (dq rfl) ?_
    show AW l (pI pg 194) P kc ks 120 _ _ SHF _
    refine AW.isub (dq rfl) ?_
    show AW l (pI pg 194) P kc ks 121 _ _ SHF _
    refine AW.iald (dq rfl) rfl (o29 y1 M1 e1 q1 y3 M3 e3 q3 h5 h6 h8 h10 h12 h14 h16 h19 h22 h25) ?_
    show AW l (pI pg 194) P kc ks 122 _ _ SHF _
    refine AW.iret (dq rfl) rfl ?_
    exact r30 y1 M1 e1 q1 y3 M3 e3 q3 h5 h6 h8 h10 h12 h14 h16 h19 h22 h25
  · have _ := h5
    refine AW.iconst (dq rfl) ?_
    show AW l (pI pg 194) P kc ks 21 _ _ SHF _
    refine AW.iret (dq rfl) rfl ?_
    exact r31 y1 M1 e1 q1 y3 M3 e3 q3 h5

