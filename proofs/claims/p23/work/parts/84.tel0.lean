/-! stretches of what tells a house, printed by wip/gen/segs_q.py -/
def tcV (E : String) (M : aM) (B : Prop) : aP := fun r sh' M' => sh' = SHF ∧ M' = M ∧ ((r = .inr E ∧ B) ∨ (r = .inl none ∧ ¬ B))
def tcO (E : String) (M : aM) (o : Option Int32) : aP := fun r sh' M' => sh' = SHF ∧ M' = M ∧ ((o = none ∧ r = .inr E) ∨ ∃ y : Int32, o = some y ∧ r = .inl (some (.int y)))
section TC
variable {l : aL} {P : aP} {kc ks kc1 ks1 pc id jd np n i : Nat} {lv : List (Nat × Value)} {st as : List Value} {M : aM}
theorem fw_tcV {E : String} {B : Prop} (hd : decode (iC (pI pg id)) pc = .ok (.invokevirtual n, 3)) (hm : okM (pI pg id) (pI pg jd) n 0 np (pN pg jd)) (hi : SHF.2[i]? = some (.inl (pN pg jd))) (hr : room pg id jd = true) (hst : Nat.ble (cats st) 8 = true) (hl : as.length = np) (hc : AC l (pI pg jd) (tcV E M B) kc1 ks1 (.ref i :: as) SHF M) (ht : ∀ x ∈ iT (pI pg id), covers x pc = false) (kx : B → P (.inr E) SHF M)
    (kk : ¬ B → AW l (pI pg id) P kc ks (pc + 3) lv st SHF M) : AW l (pI pg id) P (kc + kc1) (ks + ks1) pc lv (as.reverse ++ .ref i :: st) SHF M := by
  obtain ⟨w1, w2, ⟨w, hq, hqc⟩, -⟩ := hm.1 rfl
  refine AW.callV (P1 := tcV E M B) hd hi hq hqc w1 ⟨by rw [hl]; exact w2, room_spec hr⟩ (Nat.le_of_ble_eq_true hst) hc (fun v sh' M' hp => ?_) (fun X sh' M' hp => ?_)
  · obtain ⟨rfl, rfl, ⟨h3, -⟩ | ⟨h3, h4⟩⟩ := hp
    · cases h3
    · cases h3
      exact kk h4
  · obtain ⟨rfl, rfl, ⟨h3, h4⟩ | ⟨h3, -⟩⟩ := hp
    · cases h3
      exact AX.out ht (kx h4)
    · cases h3
end TC
theorem tb_out {x : Int32} {m : Nat} (h : ∀ j : Nat, j ≤ m → ¬ x = nI j) : x.toInt < ((0 : Nat) : Int) ∨ (m : Int) < x.toInt := by
  by_cases h1 : x.toInt < 0
  · exact Or.inl h1
  · by_cases h2 : (m : Int) < x.toInt
    · exact Or.inr h2
    · exact absurd (nI_self (by omega)) (h x.toInt.toNat (by omega))
theorem tb_out2 {x : Int32} (h0 : ¬ x = Int32.ofInt 0) (h1 : ¬ x = Int32.ofInt 1) (h2 : ¬ x = Int32.ofInt 2) : x.toInt < 0 ∨ 2 < x.toInt := tb_out (m := 2) (fun j hj => match j, hj with
  | 0, _ => h0
  | 1, _ => h1
  | 2, _ => h2
  | j + 3, h => absurd h (by omega))
theorem tb_out3 {x : Int32} (h0 : ¬ x = Int32.ofInt 0) (h1 : ¬ x = Int32.ofInt 1) (h2 : ¬ x = Int32.ofInt 2) (h3 : ¬ x = Int32.ofInt 3) : x.toInt < 0 ∨ 3 < x.toInt := tb_out (m := 3) (fun j hj => match j, hj with
  | 0, _ => h0
  | 1, _ => h1
  | 2, _ => h2
  | 3, _ => h3
  | j + 4, h => absurd h (by omega))
theorem cpea_0 {l : aL} {P : aP} {kc ks : Nat} {x : Int32} {M : aM} (hJ : ∀ e ∈ RR.2, M.2.2 e.1 e.2.1 = e.2.2) (hl0 : l.1.stackTraces = false) (r3 : ∀ (h2 : ¬ (hpV (M.1 4 0) (x) : Int32) = 0), P (.inl none) SHF M) (x4 : ∀ (h2 : (hpV (M.1 4 0) (x) : Int32) = 0), P (.inr "java/util/NoSuchElementException") SHF M) : AW l (pI pg 90) P (kc + 1) (ks + 6) 0 [(0, .ref 0), (1, .int (x))] [] SHF M := by
  refine AW.aload_n (dq rfl) rfl rfl ?_
  show AW l (pI pg 90) P (kc + 1) (ks + 6) 1 _ _ SHF _
  refine fw_get (dq rfl) (pg_ok.2.1 90 _ _ _ _ rfl) rfl (v := .ref 4) (isTA_ok rfl (rgR_ok hJ rfl)) ?_
  show AW l (pI pg 90) P (kc + 1) (ks + 6) 4 _ _ SHF _
  refine AW.iload_n (dq rfl) rfl ?_
  show AW l (pI pg 90) P (kc + 1) (ks + 6) 5 _ _ SHF _
  refine fw_callVI (as := [.int (x)]) (dq rfl) (pg_ok.2.2.1 90 _ _ _ _ rfl) rfl (by decide +kernel) rfl rfl (hpeA_c hl0 (fun e he => hJ e (rk_RR e he))) (fun y1 M1 e1 q1 => ?_)
  obtain ⟨rfl, rfl⟩ := q1
  show AW l (pI pg 90) P (kc + 1) (ks + 6) 8 [(0, .ref 0), (1, .int (x))] [.int (hpV (M.1 4 0) (x))] SHF _
  refine AW.if_ne (dq rfl) (tgt := 22) (by decide) (fun h2 => ?_) (fun h2 => ?_)
  · have _ := h2
    refine AW.vret (dq rfl) rfl ?_
    exact r3 h2
  · have _ := h2
    refine pg_ok.2.2.2.2.2.2.2.1 90 _ _ rfl _ _ _ _ _ _ _ ?_
    exact x4 h2

theorem cwoa_0 {l : aL} {P : aP} {kc ks : Nat} {x : Int32} {M : aM} (hJ : ∀ e ∈ RR.2, M.2.2 e.1 e.2.1 = e.2.2) (hl0 : l.1.stackTraces = false) (r3 : ∀ (h2 : ¬ (hpV (M.1 4 1) (x) : Int32) = 0), P (.inl none) SHF M) (x4 : ∀ (h2 : (hpV (M.1 4 1) (x) : Int32) = 0), P (.inr "java/util/NoSuchElementException") SHF M) : AW l (pI pg 93) P (kc + 1) (ks + 6) 0 [(0, .ref 0), (1, .int (x))] [] SHF M := by
  refine AW.aload_n (dq rfl) rfl rfl ?_
  show AW l (pI pg 93) P (kc + 1) (ks + 6) 1 _ _ SHF _
  refine fw_get (dq rfl) (pg_ok.2.1 93 _ _ _ _ rfl) rfl (v := .ref 4) (isTA_ok rfl (rgR_ok hJ rfl)) ?_
  show AW l (pI pg 93) P (kc + 1) (ks + 6) 4 _ _ SHF _
  refine AW.iload_n (dq rfl) rfl ?_
  show AW l (pI pg 93) P (kc + 1) (ks + 6) 5 _ _ SHF _
  refine fw_callVI (as := [.int (x)]) (dq rfl) (pg_ok.2.2.1 93 _ _ _ _ rfl) rfl (by decide +kernel) rfl rfl (hwoA_c hl0 (fun e he => hJ e (rk_RR e he))) (fun y1 M1 e1 q1 => ?_)
  obtain ⟨rfl, rfl⟩ := q1
  show AW l (pI pg 93) P (kc + 1) (ks + 6) 8 [(0, .ref 0), (1, .int (x))] [.int (hpV (M.1 4 1) (x))] SHF _
  refine AW.if_ne (dq rfl) (tgt := 22) (by decide) (fun h2 => ?_) (fun h2 => ?_)
  · have _ := h2
    refine AW.vret (dq rfl) rfl ?_
    exact r3 h2
  · have _ := h2
    refine pg_ok.2.2.2.2.2.2.2.1 93 _ _ rfl _ _ _ _ _ _ _ ?_
    exact x4 h2

theorem pera_0 {l : aL} {P : aP} {kc ks : Nat} {x y : Int32} {M : aM} (hJ : ∀ e ∈ RR.2, M.2.2 e.1 e.2.1 = e.2.2) (hl0 : l.1.stackTraces = false) (B1 : Prop) (c2 : AC l (pI pg 90) (tcV "java/util/NoSuchElementException" M B1) 1 6 [.ref 0, .int (x)] SHF M) (x3 : B1 → P (.inr "java/util/NoSuchElementException") SHF M) (o5 : ∀ (b1 : ¬ B1), ∀ (h4 : (y : Int32) = Int32.ofInt 0), vp_in (x) 6) (r6 : ∀ (b1 : ¬ B1), ∀ (h4 : (y : Int32) = Int32.ofInt 0), P (.inl (some (.int (M.1 5 (x).toNatClampNeg)))) SHF M) (o8 : ∀ (b1 : ¬ B1), ∀ (h4 : ¬ (y : Int32) = Int32.ofInt 0), ∀ (h7 : (y : Int32) = Int32.ofInt 1), vp_in (x) 6) (r9 : ∀ (b1 : ¬ B1), ∀ (h4 : ¬ (y : Int32) = Int32.ofInt 0), ∀ (h7 : (y : Int32) = Int32.ofInt 1), P (.inl (some (.int (M.1 6 (x).toNatClampNeg)))) SHF M) (o11 : ∀ (b1 : ¬ B1), ∀ (h4 : ¬ (y : Int32) = Int32.ofInt 0), ∀ (h7 : ¬ (y : Int32) = Int32.ofInt 1), ∀ (h10 : (y : Int32) = Int32.ofInt 2), vp_in (x) 6) (r12 : ∀ (b1 : ¬ B1), ∀ (h4 : ¬ (y : Int32) = Int32.ofInt 0), ∀ (h7 : ¬ (y : Int32) = Int32.ofInt 1), ∀ (h10 : (y : Int32) = Int32.ofInt 2), P (.inl (some (.int (M.1 7 (x).toNatClampNeg)))) SHF M) (x13 : ∀ (b1 : ¬ B1), ∀ (h4 : ¬ (y : Int32) = Int32.ofInt 0), ∀ (h7 : ¬ (y : Int32) = Int32.ofInt 1), ∀ (h10 : ¬ (y : Int32) = Int32.ofInt 2), P (.inr "java/util/NoSuchElementException") SHF M) : AW l (pI pg 89) P (kc + 1 + 1) (ks + 6 + 6) 0 [(0, .ref 0), (1, .int (x)), (2, .int (y))] [] SHF M := by
  refine AW.aload_n (dq rfl) rfl rfl ?_
  show AW l (pI pg 89) P (kc + 1 + 1) (ks + 6 + 6) 1 _ _ SHF _
  refine AW.iload_n (dq rfl) rfl ?_
  show AW l (pI pg 89) P (kc + 1 + 1) (ks + 6 + 6) 2 _ _ SHF _
  refine fw_tcV (as := [.int (x)]) (dq rfl) (pg_ok.2.2.1 89 _ _ _ _ rfl) rfl (by decide +kernel) rfl rfl (c2) (by decide +kernel) (x3) (fun b1 => ?_)
  show AW l (pI pg 89) P (kc + 1) (ks + 6) 5 [(0, .ref 0), (1, .int (x)), (2, .int (y))] [] SHF _
  refine AW.iload_n (dq rfl) rfl ?_
  show AW l (pI pg 89) P (kc + 1) (ks + 6) 6 _ _ SHF _
  by_cases h4 : (y : Int32) = Int32.ofInt 0
  · refine AW.tableIn (dq rfl) (by rw [h4]; decide) (by rw [h4]; decide) (off := 26) (by rw [h4]; decide) (tgt := 32) (by decide) ?_
    show AW l (pI pg 89) P (kc + 1) (ks + 6) 32 [(0, .ref 0), (1, .int (x)), (2, .int (y))] [] SHF _
    refine AW.aload_n (dq rfl) rfl rfl ?_
    show AW l (pI pg 89) P (kc + 1) (ks + 6) 33 _ _ SHF _
    refine fw_get (dq rfl) (pg_ok.2.1 89 _ _ _ _ rfl) rfl (v := .ref 4) (isTA_ok rfl (rgR_ok hJ rfl)) ?_
    show AW l (pI pg 89) P (kc + 1) (ks + 6) 36 _ _ SHF _
    refine fw_get (dq rfl) (pg_ok.2.1 89 _ _ _ _ rfl) rfl (v := .ref 5) (isTA_ok rfl (rgR_ok hJ rfl)) ?_
    show AW l (pI pg 89) P (kc + 1) (ks + 6) 39 _ _ SHF _
    refine AW.iload_n (dq rfl) rfl ?_
    show AW l (pI pg 89) P (kc + 1) (ks + 6) 40 _ _ SHF _
    refine AW.iald (dq rfl) rfl (o5 b1 h4) ?_
    show AW l (pI pg 89) P (kc + 1) (ks + 6) 41 _ _ SHF _
    refine AW.iret (dq rfl) rfl ?_
    exact r6 b1 h4
  by_cases h7 : (y : Int32) = Int32.ofInt 1
  · refine AW.tableIn (dq rfl) (by rw [h7]; decide) (by rw [h7]; decide) (off := 36) (by rw [h7]; decide) (tgt := 42) (by decide) ?_
    show AW l (pI pg 89) P (kc + 1) (ks + 6) 42 [(0, .ref 0), (1, .int (x)), (2, .int (y))] [] SHF _
    refine AW.aload_n (dq rfl) rfl rfl ?_
    show AW l (pI pg 89) P (kc + 1) (ks + 6) 43 _ _ SHF _
    refine fw_get (dq rfl) (pg_ok.2.1 89 _ _ _ _ rfl) rfl (v := .ref 4) (isTA_ok rfl (rgR_ok hJ rfl)) ?_
    show AW l (pI pg 89) P (kc + 1) (ks + 6) 46 _ _ SHF _
    refine fw_get (dq rfl) (pg_ok.2.1 89 _ _ _ _ rfl) rfl (v := .ref 6) (isTA_ok rfl (rgR_ok hJ rfl)) ?_
    show AW l (pI pg 89) P (kc + 1) (ks + 6) 49 _ _ SHF _
    refine AW.iload_n (dq rfl) rfl ?_
    show AW l (pI pg 89) P (kc + 1) (ks + 6) 50 _ _ SHF _
    refine AW.iald (dq rfl) rfl (o8 b1 h4 h7) ?_
    show AW l (pI pg 89) P (kc + 1) (ks + 6) 51 _ _ SHF _
    refine AW.iret (dq rfl) rfl ?_
    exact r9 b1 h4 h7
  by_cases h10 : (y : Int32) = Int32.ofInt 2
  · refine AW.tableIn (dq rfl) (by rw [h10]; decide) (by rw [h10]; decide) (off := 46) (by rw [h10]; decide) (tgt := 52) (by decide) ?_
    show AW l (pI pg 89) P (kc + 1) (ks + 6) 52 [(0, .ref 0), (1, .int (x)), (2, .int (y))] [] SHF _
    refine AW.aload_n (dq rfl) rfl rfl ?_
    show AW l (pI pg 89) P (kc + 1) (ks + 6) 53 _ _ SHF _
    refine fw_get (dq rfl) (pg_ok.2.1 89 _ _ _ _ rfl) rfl (v := .ref 4) (isTA_ok rfl (rgR_ok hJ rfl)) ?_
    show AW l (pI pg 89) P (kc + 1) (ks + 6) 56 _ _ SHF _
    refine fw_get (dq rfl) (pg_ok.2.1 89 _ _ _ _ rfl) rfl (v := .ref 7) (isTA_ok rfl (rgR_ok hJ rfl)) ?_
    show AW l (pI pg 89) P (kc + 1) (ks + 6) 59 _ _ SHF _
    refine AW.iload_n (dq rfl) rfl ?_
    show AW l (pI pg 89) P (kc + 1) (ks + 6) 60 _ _ SHF _
    refine AW.iald (dq rfl) rfl (o11 b1 h4 h7 h10) ?_
    show AW l (pI pg 89) P (kc + 1) (ks + 6) 61 _ _ SHF _
    refine AW.iret (dq rfl) rfl ?_
    exact r12 b1 h4 h7 h10
  refine AW.tableOut (dq rfl) (tb_out2 h4 h7 h10) (tgt := 62) (by decide) ?_
  show AW l (pI pg 89) P (kc + 1) (ks + 6) 62 [(0, .ref 0), (1, .int (x)), (2, .int (y))] [] SHF _
  refine pg_ok.2.2.2.2.2.2.2.1 89 _ _ rfl _ _ _ _ _ _ _ ?_
  exact x13 b1 h4 h7 h10

theorem wora_0 {l : aL} {P : aP} {kc ks : Nat} {x y : Int32} {M : aM} (hJ : ∀ e ∈ RR.2, M.2.2 e.1 e.2.1 = e.2.2) (hl0 : l.1.stackTraces = false) (B1 : Prop) (c2 : AC l (pI pg 93) (tcV "java/util/NoSuchElementException" M B1) 1 6 [.ref 0, .int (x)] SHF M) (x3 : B1 → P (.inr "java/util/NoSuchElementException") SHF M) (o5 : ∀ (b1 : ¬ B1), ∀ (h4 : (y : Int32) = Int32.ofInt 0), vp_in (x) 8) (r6 : ∀ (b1 : ¬ B1), ∀ (h4 : (y : Int32) = Int32.ofInt 0), P (.inl (some (.int (M.1 9 (x).toNatClampNeg)))) SHF M) (o8 : ∀ (b1 : ¬ B1), ∀ (h4 : ¬ (y : Int32) = Int32.ofInt 0), ∀ (h7 : (y : Int32) = Int32.ofInt 1), vp_in (x) 8) (r9 : ∀ (b1 : ¬ B1), ∀ (h4 : ¬ (y : Int32) = Int32.ofInt 0), ∀ (h7 : (y : Int32) = Int32.ofInt 1), P (.inl (some (.int (M.1 10 (x).toNatClampNeg)))) SHF M) (o11 : ∀ (b1 : ¬ B1), ∀ (h4 : ¬ (y : Int32) = Int32.ofInt 0), ∀ (h7 : ¬ (y : Int32) = Int32.ofInt 1), ∀ (h10 : (y : Int32) = Int32.ofInt 2), vp_in (x) 8) (r12 : ∀ (b1 : ¬ B1), ∀ (h4 : ¬ (y : Int32) = Int32.ofInt 0), ∀ (h7 : ¬ (y : Int32) = Int32.ofInt 1), ∀ (h10 : (y : Int32) = Int32.ofInt 2), P (.inl (some (.int (M.1 11 (x).toNatClampNeg)))) SHF M) (x13 : ∀ (b1 : ¬ B1), ∀ (h4 : ¬ (y : Int32) = Int32.ofInt 0), ∀ (h7 : ¬ (y : Int32) = Int32.ofInt 1), ∀ (h10 : ¬ (y : Int32) = Int32.ofInt 2), P (.inr "java/util/NoSuchElementException") SHF M) : AW l (pI pg 92) P (kc + 1 + 1) (ks + 6 + 6) 0 [(0, .ref 0), (1, .int (x)), (2, .int (y))] [] SHF M := by
  refine AW.aload_n (dq rfl) rfl rfl ?_
  show AW l (pI pg 92) P (kc + 1 + 1) (ks + 6 + 6) 1 _ _ SHF _
  refine AW.iload_n (dq rfl) rfl ?_
  show AW l (pI pg 92) P (kc + 1 + 1) (ks + 6 + 6) 2 _ _ SHF _
  refine fw_tcV (as := [.int (x)]) (dq rfl) (pg_ok.2.2.1 92 _ _ _ _ rfl) rfl (by decide +kernel) rfl rfl (c2) (by decide +kernel) (x3) (fun b1 => ?_)
  show AW l (pI pg 92) P (kc + 1) (ks + 6) 5 [(0, .ref 0), (1, .int (x)), (2, .int (y))] [] SHF _
  refine AW.iload_n (dq rfl) rfl ?_
  show AW l (pI pg 92) P (kc + 1) (ks + 6) 6 _ _ SHF _
  by_cases h4 : (y : Int32) = Int32.ofInt 0
  · refine AW.tableIn (dq rfl) (by rw [h4]; decide) (by rw [h4]; decide) (off := 26) (by rw [h4]; decide) (tgt := 32) (by decide) ?_
    show AW l (pI pg 92) P (kc + 1) (ks + 6) 32 [(0, .ref 0), (1, .int (x)), (2, .int (y))] [] SHF _
    refine AW.aload_n (dq rfl) rfl rfl ?_
    show AW l (pI pg 92) P (kc + 1) (ks + 6) 33 _ _ SHF _
    refine fw_get (dq rfl) (pg_ok.2.1 92 _ _ _ _ rfl) rfl (v := .ref 4) (isTA_ok rfl (rgR_ok hJ rfl)) ?_
    show AW l (pI pg 92) P (kc + 1) (ks + 6) 36 _ _ SHF _
    refine fw_get (dq rfl) (pg_ok.2.1 92 _ _ _ _ rfl) rfl (v := .ref 9) (isTA_ok rfl (rgR_ok hJ rfl)) ?_
    show AW l (pI pg 92) P (kc + 1) (ks + 6) 39 _ _ SHF _
    refine AW.iload_n (dq rfl) rfl ?_
    show AW l (pI pg 92) P (kc + 1) (ks + 6) 40 _ _ SHF _
    refine AW.iald (dq rfl) rfl (o5 b1 h4) ?_
    show AW l (pI pg 92) P (kc + 1) (ks + 6) 41 _ _ SHF _
    refine AW.iret (dq rfl) rfl ?_
    exact r6 b1 h4
  by_cases h7 : (y : Int32) = Int32.ofInt 1
  · refine AW.tableIn (dq rfl) (by rw [h7]; decide) (by rw [h7]; decide) (off := 36) (by rw [h7]; decide) (tgt := 42) (by decide) ?_
    show AW l (pI pg 92) P (kc + 1) (ks + 6) 42 [(0, .ref 0), (1, .int (x)), (2, .int (y))] [] SHF _
    refine AW.aload_n (dq rfl) rfl rfl ?_
    show AW l (pI pg 92) P (kc + 1) (ks + 6) 43 _ _ SHF _
    refine fw_get (dq rfl) (pg_ok.2.1 92 _ _ _ _ rfl) rfl (v := .ref 4) (isTA_ok rfl (rgR_ok hJ rfl)) ?_
    show AW l (pI pg 92) P (kc + 1) (ks + 6) 46 _ _ SHF _
    refine fw_get (dq rfl) (pg_ok.2.1 92 _ _ _ _ rfl) rfl (v := .ref 10) (isTA_ok rfl (rgR_ok hJ rfl)) ?_
    show AW l (pI pg 92) P (kc + 1) (ks + 6) 49 _ _ SHF _
    refine AW.iload_n (dq rfl) rfl ?_
    show AW l (pI pg 92) P (kc + 1) (ks + 6) 50 _ _ SHF _
    refine AW.iald (dq rfl) rfl (o8 b1 h4 h7) ?_
    show AW l (pI pg 92) P (kc + 1) (ks + 6) 51 _ _ SHF _
    refine AW.iret (dq rfl) rfl ?_
    exact r9 b1 h4 h7
  by_cases h10 : (y : Int32) = Int32.ofInt 2
  · refine AW.tableIn (dq rfl) (by rw [h10]; decide) (by rw [h10]; decide) (off := 46) (by rw [h10]; decide) (tgt := 52) (by decide) ?_
    show AW l (pI pg 92) P (kc + 1) (ks + 6) 52 [(0, .ref 0), (1, .int (x)), (2, .int (y))] [] SHF _
    refine AW.aload_n (dq rfl) rfl rfl ?_
    show AW l (pI pg 92) P (kc + 1) (ks + 6) 53 _ _ SHF _
    refine fw_get (dq rfl) (pg_ok.2.1 92 _ _ _ _ rfl) rfl (v := .ref 4) (isTA_ok rfl (rgR_ok hJ rfl)) ?_
    show AW l (pI pg 92) P (kc + 1) (ks + 6) 56 _ _ SHF _
    refine fw_get (dq rfl) (pg_ok.2.1 92 _ _ _ _ rfl) rfl (v := .ref 11) (isTA_ok rfl (rgR_ok hJ rfl)) ?_
    show AW l (pI pg 92) P (kc + 1) (ks + 6) 59 _ _ SHF _
    refine AW.iload_n (dq rfl) rfl ?_
    show AW l (pI pg 92) P (kc + 1) (ks + 6) 60 _ _ SHF _
    refine AW.iald (dq rfl) rfl (o11 b1 h4 h7 h10) ?_
    show AW l (pI pg 92) P (kc + 1) (ks + 6) 61 _ _ SHF _
    refine AW.iret (dq rfl) rfl ?_
    exact r12 b1 h4 h7 h10
  refine AW.tableOut (dq rfl) (tb_out2 h4 h7 h10) (tgt := 62) (by decide) ?_
  show AW l (pI pg 92) P (kc + 1) (ks + 6) 62 [(0, .ref 0), (1, .int (x)), (2, .int (y))] [] SHF _
  refine pg_ok.2.2.2.2.2.2.2.1 92 _ _ rfl _ _ _ _ _ _ _ ?_
  exact x13 b1 h4 h7 h10

theorem skia_0 {l : aL} {P : aP} {kc ks : Nat} {x y : Int32} {M : aM} (hJ : ∀ e ∈ RR.2, M.2.2 e.1 e.2.1 = e.2.2) (hl0 : l.1.stackTraces = false) (B1 : Prop) (c2 : AC l (pI pg 90) (tcV "java/util/NoSuchElementException" M B1) 1 6 [.ref 0, .int (x)] SHF M) (x3 : B1 → P (.inr "java/util/NoSuchElementException") SHF M) (B4 : Prop) (c5 : ∀ (b1 : ¬ B1), AC l (pI pg 93) (tcV "java/util/NoSuchElementException" M B4) 1 6 [.ref 0, .int (y)] SHF M) (x6 : ∀ (b1 : ¬ B1), B4 → P (.inr "java/util/NoSuchElementException") SHF M) (o7 : ∀ (b1 : ¬ B1), ∀ (b4 : ¬ B4), vp_in (((x) * ((Int8.ofInt 8).toInt32)) + (y)) 48) (r8 : ∀ (b1 : ¬ B1), ∀ (b4 : ¬ B4), P (.inl (some (.int (M.1 12 (((x) * ((Int8.ofInt 8).toInt32)) + (y)).toNatClampNeg)))) SHF M) : AW l (pI pg 95) P (kc + 1 + 1) (ks + 6 + 6) 0 [(0, .ref 0), (1, .int (x)), (2, .int (y))] [] SHF M := by
  refine AW.aload_n (dq rfl) rfl rfl ?_
  show AW l (pI pg 95) P (kc + 1 + 1) (ks + 6 + 6) 1 _ _ SHF _
  refine AW.iload_n (dq rfl) rfl ?_
  show AW l (pI pg 95) P (kc + 1 + 1) (ks + 6 + 6) 2 _ _ SHF _
  refine fw_tcV (as := [.int (x)]) (dq rfl) (pg_ok.2.2.1 95 _ _ _ _ rfl) rfl (by decide +kernel) rfl rfl (c2) (by decide +kernel) (x3) (fun b1 => ?_)
  show AW l (pI pg 95) P (kc + 1) (ks + 6) 5 [(0, .ref 0), (1, .int (x)), (2, .int (y))] [] SHF _
  refine AW.aload_n (dq rfl) rfl rfl ?_
  show AW l (pI pg 95) P (kc + 1) (ks + 6) 6 _ _ SHF _
  refine AW.iload_n (dq rfl) rfl ?_
  show AW l (pI pg 95) P (kc + 1) (ks + 6) 7 _ _ SHF _
  refine fw_tcV (as := [.int (y)]) (dq rfl) (pg_ok.2.2.1 95 _ _ _ _ rfl) rfl (by decide +kernel) rfl rfl (c5 b1) (by decide +kernel) (x6 b1) (fun b4 => ?_)
  show AW l (pI pg 95) P kc ks 10 [(0, .ref 0), (1, .int (x)), (2, .int (y))] [] SHF _
  refine AW.aload_n (dq rfl) rfl rfl ?_
  show AW l (pI pg 95) P kc ks 11 _ _ SHF _
  refine fw_get (dq rfl) (pg_ok.2.1 95 _ _ _ _ rfl) rfl (v := .ref 4) (isTA_ok rfl (rgR_ok hJ rfl)) ?_
  show AW l (pI pg 95) P kc ks 14 _ _ SHF _
  refine fw_get (dq rfl) (pg_ok.2.1 95 _ _ _ _ rfl) rfl (v := .ref 12) (isTA_ok rfl (rgR_ok hJ rfl)) ?_
  show AW l (pI pg 95) P kc ks 17 _ _ SHF _
  refine AW.iload_n (dq rfl) rfl ?_
  show AW l (pI pg 95) P kc ks 18 _ _ SHF _
  refine AW.bipush (dq rfl) ?_
  show AW l (pI pg 95) P kc ks 20 _ _ SHF _
  refine AW.imul (dq rfl) ?_
  show AW l (pI pg 95) P kc ks 21 _ _ SHF _
  refine AW.iload_n (dq rfl) rfl ?_
  show AW l (pI pg 95) P kc ks 22 _ _ SHF _
  refine AW.iadd (dq rfl) ?_
  show AW l (pI pg 95) P kc ks 23 _ _ SHF _
  refine AW.iald (dq rfl) rfl (o7 b1 b4) ?_
  show AW l (pI pg 95) P kc ks 24 _ _ SHF _
  refine AW.iret (dq rfl) rfl ?_
  exact r8 b1 b4

theorem teaa_0 {l : aL} {P : aP} {kc ks : Nat} {x y : Int32} {M : aM} (hJ : ∀ e ∈ RR.2, M.2.2 e.1 e.2.1 = e.2.2) (hl0 : l.1.stackTraces = false) (x2 : ∀ (h1 : (x : Int32) < 0), P (.inr "java/util/NoSuchElementException") SHF M) (o5 : ∀ (h1 : ¬ ((x : Int32) < 0)), ∀ (h3 : (x : Int32) < (M.1 4 2 : Int32)), ∀ (h4 : (y : Int32) = Int32.ofInt 0), vp_in (x) 8) (r6 : ∀ (h1 : ¬ ((x : Int32) < 0)), ∀ (h3 : (x : Int32) < (M.1 4 2 : Int32)), ∀ (h4 : (y : Int32) = Int32.ofInt 0), P (.inl (some (.int (M.1 13 (x).toNatClampNeg)))) SHF M) (o8 : ∀ (h1 : ¬ ((x : Int32) < 0)), ∀ (h3 : (x : Int32) < (M.1 4 2 : Int32)), ∀ (h4 : ¬ (y : Int32) = Int32.ofInt 0), ∀ (h7 : (y : Int32) = Int32.ofInt 1), vp_in (x) 8) (r9 : ∀ (h1 : ¬ ((x : Int32) < 0)), ∀ (h3 : (x : Int32) < (M.1 4 2 : Int32)), ∀ (h4 : ¬ (y : Int32) = Int32.ofInt 0), ∀ (h7 : (y : Int32) = Int32.ofInt 1), P (.inl (some (.int (M.1 14 (x).toNatClampNeg)))) SHF M) (o11 : ∀ (h1 : ¬ ((x : Int32) < 0)), ∀ (h3 : (x : Int32) < (M.1 4 2 : Int32)), ∀ (h4 : ¬ (y : Int32) = Int32.ofInt 0), ∀ (h7 : ¬ (y : Int32) = Int32.ofInt 1), ∀ (h10 : (y : Int32) = Int32.ofInt 2), vp_in (x) 8) (r12 : ∀ (h1 : ¬ ((x : Int32) < 0)), ∀ (h3 : (x : Int32) < (M.1 4 2 : Int32)), ∀ (h4 : ¬ (y : Int32) = Int32.ofInt 0), ∀ (h7 : ¬ (y : Int32) = Int32.ofInt 1), ∀ (h10 : (y : Int32) = Int32.ofInt 2), P (.inl (some (.int (M.1 15 (x).toNatClampNeg)))) SHF M) (o14 : ∀ (h1 : ¬ ((x : Int32) < 0)), ∀ (h3 : (x : Int32) < (M.1 4 2 : Int32)), ∀ (h4 : ¬ (y : Int32) = Int32.ofInt 0), ∀ (h7 : ¬ (y : Int32) = Int32.ofInt 1), ∀ (h10 : ¬ (y : Int32) = Int32.ofInt 2), ∀ (h13 : (y : Int32) = Int32.ofInt 3), vp_in (x) 8) (r15 : ∀ (h1 : ¬ ((x : Int32) < 0)), ∀ (h3 : (x : Int32) < (M.1 4 2 : Int32)), ∀ (h4 : ¬ (y : Int32) = Int32.ofInt 0), ∀ (h7 : ¬ (y : Int32) = Int32.ofInt 1), ∀ (h10 : ¬ (y : Int32) = Int32.ofInt 2), ∀ (h13 : (y : Int32) = Int32.ofInt 3), P (.inl (some (.int (M.1 16 (x).toNatClampNeg)))) SHF M) (x16 : ∀ (h1 : ¬ ((x : Int32) < 0)), ∀ (h3 : (x : Int32) < (M.1 4 2 : Int32)), ∀ (h4 : ¬ (y : Int32) = Int32.ofInt 0), ∀ (h7 : ¬ (y : Int32) = Int32.ofInt 1), ∀ (h10 : ¬ (y : Int32) = Int32.ofInt 2), ∀ (h13 : ¬ (y : Int32) = Int32.ofInt 3), P (.inr "java/util/NoSuchElementException") SHF M) (x17 : ∀ (h1 : ¬ ((x : Int32) < 0)), ∀ (h3 : ¬ ((x : Int32) < (M.1 4 2 : Int32))), P (.inr "java/util/NoSuchElementException") SHF M) : AW l (pI pg 97) P (kc + 1) (ks + 6) 0 [(0, .ref 0), (1, .int (x)), (2, .int (y))] [] SHF M := by
  refine AW.iload_n (dq rfl) rfl ?_
  show AW l (pI pg 97) P (kc + 1) (ks + 6) 1 _ _ SHF _
  refine AW.if_lt (dq rfl) (tgt := 15) (by decide) (fun h1 => ?_) (fun h1 => ?_)
  · have _ := h1
    refine pg_ok.2.2.2.2.2.2.2.1 97 _ _ rfl _ _ _ _ _ _ _ ?_
    exact x2 h1
  · have _ := h1
    refine AW.iload_n (dq rfl) rfl ?_
    show AW l (pI pg 97) P (kc + 1) (ks + 6) 5 _ _ SHF _
    refine AW.aload_n (dq rfl) rfl rfl ?_
    show AW l (pI pg 97) P (kc + 1) (ks + 6) 6 _ _ SHF _
    refine fw_get (dq rfl) (pg_ok.2.1 97 _ _ _ _ rfl) rfl (v := .ref 4) (isTA_ok rfl (rgR_ok hJ rfl)) ?_
    show AW l (pI pg 97) P (kc + 1) (ks + 6) 9 _ _ SHF _
    refine fw_get (dq rfl) (pg_ok.2.1 97 _ _ _ _ rfl) rfl (v := .int (M.1 4 2)) rfl ?_
    show AW l (pI pg 97) P (kc + 1) (ks + 6) 12 _ _ SHF _
    refine AW.icmp_lt (dq rfl) (tgt := 25) (by decide) (fun h3 => ?_) (fun h3 => ?_)
    · have _ := h3
      refine AW.iload_n (dq rfl) rfl ?_
      show AW l (pI pg 97) P (kc + 1) (ks + 6) 26 _ _ SHF _
      by_cases h4 : (y : Int32) = Int32.ofInt 0
      · refine AW.tableIn (dq rfl) (by rw [h4]; decide) (by rw [h4]; decide) (off := 30) (by rw [h4]; decide) (tgt := 56) (by decide) ?_
        show AW l (pI pg 97) P (kc + 1) (ks + 6) 56 [(0, .ref 0), (1, .int (x)), (2, .int (y))] [] SHF _
        refine AW.aload_n (dq rfl) rfl rfl ?_
        show AW l (pI pg 97) P (kc + 1) (ks + 6) 57 _ _ SHF _
        refine fw_get (dq rfl) (pg_ok.2.1 97 _ _ _ _ rfl) rfl (v := .ref 4) (isTA_ok rfl (rgR_ok hJ rfl)) ?_
        show AW l (pI pg 97) P (kc + 1) (ks + 6) 60 _ _ SHF _
        refine fw_get (dq rfl) (pg_ok.2.1 97 _ _ _ _ rfl) rfl (v := .ref 13) (isTA_ok rfl (rgR_ok hJ rfl)) ?_
        show AW l (pI pg 97) P (kc + 1) (ks + 6) 63 _ _ SHF _
        refine AW.iload_n (dq rfl) rfl ?_
        show AW l (pI pg 97) P (kc + 1) (ks + 6) 64 _ _ SHF _
        refine AW.iald (dq rfl) rfl (o5 h1 h3 h4) ?_
        show AW l (pI pg 97) P (kc + 1) (ks + 6) 65 _ _ SHF _
        refine AW.iret (dq rfl) rfl ?_
        exact r6 h1 h3 h4
      by_cases h7 : (y : Int32) = Int32.ofInt 1
      · refine AW.tableIn (dq rfl) (by rw [h7]; decide) (by rw [h7]; decide) (off := 40) (by rw [h7]; decide) (tgt := 66) (by decide) ?_
        show AW l (pI pg 97) P (kc + 1) (ks + 6) 66 [(0, .ref 0), (1, .int (x)), (2, .int (y))] [] SHF _
        refine AW.aload_n (dq rfl) rfl rfl ?_
        show AW l (pI pg 97) P (kc + 1) (ks + 6) 67 _ _ SHF _
        refine fw_get (dq rfl) (pg_ok.2.1 97 _ _ _ _ rfl) rfl (v := .ref 4) (isTA_ok rfl (rgR_ok hJ rfl)) ?_
        show AW l (pI pg 97) P (kc + 1) (ks + 6) 70 _ _ SHF _
        refine fw_get (dq rfl) (pg_ok.2.1 97 _ _ _ _ rfl) rfl (v := .ref 14) (isTA_ok rfl (rgR_ok hJ rfl)) ?_
        show AW l (pI pg 97) P (kc + 1) (ks + 6) 73 _ _ SHF _
        refine AW.iload_n (dq rfl) rfl ?_
        show AW l (pI pg 97) P (kc + 1) (ks + 6) 74 _ _ SHF _
        refine AW.iald (dq rfl) rfl (o8 h1 h3 h4 h7) ?_
        show AW l (pI pg 97) P (kc + 1) (ks + 6) 75 _ _ SHF _
        refine AW.iret (dq rfl) rfl ?_
        exact r9 h1 h3 h4 h7
      by_cases h10 : (y : Int32) = Int32.ofInt 2
      · refine AW.tableIn (dq rfl) (by rw [h10]; decide) (by rw [h10]; decide) (off := 50) (by rw [h10]; decide) (tgt := 76) (by decide) ?_
        show AW l (pI pg 97) P (kc + 1) (ks + 6) 76 [(0, .ref 0), (1, .int (x)), (2, .int (y))] [] SHF _
        refine AW.aload_n (dq rfl) rfl rfl ?_
        show AW l (pI pg 97) P (kc + 1) (ks + 6) 77 _ _ SHF _
        refine fw_get (dq rfl) (pg_ok.2.1 97 _ _ _ _ rfl) rfl (v := .ref 4) (isTA_ok rfl (rgR_ok hJ rfl)) ?_
        show AW l (pI pg 97) P (kc + 1) (ks + 6) 80 _ _ SHF _
        refine fw_get (dq rfl) (pg_ok.2.1 97 _ _ _ _ rfl) rfl (v := .ref 15) (isTA_ok rfl (rgR_ok hJ rfl)) ?_
        show AW l (pI pg 97) P (kc + 1) (ks + 6) 83 _ _ SHF _
        refine AW.iload_n (dq rfl) rfl ?_
        show AW l (pI pg 97) P (kc + 1) (ks + 6) 84 _ _ SHF _
        refine AW.iald (dq rfl) rfl (o11 h1 h3 h4 h7 h10) ?_
        show AW l (pI pg 97) P (kc + 1) (ks + 6) 85 _ _ SHF _
        refine AW.iret (dq rfl) rfl ?_
        exact r12 h1 h3 h4 h7 h10
      by_cases h13 : (y : Int32) = Int32.ofInt 3
      · refine AW.tableIn (dq rfl) (by rw [h13]; decide) (by rw [h13]; decide) (off := 60) (by rw [h13]; decide) (tgt := 86) (by decide) ?_
        show AW l (pI pg 97) P (kc + 1) (ks + 6) 86 [(0, .ref 0), (1, .int (x)), (2, .int (y))] [] SHF _
        refine AW.aload_n (dq rfl) rfl rfl ?_
        show AW l (pI pg 97) P (kc + 1) (ks + 6) 87 _ _ SHF _
        refine fw_get (dq rfl) (pg_ok.2.1 97 _ _ _ _ rfl) rfl (v := .ref 4) (isTA_ok rfl (rgR_ok hJ rfl)) ?_
        show AW l (pI pg 97) P (kc + 1) (ks + 6) 90 _ _ SHF _
        refine fw_get (dq rfl) (pg_ok.2.1 97 _ _ _ _ rfl) rfl (v := .ref 16) (isTA_ok rfl (rgR_ok hJ rfl)) ?_
        show AW l (pI pg 97) P (kc + 1) (ks + 6) 93 _ _ SHF _
        refine AW.iload_n (dq rfl) rfl ?_
        show AW l (pI pg 97) P (kc + 1) (ks + 6) 94 _ _ SHF _
        refine AW.iald (dq rfl) rfl (o14 h1 h3 h4 h7 h10 h13) ?_
        show AW l (pI pg 97) P (kc + 1) (ks + 6) 95 _ _ SHF _
        refine AW.iret (dq rfl) rfl ?_
        exact r15 h1 h3 h4 h7 h10 h13
      refine AW.tableOut (dq rfl) (tb_out3 h4 h7 h10 h13) (tgt := 96) (by decide) ?_
      show AW l (pI pg 97) P (kc + 1) (ks + 6) 96 [(0, .ref 0), (1, .int (x)), (2, .int (y))] [] SHF _
      refine pg_ok.2.2.2.2.2.2.2.1 97 _ _ rfl _ _ _ _ _ _ _ ?_
      exact x16 h1 h3 h4 h7 h10 h13
    · have _ := h3
      refine pg_ok.2.2.2.2.2.2.2.1 97 _ _ rfl _ _ _ _ _ _ _ ?_
      exact x17 h1 h3

theorem cpeb_0 {l : aL} {P : aP} {kc ks : Nat} {x : Int32} {M : aM} (hJ : ∀ e ∈ RRS.2, M.2.2 e.1 e.2.1 = e.2.2) (hl0 : l.1.stackTraces = false) (r3 : ∀ (h2 : ¬ (hpV (M.1 17 0) (x) : Int32) = 0), P (.inl none) SHF M) (x4 : ∀ (h2 : (hpV (M.1 17 0) (x) : Int32) = 0), P (.inr "java/util/NoSuchElementException") SHF M) : AW l (pI pg 90) P (kc + 1) (ks + 6) 0 [(0, .ref 0), (1, .int (x))] [] SHF M := by
  refine AW.aload_n (dq rfl) rfl rfl ?_
  show AW l (pI pg 90) P (kc + 1) (ks + 6) 1 _ _ SHF _
  refine fw_get (dq rfl) (pg_ok.2.1 90 _ _ _ _ rfl) rfl (v := .ref 17) (isTA_ok rfl (rgR_ok hJ rfl)) ?_
  show AW l (pI pg 90) P (kc + 1) (ks + 6) 4 _ _ SHF _
  refine AW.iload_n (dq rfl) rfl ?_
  show AW l (pI pg 90) P (kc + 1) (ks + 6) 5 _ _ SHF _
  refine fw_callVI (as := [.int (x)]) (dq rfl) (pg_ok.2.2.1 90 _ _ _ _ rfl) rfl (by decide +kernel) rfl rfl (hpeB_c hl0 (fun e he => hJ e (rk_RRS e he))) (fun y1 M1 e1 q1 => ?_)
  obtain ⟨rfl, rfl⟩ := q1
  show AW l (pI pg 90) P (kc + 1) (ks + 6) 8 [(0, .ref 0), (1, .int (x))] [.int (hpV (M.1 17 0) (x))] SHF _
  refine AW.if_ne (dq rfl) (tgt := 22) (by decide) (fun h2 => ?_) (fun h2 => ?_)
  · have _ := h2
    refine AW.vret (dq rfl) rfl ?_
    exact r3 h2
  · have _ := h2
    refine pg_ok.2.2.2.2.2.2.2.1 90 _ _ rfl _ _ _ _ _ _ _ ?_
    exact x4 h2

theorem cwob_0 {l : aL} {P : aP} {kc ks : Nat} {x : Int32} {M : aM} (hJ : ∀ e ∈ RRS.2, M.2.2 e.1 e.2.1 = e.2.2) (hl0 : l.1.stackTraces = false) (r3 : ∀ (h2 : ¬ (hpV (M.1 17 1) (x) : Int32) = 0), P (.inl none) SHF M) (x4 : ∀ (h2 : (hpV (M.1 17 1) (x) : Int32) = 0), P (.inr "java/util/NoSuchElementException") SHF M) : AW l (pI pg 93) P (kc + 1) (ks + 6) 0 [(0, .ref 0), (1, .int (x))] [] SHF M := by
  refine AW.aload_n (dq rfl) rfl rfl ?_
  show AW l (pI pg 93) P (kc + 1) (ks + 6) 1 _ _ SHF _
  refine fw_get (dq rfl) (pg_ok.2.1 93 _ _ _ _ rfl) rfl (v := .ref 17) (isTA_ok rfl (rgR_ok hJ rfl)) ?_
  show AW l (pI pg 93) P (kc + 1) (ks + 6) 4 _ _ SHF _
  refine AW.iload_n (dq rfl) rfl ?_
  show AW l (pI pg 93) P (kc + 1) (ks + 6) 5 _ _ SHF _
  refine fw_callVI (as := [.int (x)]) (dq rfl) (pg_ok.2.2.1 93 _ _ _ _ rfl) rfl (by decide +kernel) rfl rfl (hwoB_c hl0 (fun e he => hJ e (rk_RRS e he))) (fun y1 M1 e1 q1 => ?_)
  obtain ⟨rfl, rfl⟩ := q1
  show AW l (pI pg 93) P (kc + 1) (ks + 6) 8 [(0, .ref 0), (1, .int (x))] [.int (hpV (M.1 17 1) (x))] SHF _
  refine AW.if_ne (dq rfl) (tgt := 22) (by decide) (fun h2 => ?_) (fun h2 => ?_)
  · have _ := h2
    refine AW.vret (dq rfl) rfl ?_
    exact r3 h2
  · have _ := h2
    refine pg_ok.2.2.2.2.2.2.2.1 93 _ _ rfl _ _ _ _ _ _ _ ?_
    exact x4 h2

theorem perb_0 {l : aL} {P : aP} {kc ks : Nat} {x y : Int32} {M : aM} (hJ : ∀ e ∈ RRS.2, M.2.2 e.1 e.2.1 = e.2.2) (hl0 : l.1.stackTraces = false) (B1 : Prop) (c2 : AC l (pI pg 90) (tcV "java/util/NoSuchElementException" M B1) 1 6 [.ref 0, .int (x)] SHF M) (x3 : B1 → P (.inr "java/util/NoSuchElementException") SHF M) (o5 : ∀ (b1 : ¬ B1), ∀ (h4 : (y : Int32) = Int32.ofInt 0), vp_in (x) 6) (r6 : ∀ (b1 : ¬ B1), ∀ (h4 : (y : Int32) = Int32.ofInt 0), P (.inl (some (.int (M.1 18 (x).toNatClampNeg)))) SHF M) (o8 : ∀ (b1 : ¬ B1), ∀ (h4 : ¬ (y : Int32) = Int32.ofInt 0), ∀ (h7 : (y : Int32) = Int32.ofInt 1), vp_in (x) 6) (r9 : ∀ (b1 : ¬ B1), ∀ (h4 : ¬ (y : Int32) = Int32.ofInt 0), ∀ (h7 : (y : Int32) = Int32.ofInt 1), P (.inl (some (.int (M.1 19 (x).toNatClampNeg)))) SHF M) (o11 : ∀ (b1 : ¬ B1), ∀ (h4 : ¬ (y : Int32) = Int32.ofInt 0), ∀ (h7 : ¬ (y : Int32) = Int32.ofInt 1), ∀ (h10 : (y : Int32) = Int32.ofInt 2), vp_in (x) 6) (r12 : ∀ (b1 : ¬ B1), ∀ (h4 : ¬ (y : Int32) = Int32.ofInt 0), ∀ (h7 : ¬ (y : Int32) = Int32.ofInt 1), ∀ (h10 : (y : Int32) = Int32.ofInt 2), P (.inl (some (.int (M.1 20 (x).toNatClampNeg)))) SHF M) (x13 : ∀ (b1 : ¬ B1), ∀ (h4 : ¬ (y : Int32) = Int32.ofInt 0), ∀ (h7 : ¬ (y : Int32) = Int32.ofInt 1), ∀ (h10 : ¬ (y : Int32) = Int32.ofInt 2), P (.inr "java/util/NoSuchElementException") SHF M) : AW l (pI pg 89) P (kc + 1 + 1) (ks + 6 + 6) 0 [(0, .ref 0), (1, .int (x)), (2, .int (y))] [] SHF M := by
  refine AW.aload_n (dq rfl) rfl rfl ?_
  show AW l (pI pg 89) P (kc + 1 + 1) (ks + 6 + 6) 1 _ _ SHF _
  refine AW.iload_n (dq rfl) rfl ?_
  show AW l (pI pg 89) P (kc + 1 + 1) (ks + 6 + 6) 2 _ _ SHF _
  refine fw_tcV (as := [.int (x)]) (dq rfl) (pg_ok.2.2.1 89 _ _ _ _ rfl) rfl (by decide +kernel) rfl rfl (c2) (by decide +kernel) (x3) (fun b1 => ?_)
  show AW l (pI pg 89) P (kc + 1) (ks + 6) 5 [(0, .ref 0), (1, .int (x)), (2, .int (y))] [] SHF _
  refine AW.iload_n (dq rfl) rfl ?_
  show AW l (pI pg 89) P (kc + 1) (ks + 6) 6 _ _ SHF _
  by_cases h4 : (y : Int32) = Int32.ofInt 0
  · refine AW.tableIn (dq rfl) (by rw [h4]; decide) (by rw [h4]; decide) (off := 26) (by rw [h4]; decide) (tgt := 32) (by decide) ?_
    show AW l (pI pg 89) P (kc + 1) (ks + 6) 32 [(0, .ref 0), (1, .int (x)), (2, .int (y))] [] SHF _
    refine AW.aload_n (dq rfl) rfl rfl ?_
    show AW l (pI pg 89) P (kc + 1) (ks + 6) 33 _ _ SHF _
    refine fw_get (dq rfl) (pg_ok.2.1 89 _ _ _ _ rfl) rfl (v := .ref 17) (isTA_ok rfl (rgR_ok hJ rfl)) ?_
    show AW l (pI pg 89) P (kc + 1) (ks + 6) 36 _ _ SHF _
    refine fw_get (dq rfl) (pg_ok.2.1 89 _ _ _ _ rfl) rfl (v := .ref 18) (isTA_ok rfl (rgR_ok hJ rfl)) ?_
    show AW l (pI pg 89) P (kc + 1) (ks + 6) 39 _ _ SHF _
    refine AW.iload_n (dq rfl) rfl ?_
    show AW l (pI pg 89) P (kc + 1) (ks + 6) 40 _ _ SHF _
    refine AW.iald (dq rfl) rfl (o5 b1 h4) ?_
    show AW l (pI pg 89) P (kc + 1) (ks + 6) 41 _ _ SHF _
    refine AW.iret (dq rfl) rfl ?_
    exact r6 b1 h4
  by_cases h7 : (y : Int32) = Int32.ofInt 1
  · refine AW.tableIn (dq rfl) (by rw [h7]; decide) (by rw [h7]; decide) (off := 36) (by rw [h7]; decide) (tgt := 42) (by decide) ?_
    show AW l (pI pg 89) P (kc + 1) (ks + 6) 42 [(0, .ref 0), (1, .int (x)), (2, .int (y))] [] SHF _
    refine AW.aload_n (dq rfl) rfl rfl ?_
    show AW l (pI pg 89) P (kc + 1) (ks + 6) 43 _ _ SHF _
    refine fw_get (dq rfl) (pg_ok.2.1 89 _ _ _ _ rfl) rfl (v := .ref 17) (isTA_ok rfl (rgR_ok hJ rfl)) ?_
    show AW l (pI pg 89) P (kc + 1) (ks + 6) 46 _ _ SHF _
    refine fw_get (dq rfl) (pg_ok.2.1 89 _ _ _ _ rfl) rfl (v := .ref 19) (isTA_ok rfl (rgR_ok hJ rfl)) ?_
    show AW l (pI pg 89) P (kc + 1) (ks + 6) 49 _ _ SHF _
    refine AW.iload_n (dq rfl) rfl ?_
    show AW l (pI pg 89) P (kc + 1) (ks + 6) 50 _ _ SHF _
    refine AW.iald (dq rfl) rfl (o8 b1 h4 h7) ?_
    show AW l (pI pg 89) P (kc + 1) (ks + 6) 51 _ _ SHF _
    refine AW.iret (dq rfl) rfl ?_
    exact r9 b1 h4 h7
  by_cases h10 : (y : Int32) = Int32.ofInt 2
  · refine AW.tableIn (dq rfl) (by rw [h10]; decide) (by rw [h10]; decide) (off := 46) (by rw [h10]; decide) (tgt := 52) (by decide) ?_
    show AW l (pI pg 89) P (kc + 1) (ks + 6) 52 [(0, .ref 0), (1, .int (x)), (2, .int (y))] [] SHF _
    refine AW.aload_n (dq rfl) rfl rfl ?_
    show AW l (pI pg 89) P (kc + 1) (ks + 6) 53 _ _ SHF _
    refine fw_get (dq rfl) (pg_ok.2.1 89 _ _ _ _ rfl) rfl (v := .ref 17) (isTA_ok rfl (rgR_ok hJ rfl)) ?_
    show AW l (pI pg 89) P (kc + 1) (ks + 6) 56 _ _ SHF _
    refine fw_get (dq rfl) (pg_ok.2.1 89 _ _ _ _ rfl) rfl (v := .ref 20) (isTA_ok rfl (rgR_ok hJ rfl)) ?_
    show AW l (pI pg 89) P (kc + 1) (ks + 6) 59 _ _ SHF _
    refine AW.iload_n (dq rfl) rfl ?_
    show AW l (pI pg 89) P (kc + 1) (ks + 6) 60 _ _ SHF _
    refine AW.iald (dq rfl) rfl (o11 b1 h4 h7 h10) ?_
    show AW l (pI pg 89) P (kc + 1) (ks + 6) 61 _ _ SHF _
    refine AW.iret (dq rfl) rfl ?_
    exact r12 b1 h4 h7 h10
  refine AW.tableOut (dq rfl) (tb_out2 h4 h7 h10) (tgt := 62) (by decide) ?_
  show AW l (pI pg 89) P (kc + 1) (ks + 6) 62 [(0, .ref 0), (1, .int (x)), (2, .int (y))] [] SHF _
  refine pg_ok.2.2.2.2.2.2.2.1 89 _ _ rfl _ _ _ _ _ _ _ ?_
  exact x13 b1 h4 h7 h10

theorem worb_0 {l : aL} {P : aP} {kc ks : Nat} {x y : Int32} {M : aM} (hJ : ∀ e ∈ RRS.2, M.2.2 e.1 e.2.1 = e.2.2) (hl0 : l.1.stackTraces = false) (B1 : Prop) (c2 : AC l (pI pg 93) (tcV "java/util/NoSuchElementException" M B1) 1 6 [.ref 0, .int (x)] SHF M) (x3 : B1 → P (.inr "java/util/NoSuchElementException") SHF M) (o5 : ∀ (b1 : ¬ B1), ∀ (h4 : (y : Int32) = Int32.ofInt 0), vp_in (x) 8) (r6 : ∀ (b1 : ¬ B1), ∀ (h4 : (y : Int32) = Int32.ofInt 0), P (.inl (some (.int (M.1 22 (x).toNatClampNeg)))) SHF M) (o8 : ∀ (b1 : ¬ B1), ∀ (h4 : ¬ (y : Int32) = Int32.ofInt 0), ∀ (h7 : (y : Int32) = Int32.ofInt 1), vp_in (x) 8) (r9 : ∀ (b1 : ¬ B1), ∀ (h4 : ¬ (y : Int32) = Int32.ofInt 0), ∀ (h7 : (y : Int32) = Int32.ofInt 1), P (.inl (some (.int (M.1 23 (x).toNatClampNeg)))) SHF M) (o11 : ∀ (b1 : ¬ B1), ∀ (h4 : ¬ (y : Int32) = Int32.ofInt 0), ∀ (h7 : ¬ (y : Int32) = Int32.ofInt 1), ∀ (h10 : (y : Int32) = Int32.ofInt 2), vp_in (x) 8) (r12 : ∀ (b1 : ¬ B1), ∀ (h4 : ¬ (y : Int32) = Int32.ofInt 0), ∀ (h7 : ¬ (y : Int32) = Int32.ofInt 1), ∀ (h10 : (y : Int32) = Int32.ofInt 2), P (.inl (some (.int (M.1 24 (x).toNatClampNeg)))) SHF M) (x13 : ∀ (b1 : ¬ B1), ∀ (h4 : ¬ (y : Int32) = Int32.ofInt 0), ∀ (h7 : ¬ (y : Int32) = Int32.ofInt 1), ∀ (h10 : ¬ (y : Int32) = Int32.ofInt 2), P (.inr "java/util/NoSuchElementException") SHF M) : AW l (pI pg 92) P (kc + 1 + 1) (ks + 6 + 6) 0 [(0, .ref 0), (1, .int (x)), (2, .int (y))] [] SHF M := by
  refine AW.aload_n (dq rfl) rfl rfl ?_
  show AW l (pI pg 92) P (kc + 1 + 1) (ks + 6 + 6) 1 _ _ SHF _
  refine AW.iload_n (dq rfl) rfl ?_
  show AW l (pI pg 92) P (kc + 1 + 1) (ks + 6 + 6) 2 _ _ SHF _
  refine fw_tcV (as := [.int (x)]) (dq rfl) (pg_ok.2.2.1 92 _ _ _ _ rfl) rfl (by decide +kernel) rfl rfl (c2) (by decide +kernel) (x3) (fun b1 => ?_)
  show AW l (pI pg 92) P (kc + 1) (ks + 6) 5 [(0, .ref 0), (1, .int (x)), (2, .int (y))] [] SHF _
  refine AW.iload_n (dq rfl) rfl ?_
  show AW l (pI pg 92) P (kc + 1) (ks + 6) 6 _ _ SHF _
  by_cases h4 : (y : Int32) = Int32.ofInt 0
  · refine AW.tableIn (dq rfl) (by rw [h4]; decide) (by rw [h4]; decide) (off := 26) (by rw [h4]; decide) (tgt := 32) (by decide) ?_
    show AW l (pI pg 92) P (kc + 1) (ks + 6) 32 [(0, .ref 0), (1, .int (x)), (2, .int (y))] [] SHF _
    refine AW.aload_n (dq rfl) rfl rfl ?_
    show AW l (pI pg 92) P (kc + 1) (ks + 6) 33 _ _ SHF _
    refine fw_get (dq rfl) (pg_ok.2.1 92 _ _ _ _ rfl) rfl (v := .ref 17) (isTA_ok rfl (rgR_ok hJ rfl)) ?_
    show AW l (pI pg 92) P (kc + 1) (ks + 6) 36 _ _ SHF _
    refine fw_get (dq rfl) (pg_ok.2.1 92 _ _ _ _ rfl) rfl (v := .ref 22) (isTA_ok rfl (rgR_ok hJ rfl)) ?_
    show AW l (pI pg 92) P (kc + 1) (ks + 6) 39 _ _ SHF _
    refine AW.iload_n (dq rfl) rfl ?_
    show AW l (pI pg 92) P (kc + 1) (ks + 6) 40 _ _ SHF _
    refine AW.iald (dq rfl) rfl (o5 b1 h4) ?_
    show AW l (pI pg 92) P (kc + 1) (ks + 6) 41 _ _ SHF _
    refine AW.iret (dq rfl) rfl ?_
    exact r6 b1 h4
  by_cases h7 : (y : Int32) = Int32.ofInt 1
  · refine AW.tableIn (dq rfl) (by rw [h7]; decide) (by rw [h7]; decide) (off := 36) (by rw [h7]; decide) (tgt := 42) (by decide) ?_
    show AW l (pI pg 92) P (kc + 1) (ks + 6) 42 [(0, .ref 0), (1, .int (x)), (2, .int (y))] [] SHF _
    refine AW.aload_n (dq rfl) rfl rfl ?_
    show AW l (pI pg 92) P (kc + 1) (ks + 6) 43 _ _ SHF _
    refine fw_get (dq rfl) (pg_ok.2.1 92 _ _ _ _ rfl) rfl (v := .ref 17) (isTA_ok rfl (rgR_ok hJ rfl)) ?_
    show AW l (pI pg 92) P (kc + 1) (ks + 6) 46 _ _ SHF _
    refine fw_get (dq rfl) (pg_ok.2.1 92 _ _ _ _ rfl) rfl (v := .ref 23) (isTA_ok rfl (rgR_ok hJ rfl)) ?_
    show AW l (pI pg 92) P (kc + 1) (ks + 6) 49 _ _ SHF _
    refine AW.iload_n (dq rfl) rfl ?_
    show AW l (pI pg 92) P (kc + 1) (ks + 6) 50 _ _ SHF _
    refine AW.iald (dq rfl) rfl (o8 b1 h4 h7) ?_
    show AW l (pI pg 92) P (kc + 1) (ks + 6) 51 _ _ SHF _
    refine AW.iret (dq rfl) rfl ?_
    exact r9 b1 h4 h7
  by_cases h10 : (y : Int32) = Int32.ofInt 2
  · refine AW.tableIn (dq rfl) (by rw [h10]; decide) (by rw [h10]; decide) (off := 46) (by rw [h10]; decide) (tgt := 52) (by decide) ?_
    show AW l (pI pg 92) P (kc + 1) (ks + 6) 52 [(0, .ref 0), (1, .int (x)), (2, .int (y))] [] SHF _
    refine AW.aload_n (dq rfl) rfl rfl ?_
    show AW l (pI pg 92) P (kc + 1) (ks + 6) 53 _ _ SHF _
    refine fw_get (dq rfl) (pg_ok.2.1 92 _ _ _ _ rfl) rfl (v := .ref 17) (isTA_ok rfl (rgR_ok hJ rfl)) ?_
    show AW l (pI pg 92) P (kc + 1) (ks + 6) 56 _ _ SHF _
    refine fw_get (dq rfl) (pg_ok.2.1 92 _ _ _ _ rfl) rfl (v := .ref 24) (isTA_ok rfl (rgR_ok hJ rfl)) ?_
    show AW l (pI pg 92) P (kc + 1) (ks + 6) 59 _ _ SHF _
    refine AW.iload_n (dq rfl) rfl ?_
    show AW l (pI pg 92) P (kc + 1) (ks + 6) 60 _ _ SHF _
    refine AW.iald (dq rfl) rfl (o11 b1 h4 h7 h10) ?_
    show AW l (pI pg 92) P (kc + 1) (ks + 6) 61 _ _ SHF _
    refine AW.iret (dq rfl) rfl ?_
    exact r12 b1 h4 h7 h10
  refine AW.tableOut (dq rfl) (tb_out2 h4 h7 h10) (tgt := 62) (by decide) ?_
  show AW l (pI pg 92) P (kc + 1) (ks + 6) 62 [(0, .ref 0), (1, .int (x)), (2, .int (y))] [] SHF _
  refine pg_ok.2.2.2.2.2.2.2.1 92 _ _ rfl _ _ _ _ _ _ _ ?_
  exact x13 b1 h4 h7 h10

theorem skib_0 {l : aL} {P : aP} {kc ks : Nat} {x y : Int32} {M : aM} (hJ : ∀ e ∈ RRS.2, M.2.2 e.1 e.2.1 = e.2.2) (hl0 : l.1.stackTraces = false) (B1 : Prop) (c2 : AC l (pI pg 90) (tcV "java/util/NoSuchElementException" M B1) 1 6 [.ref 0, .int (x)] SHF M) (x3 : B1 → P (.inr "java/util/NoSuchElementException") SHF M) (B4 : Prop) (c5 : ∀ (b1 : ¬ B1), AC l (pI pg 93) (tcV "java/util/NoSuchElementException" M B4) 1 6 [.ref 0, .int (y)] SHF M) (x6 : ∀ (b1 : ¬ B1), B4 → P (.inr "java/util/NoSuchElementException") SHF M) (o7 : ∀ (b1 : ¬ B1), ∀ (b4 : ¬ B4), vp_in (((x) * ((Int8.ofInt 8).toInt32)) + (y)) 48) (r8 : ∀ (b1 : ¬ B1), ∀ (b4 : ¬ B4), P (.inl (some (.int (M.1 25 (((x) * ((Int8.ofInt 8).toInt32)) + (y)).toNatClampNeg)))) SHF M) : AW l (pI pg 95) P (kc + 1 + 1) (ks + 6 + 6) 0 [(0, .ref 0), (1, .int (x)), (2, .int (y))] [] SHF M := by
  refine AW.aload_n (dq rfl) rfl rfl ?_
  show AW l (pI pg 95) P (kc + 1 + 1) (ks + 6 + 6) 1 _ _ SHF _
  refine AW.iload_n (dq rfl) rfl ?_
  show AW l (pI pg 95) P (kc + 1 + 1) (ks + 6 + 6) 2 _ _ SHF _
  refine fw_tcV (as := [.int (x)]) (dq rfl) (pg_ok.2.2.1 95 _ _ _ _ rfl) rfl (by decide +kernel) rfl rfl (c2) (by decide +kernel) (x3) (fun b1 => ?_)
  show AW l (pI pg 95) P (kc + 1) (ks + 6) 5 [(0, .ref 0), (1, .int (x)), (2, .int (y))] [] SHF _
  refine AW.aload_n (dq rfl) rfl rfl ?_
  show AW l (pI pg 95) P (kc + 1) (ks + 6) 6 _ _ SHF _
  refine AW.iload_n (dq rfl) rfl ?_
  show AW l (pI pg 95) P (kc + 1) (ks + 6) 7 _ _ SHF _
  refine fw_tcV (as := [.int (y)]) (dq rfl) (pg_ok.2.2.1 95 _ _ _ _ rfl) rfl (by decide +kernel) rfl rfl (c5 b1) (by decide +kernel) (x6 b1) (fun b4 => ?_)
  show AW l (pI pg 95) P kc ks 10 [(0, .ref 0), (1, .int (x)), (2, .int (y))] [] SHF _
  refine AW.aload_n (dq rfl) rfl rfl ?_
  show AW l (pI pg 95) P kc ks 11 _ _ SHF _
  refine fw_get (dq rfl) (pg_ok.2.1 95 _ _ _ _ rfl) rfl (v := .ref 17) (isTA_ok rfl (rgR_ok hJ rfl)) ?_
  show AW l (pI pg 95) P kc ks 14 _ _ SHF _
  refine fw_get (dq rfl) (pg_ok.2.1 95 _ _ _ _ rfl) rfl (v := .ref 25) (isTA_ok rfl (rgR_ok hJ rfl)) ?_
  show AW l (pI pg 95) P kc ks 17 _ _ SHF _
  refine AW.iload_n (dq rfl) rfl ?_
  show AW l (pI pg 95) P kc ks 18 _ _ SHF _
  refine AW.bipush (dq rfl) ?_
  show AW l (pI pg 95) P kc ks 20 _ _ SHF _
  refine AW.imul (dq rfl) ?_
  show AW l (pI pg 95) P kc ks 21 _ _ SHF _
  refine AW.iload_n (dq rfl) rfl ?_
  show AW l (pI pg 95) P kc ks 22 _ _ SHF _
  refine AW.iadd (dq rfl) ?_
  show AW l (pI pg 95) P kc ks 23 _ _ SHF _
  refine AW.iald (dq rfl) rfl (o7 b1 b4) ?_
  show AW l (pI pg 95) P kc ks 24 _ _ SHF _
  refine AW.iret (dq rfl) rfl ?_
  exact r8 b1 b4

theorem teab_0 {l : aL} {P : aP} {kc ks : Nat} {x y : Int32} {M : aM} (hJ : ∀ e ∈ RRS.2, M.2.2 e.1 e.2.1 = e.2.2) (hl0 : l.1.stackTraces = false) (x2 : ∀ (h1 : (x : Int32) < 0), P (.inr "java/util/NoSuchElementException") SHF M) (o5 : ∀ (h1 : ¬ ((x : Int32) < 0)), ∀ (h3 : (x : Int32) < (M.1 17 2 : Int32)), ∀ (h4 : (y : Int32) = Int32.ofInt 0), vp_in (x) 8) (r6 : ∀ (h1 : ¬ ((x : Int32) < 0)), ∀ (h3 : (x : Int32) < (M.1 17 2 : Int32)), ∀ (h4 : (y : Int32) = Int32.ofInt 0), P (.inl (some (.int (M.1 26 (x).toNatClampNeg)))) SHF M) (o8 : ∀ (h1 : ¬ ((x : Int32) < 0)), ∀ (h3 : (x : Int32) < (M.1 17 2 : Int32)), ∀ (h4 : ¬ (y : Int32) = Int32.ofInt 0), ∀ (h7 : (y : Int32) = Int32.ofInt 1), vp_in (x) 8) (r9 : ∀ (h1 : ¬ ((x : Int32) < 0)), ∀ (h3 : (x : Int32) < (M.1 17 2 : Int32)), ∀ (h4 : ¬ (y : Int32) = Int32.ofInt 0), ∀ (h7 : (y : Int32) = Int32.ofInt 1), P (.inl (some (.int (M.1 27 (x).toNatClampNeg)))) SHF M) (o11 : ∀ (h1 : ¬ ((x : Int32) < 0)), ∀ (h3 : (x : Int32) < (M.1 17 2 : Int32)), ∀ (h4 : ¬ (y : Int32) = Int32.ofInt 0), ∀ (h7 : ¬ (y : Int32) = Int32.ofInt 1), ∀ (h10 : (y : Int32) = Int32.ofInt 2), vp_in (x) 8) (r12 : ∀ (h1 : ¬ ((x : Int32) < 0)), ∀ (h3 : (x : Int32) < (M.1 17 2 : Int32)), ∀ (h4 : ¬ (y : Int32) = Int32.ofInt 0), ∀ (h7 : ¬ (y : Int32) = Int32.ofInt 1), ∀ (h10 : (y : Int32) = Int32.ofInt 2), P (.inl (some (.int (M.1 28 (x).toNatClampNeg)))) SHF M) (o14 : ∀ (h1 : ¬ ((x : Int32) < 0)), ∀ (h3 : (x : Int32) < (M.1 17 2 : Int32)), ∀ (h4 : ¬ (y : Int32) = Int32.ofInt 0), ∀ (h7 : ¬ (y : Int32) = Int32.ofInt 1), ∀ (h10 : ¬ (y : Int32) = Int32.ofInt 2), ∀ (h13 : (y : Int32) = Int32.ofInt 3), vp_in (x) 8) (r15 : ∀ (h1 : ¬ ((x : Int32) < 0)), ∀ (h3 : (x : Int32) < (M.1 17 2 : Int32)), ∀ (h4 : ¬ (y : Int32) = Int32.ofInt 0), ∀ (h7 : ¬ (y : Int32) = Int32.ofInt 1), ∀ (h10 : ¬ (y : Int32) = Int32.ofInt 2), ∀ (h13 : (y : Int32) = Int32.ofInt 3), P (.inl (some (.int (M.1 29 (x).toNatClampNeg)))) SHF M) (x16 : ∀ (h1 : ¬ ((x : Int32) < 0)), ∀ (h3 : (x : Int32) < (M.1 17 2 : Int32)), ∀ (h4 : ¬ (y : Int32) = Int32.ofInt 0), ∀ (h7 : ¬ (y : Int32) = Int32.ofInt 1), ∀ (h10 : ¬ (y : Int32) = Int32.ofInt 2), ∀ (h13 : ¬ (y : Int32) = Int32.ofInt 3), P (.inr "java/util/NoSuchElementException") SHF M) (x17 : ∀ (h1 : ¬ ((x : Int32) < 0)), ∀ (h3 : ¬ ((x : Int32) < (M.1 17 2 : Int32))), P (.inr "java/util/NoSuchElementException") SHF M) : AW l (pI pg 97) P (kc + 1) (ks + 6) 0 [(0, .ref 0), (1, .int (x)), (2, .int (y))] [] SHF M := by
  refine AW.iload_n (dq rfl) rfl ?_
  show AW l (pI pg 97) P (kc + 1) (ks + 6) 1 _ _ SHF _
  refine AW.if_lt (dq rfl) (tgt := 15) (by decide) (fun h1 => ?_) (fun h1 => ?_)
  · have _ := h1
    refine pg_ok.2.2.2.2.2.2.2.1 97 _ _ rfl _ _ _ _ _ _ _ ?_
    exact x2 h1
  · have _ := h1
    refine AW.iload_n (dq rfl) rfl ?_
    show AW l (pI pg 97) P (kc + 1) (ks + 6) 5 _ _ SHF _
    refine AW.aload_n (dq rfl) rfl rfl ?_
    show AW l (pI pg 97) P (kc + 1) (ks + 6) 6 _ _ SHF _
    refine fw_get (dq rfl) (pg_ok.2.1 97 _ _ _ _ rfl) rfl (v := .ref 17) (isTA_ok rfl (rgR_ok hJ rfl)) ?_
    show AW l (pI pg 97) P (kc + 1) (ks + 6) 9 _ _ SHF _
    refine fw_get (dq rfl) (pg_ok.2.1 97 _ _ _ _ rfl) rfl (v := .int (M.1 17 2)) rfl ?_
    show AW l (pI pg 97) P (kc + 1) (ks + 6) 12 _ _ SHF _
    refine AW.icmp_lt (dq rfl) (tgt := 25) (by decide) (fun h3 => ?_) (fun h3 => ?_)
    · have _ := h3
      refine AW.iload_n (dq rfl) rfl ?_
      show AW l (pI pg 97) P (kc + 1) (ks + 6) 26 _ _ SHF _
      by_cases h4 : (y : Int32) = Int32.ofInt 0
      · refine AW.tableIn (dq rfl) (by rw [h4]; decide) (by rw [h4]; decide) (off := 30) (by rw [h4]; decide) (tgt := 56) (by decide) ?_
        show AW l (pI pg 97) P (kc + 1) (ks + 6) 56 [(0, .ref 0), (1, .int (x)), (2, .int (y))] [] SHF _
        refine AW.aload_n (dq rfl) rfl rfl ?_
        show AW l (pI pg 97) P (kc + 1) (ks + 6) 57 _ _ SHF _
        refine fw_get (dq rfl) (pg_ok.2.1 97 _ _ _ _ rfl) rfl (v := .ref 17) (isTA_ok rfl (rgR_ok hJ rfl)) ?_
        show AW l (pI pg 97) P (kc + 1) (ks + 6) 60 _ _ SHF _
        refine fw_get (dq rfl) (pg_ok.2.1 97 _ _ _ _ rfl) rfl (v := .ref 26) (isTA_ok rfl (rgR_ok hJ rfl)) ?_
        show AW l (pI pg 97) P (kc + 1) (ks + 6) 63 _ _ SHF _
        refine AW.iload_n (dq rfl) rfl ?_
        show AW l (pI pg 97) P (kc + 1) (ks + 6) 64 _ _ SHF _
        refine AW.iald (dq rfl) rfl (o5 h1 h3 h4) ?_
        show AW l (pI pg 97) P (kc + 1) (ks + 6) 65 _ _ SHF _
        refine AW.iret (dq rfl) rfl ?_
        exact r6 h1 h3 h4
      by_cases h7 : (y : Int32) = Int32.ofInt 1
      · refine AW.tableIn (dq rfl) (by rw [h7]; decide) (by rw [h7]; decide) (off := 40) (by rw [h7]; decide) (tgt := 66) (by decide) ?_
        show AW l (pI pg 97) P (kc + 1) (ks + 6) 66 [(0, .ref 0), (1, .int (x)), (2, .int (y))] [] SHF _
        refine AW.aload_n (dq rfl) rfl rfl ?_
        show AW l (pI pg 97) P (kc + 1) (ks + 6) 67 _ _ SHF _
        refine fw_get (dq rfl) (pg_ok.2.1 97 _ _ _ _ rfl) rfl (v := .ref 17) (isTA_ok rfl (rgR_ok hJ rfl)) ?_
        show AW l (pI pg 97) P (kc + 1) (ks + 6) 70 _ _ SHF _
        refine fw_get (dq rfl) (pg_ok.2.1 97 _ _ _ _ rfl) rfl (v := .ref 27) (isTA_ok rfl (rgR_ok hJ rfl)) ?_
        show AW l (pI pg 97) P (kc + 1) (ks + 6) 73 _ _ SHF _
        refine AW.iload_n (dq rfl) rfl ?_
        show AW l (pI pg 97) P (kc + 1) (ks + 6) 74 _ _ SHF _
        refine AW.iald (dq rfl) rfl (o8 h1 h3 h4 h7) ?_
        show AW l (pI pg 97) P (kc + 1) (ks + 6) 75 _ _ SHF _
        refine AW.iret (dq rfl) rfl ?_
        exact r9 h1 h3 h4 h7
      by_cases h10 : (y : Int32) = Int32.ofInt 2
      · refine AW.tableIn (dq rfl) (by rw [h10]; decide) (by rw [h10]; decide) (off := 50) (by rw [h10]; decide) (tgt := 76) (by decide) ?_
        show AW l (pI pg 97) P (kc + 1) (ks + 6) 76 [(0, .ref 0), (1, .int (x)), (2, .int (y))] [] SHF _
        refine AW.aload_n (dq rfl) rfl rfl ?_
        show AW l (pI pg 97) P (kc + 1) (ks + 6) 77 _ _ SHF _
        refine fw_get (dq rfl) (pg_ok.2.1 97 _ _ _ _ rfl) rfl (v := .ref 17) (isTA_ok rfl (rgR_ok hJ rfl)) ?_
        show AW l (pI pg 97) P (kc + 1) (ks + 6) 80 _ _ SHF _
        refine fw_get (dq rfl) (pg_ok.2.1 97 _ _ _ _ rfl) rfl (v := .ref 28) (isTA_ok rfl (rgR_ok hJ rfl)) ?_
        show AW l (pI pg 97) P (kc + 1) (ks + 6) 83 _ _ SHF _
        refine AW.iload_n (dq rfl) rfl ?_
        show AW l (pI pg 97) P (kc + 1) (ks + 6) 84 _ _ SHF _
        refine AW.iald (dq rfl) rfl (o11 h1 h3 h4 h7 h10) ?_
        show AW l (pI pg 97) P (kc + 1) (ks + 6) 85 _ _ SHF _
        refine AW.iret (dq rfl) rfl ?_
        exact r12 h1 h3 h4 h7 h10
      by_cases h13 : (y : Int32) = Int32.ofInt 3
      · refine AW.tableIn (dq rfl) (by rw [h13]; decide) (by rw [h13]; decide) (off := 60) (by rw [h13]; decide) (tgt := 86) (by decide) ?_
        show AW l (pI pg 97) P (kc + 1) (ks + 6) 86 [(0, .ref 0), (1, .int (x)), (2, .int (y))] [] SHF _
        refine AW.aload_n (dq rfl) rfl rfl ?_
        show AW l (pI pg 97) P (kc + 1) (ks + 6) 87 _ _ SHF _
        refine fw_get (dq rfl) (pg_ok.2.1 97 _ _ _ _ rfl) rfl (v := .ref 17) (isTA_ok rfl (rgR_ok hJ rfl)) ?_
        show AW l (pI pg 97) P (kc + 1) (ks + 6) 90 _ _ SHF _
        refine fw_get (dq rfl) (pg_ok.2.1 97 _ _ _ _ rfl) rfl (v := .ref 29) (isTA_ok rfl (rgR_ok hJ rfl)) ?_
        show AW l (pI pg 97) P (kc + 1) (ks + 6) 93 _ _ SHF _
        refine AW.iload_n (dq rfl) rfl ?_
        show AW l (pI pg 97) P (kc + 1) (ks + 6) 94 _ _ SHF _
        refine AW.iald (dq rfl) rfl (o14 h1 h3 h4 h7 h10 h13) ?_
        show AW l (pI pg 97) P (kc + 1) (ks + 6) 95 _ _ SHF _
        refine AW.iret (dq rfl) rfl ?_
        exact r15 h1 h3 h4 h7 h10 h13
      refine AW.tableOut (dq rfl) (tb_out3 h4 h7 h10 h13) (tgt := 96) (by decide) ?_
      show AW l (pI pg 97) P (kc + 1) (ks + 6) 96 [(0, .ref 0), (1, .int (x)), (2, .int (y))] [] SHF _
      refine pg_ok.2.2.2.2.2.2.2.1 97 _ _ rfl _ _ _ _ _ _ _ ?_
      exact x16 h1 h3 h4 h7 h10 h13
    · have _ := h3
      refine pg_ok.2.2.2.2.2.2.2.1 97 _ _ rfl _ _ _ _ _ _ _ ?_
      exact x17 h1 h3

theorem fau_0 {l : aL} {P : aP} {kc ks : Nat} {M : aM}   (r1 : P (.inl (some (.int (M.1 0 13)))) SHF M) : AW l (pI pg 26) P kc ks 0 [(0, .ref 0)] [] SHF M := by
  refine AW.aload_n (dq rfl) rfl rfl ?_
  show AW l (pI pg 26) P kc ks 1 _ _ SHF _
  refine fw_get (dq rfl) (pg_ok.2.1 26 _ _ _ _ rfl) rfl (v := .int (M.1 0 13)) rfl ?_
  show AW l (pI pg 26) P kc ks 4 _ _ SHF _
  refine AW.iret (dq rfl) rfl ?_
  exact r1

theorem mfa_0 {l : aL} {P : aP} {kc ks : Nat} {M : aM} (hJ : ∀ e ∈ RM, M.2.2 e.1 e.2.1 = e.2.2)  (r1 : P (.inl (some (.int ((aset M 58 0 (.int (Int32.ofInt 0))).1 58 14)))) SHF (aset M 58 0 (.int (Int32.ofInt 0)))) : AW l (pI pg 193) P kc ks 0 [(0, .ref 58)] [] SHF M := by
  refine AW.aload_n (dq rfl) rfl rfl ?_
  show AW l (pI pg 193) P kc ks 1 _ _ SHF _
  refine AW.iconst (dq rfl) ?_
  show AW l (pI pg 193) P kc ks 2 _ _ SHF _
  refine fw_putI (dq rfl) (pg_ok.2.1 193 _ _ _ _ rfl) rfl rfl rfl ?_
  show AW l (pI pg 193) P kc ks 5 _ _ SHF _
  refine AW.aload_n (dq rfl) rfl rfl ?_
  show AW l (pI pg 193) P kc ks 6 _ _ SHF _
  refine fw_get (dq rfl) (pg_ok.2.1 193 _ _ _ _ rfl) rfl (v := .int ((aset M 58 0 (.int (Int32.ofInt 0))).1 58 14)) rfl ?_
  show AW l (pI pg 193) P kc ks 9 _ _ SHF _
  refine AW.iret (dq rfl) rfl ?_
  exact r1

theorem wit_0 {l : aL} {P : aP} {kc ks : Nat} {x y z : Int32} {M : aM}   (r2 : ∀ (h1 : (x : Int32) < (y : Int32)), P (.inl (some (.int (Int32.ofInt 0)))) SHF M) (r4 : ∀ (h1 : ¬ ((x : Int32) < (y : Int32))), ∀ (h3 : (z : Int32) < (x : Int32)), P (.inl (some (.int (Int32.ofInt 0)))) SHF M) (r5 : ∀ (h1 : ¬ ((x : Int32) < (y : Int32))), ∀ (h3 : ¬ ((z : Int32) < (x : Int32))), P (.inl (some (.int (Int32.ofInt 1)))) SHF M) : AW l (pI pg 195) P kc ks 0 [(0, .int (x)), (1, .int (y)), (2, .int (z))] [] SHF M := by
  refine AW.iload_n (dq rfl) rfl ?_
  show AW l (pI pg 195) P kc ks 1 _ _ SHF _
  refine AW.iload_n (dq rfl) rfl ?_
  show AW l (pI pg 195) P kc ks 2 _ _ SHF _
  refine AW.icmp_lt (dq rfl) (tgt := 14) (by decide) (fun h1 => ?_) (fun h1 => ?_)
  · have _ := h1
    refine AW.iconst (dq rfl) ?_
    show AW l (pI pg 195) P kc ks 15 _ _ SHF _
    refine AW.zret (dq rfl) rfl (by decide) ?_
    exact r2 h1
  · have _ := h1
    refine AW.iload_n (dq rfl) rfl ?_
    show AW l (pI pg 195) P kc ks 6 _ _ SHF _
    refine AW.iload_n (dq rfl) rfl ?_
    show AW l (pI pg 195) P kc ks 7 _ _ SHF _
    refine AW.icmp_gt (dq rfl) (tgt := 14) (by decide) (fun h3 => ?_) (fun h3 => ?_)
    · have _ := h3
      refine AW.iconst (dq rfl) ?_
      show AW l (pI pg 195) P kc ks 15 _ _ SHF _
      refine AW.zret (dq rfl) rfl (by decide) ?_
      exact r4 h1 h3
    · have _ := h3
      refine AW.iconst (dq rfl) ?_
      show AW l (pI pg 195) P kc ks 11 _ _ SHF _
      refine AW.goto (dq rfl) (tgt := 15) (by decide) ?_
      refine AW.zret (dq rfl) rfl (by decide) ?_
      exact r5 h1 h3

theorem isp_0 {l : aL} {P : aP} {kc ks : Nat} {x : Int32} {M : aM} (hJ : ∀ e ∈ RM, M.2.2 e.1 e.2.1 = e.2.2)  (Q2 : Int32 → aM → Prop) (c3 : ∀ (h1 : (x : Int32) < 0), AC l (pI pg 175) (fcI M Q2) 0 0 [.ref 58, .int (Int32.ofInt 0), .int (Int32.ofInt 1)] SHF M) (z4 : ∀ (h1 : (x : Int32) < 0), ∀ (y2 : Int32), ∀ (M2 : aM), ∀ (e2 : M2.2.2 = M.2.2), ∀ (q2 : Q2 y2 M2), narrow (.boolean) (.int (y2)) = .int (y2)) (r5 : ∀ (h1 : (x : Int32) < 0), ∀ (y2 : Int32), ∀ (M2 : aM), ∀ (e2 : M2.2.2 = M.2.2), ∀ (q2 : Q2 y2 M2), P (.inl (some (.int (y2)))) SHF M2) (Q7 : Int32 → aM → Prop) (c8 : ∀ (h1 : ¬ ((x : Int32) < 0)), ∀ (h6 : (M.1 58 1 : Int32) ≤ (x : Int32)), AC l (pI pg 175) (fcI M Q7) 0 0 [.ref 58, .int (Int32.ofInt 0), .int (Int32.ofInt 1)] SHF M) (z9 : ∀ (h1 : ¬ ((x : Int32) < 0)), ∀ (h6 : (M.1 58 1 : Int32) ≤ (x : Int32)), ∀ (y7 : Int32), ∀ (M7 : aM), ∀ (e7 : M7.2.2 = M.2.2), ∀ (q7 : Q7 y7 M7), narrow (.boolean) (.int (y7)) = .int (y7)) (r10 : ∀ (h1 : ¬ ((x : Int32) < 0)), ∀ (h6 : (M.1 58 1 : Int32) ≤ (x : Int32)), ∀ (y7 : Int32), ∀ (M7 : aM), ∀ (e7 : M7.2.2 = M.2.2), ∀ (q7 : Q7 y7 M7), P (.inl (some (.int (y7)))) SHF M7) (Q11 : Int32 → aM → Prop) (c12 : ∀ (h1 : ¬ ((x : Int32) < 0)), ∀ (h6 : ¬ ((M.1 58 1 : Int32) ≤ (x : Int32))), AC l (pI pg 175) (fcI M Q11) 0 0 [.ref 58, .int (Int32.ofInt 1), .int (Int32.ofInt 1)] SHF M) (z13 : ∀ (h1 : ¬ ((x : Int32) < 0)), ∀ (h6 : ¬ ((M.1 58 1 : Int32) ≤ (x : Int32))), ∀ (y11 : Int32), ∀ (M11 : aM), ∀ (e11 : M11.2.2 = M.2.2), ∀ (q11 : Q11 y11 M11), narrow (.boolean) (.int (y11)) = .int (y11)) (r14 : ∀ (h1 : ¬ ((x : Int32) < 0)), ∀ (h6 : ¬ ((M.1 58 1 : Int32) ≤ (x : Int32))), ∀ (y11 : Int32), ∀ (M11 : aM), ∀ (e11 : M11.2.2 = M.2.2), ∀ (q11 : Q11 y11 M11), P (.inl (some (.int (y11)))) SHF M11) : AW l (pI pg 197) P kc ks 0 [(0, .ref 58), (1, .int (x))] [] SHF M := by
  refine AW.aload_n (dq rfl) rfl rfl ?_
  show AW l (pI pg 197) P kc ks 1 _ _ SHF _
  refine AW.iload_n (dq rfl) rfl ?_
  show AW l (pI pg 197) P kc ks 2 _ _ SHF _
  refine AW.if_lt (dq rfl) (tgt := 17) (by decide) (fun h1 => ?_) (fun h1 => ?_)
  · have _ := h1
    refine AW.iconst (dq rfl) ?_
    show AW l (pI pg 197) P kc ks 18 _ _ SHF _
    refine AW.iconst (dq rfl) ?_
    show AW l (pI pg 197) P kc ks 19 _ _ SHF _
    refine fw_callVI (as := [.int (Int32.ofInt 0), .int (Int32.ofInt 1)]) (dq rfl) (pg_ok.2.2.1 197 _ _ _ _ rfl) rfl (by decide +kernel) rfl rfl (c3 h1) (fun y2 M2 e2 q2 => ?_)
    have hJ2 : ∀ e ∈ RM, M2.2.2 e.1 e.2.1 = e.2.2 := fun e he => by rw [e2]; exact hJ e he
    show AW l (pI pg 197) P kc ks 22 [(0, .ref 58), (1, .int (x))] [.int (y2)] SHF _
    refine AW.zret (dq rfl) rfl (z4 h1 y2 M2 e2 q2) ?_
    exact r5 h1 y2 M2 e2 q2
  · have _ := h1
    refine AW.iload_n (dq rfl) rfl ?_
    show AW l (pI pg 197) P kc ks 6 _ _ SHF _
    refine AW.aload_n (dq rfl) rfl rfl ?_
    show AW l (pI pg 197) P kc ks 7 _ _ SHF _
    refine fw_get (dq rfl) (pg_ok.2.1 197 _ _ _ _ rfl) rfl (v := .int (M.1 58 1)) rfl ?_
    show AW l (pI pg 197) P kc ks 10 _ _ SHF _
    refine AW.icmp_ge (dq rfl) (tgt := 17) (by decide) (fun h6 => ?_) (fun h6 => ?_)
    · have _ := h6
      refine AW.iconst (dq rfl) ?_
      show AW l (pI pg 197) P kc ks 18 _ _ SHF _
      refine AW.iconst (dq rfl) ?_
      show AW l (pI pg 197) P kc ks 19 _ _ SHF _
      refine fw_callVI (as := [.int (Int32.ofInt 0), .int (Int32.ofInt 1)]) (dq rfl) (pg_ok.2.2.1 197 _ _ _ _ rfl) rfl (by decide +kernel) rfl rfl (c8 h1 h6) (fun y7 M7 e7 q7 => ?_)
      have hJ7 : ∀ e ∈ RM, M7.2.2 e.1 e.2.1 = e.2.2 := fun e he => by rw [e7]; exact hJ e he
      show AW l (pI pg 197) P kc ks 22 [(0, .ref 58), (1, .int (x))] [.int (y7)] SHF _
      refine AW.zret (dq rfl) rfl (z9 h1 h6 y7 M7 e7 q7) ?_
      exact r10 h1 h6 y7 M7 e7 q7
    · have _ := h6
      refine AW.iconst (dq rfl) ?_
      show AW l (pI pg 197) P kc ks 14 _ _ SHF _
      refine AW.goto (dq rfl) (tgt := 18) (by decide) ?_
      refine AW.iconst (dq rfl) ?_
      show AW l (pI pg 197) P kc ks 19 _ _ SHF _
      refine fw_callVI (as := [.int (Int32.ofInt 1), .int (Int32.ofInt 1)]) (dq rfl) (pg_ok.2.2.1 197 _ _ _ _ rfl) rfl (by decide +kernel) rfl rfl (c12 h1 h6) (fun y11 M11 e11 q11 => ?_)
      have hJ11 : ∀ e ∈ RM, M11.2.2 e.1 e.2.1 = e.2.2 := fun e he => by rw [e11]; exact hJ e he
      show AW l (pI pg 197) P kc ks 22 [(0, .ref 58), (1, .int (x))] [.int (y11)] SHF _
      refine AW.zret (dq rfl) rfl (z13 h1 h6 y11 M11 e11 q11) ?_
      exact r14 h1 h6 y11 M11 e11 q11

theorem isw_0 {l : aL} {P : aP} {kc ks : Nat} {x : Int32} {M : aM} (hJ : ∀ e ∈ RM, M.2.2 e.1 e.2.1 = e.2.2)  (Q2 : Int32 → aM → Prop) (c3 : ∀ (h1 : (x : Int32) < 0), AC l (pI pg 175) (fcI M Q2) 0 0 [.ref 58, .int (Int32.ofInt 0), .int (Int32.ofInt 1)] SHF M) (z4 : ∀ (h1 : (x : Int32) < 0), ∀ (y2 : Int32), ∀ (M2 : aM), ∀ (e2 : M2.2.2 = M.2.2), ∀ (q2 : Q2 y2 M2), narrow (.boolean) (.int (y2)) = .int (y2)) (r5 : ∀ (h1 : (x : Int32) < 0), ∀ (y2 : Int32), ∀ (M2 : aM), ∀ (e2 : M2.2.2 = M.2.2), ∀ (q2 : Q2 y2 M2), P (.inl (some (.int (y2)))) SHF M2) (Q7 : Int32 → aM → Prop) (c8 : ∀ (h1 : ¬ ((x : Int32) < 0)), ∀ (h6 : (M.1 58 2 : Int32) ≤ (x : Int32)), AC l (pI pg 175) (fcI M Q7) 0 0 [.ref 58, .int (Int32.ofInt 0), .int (Int32.ofInt 1)] SHF M) (z9 : ∀ (h1 : ¬ ((x : Int32) < 0)), ∀ (h6 : (M.1 58 2 : Int32) ≤ (x : Int32)), ∀ (y7 : Int32), ∀ (M7 : aM), ∀ (e7 : M7.2.2 = M.2.2), ∀ (q7 : Q7 y7 M7), narrow (.boolean) (.int (y7)) = .int (y7)) (r10 : ∀ (h1 : ¬ ((x : Int32) < 0)), ∀ (h6 : (M.1 58 2 : Int32) ≤ (x : Int32)), ∀ (y7 : Int32), ∀ (M7 : aM), ∀ (e7 : M7.2.2 = M.2.2), ∀ (q7 : Q7 y7 M7), P (.inl (some (.int (y7)))) SHF M7) (Q11 : Int32 → aM → Prop) (c12 : ∀ (h1 : ¬ ((x : Int32) < 0)), ∀ (h6 : ¬ ((M.1 58 2 : Int32) ≤ (x : Int32))), AC l (pI pg 175) (fcI M Q11) 0 0 [.ref 58, .int (Int32.ofInt 1), .int (Int32.ofInt 1)] SHF M) (z13 : ∀ (h1 : ¬ ((x : Int32) < 0)), ∀ (h6 : ¬ ((M.1 58 2 : Int32) ≤ (x : Int32))), ∀ (y11 : Int32), ∀ (M11 : aM), ∀ (e11 : M11.2.2 = M.2.2), ∀ (q11 : Q11 y11 M11), narrow (.boolean) (.int (y11)) = .int (y11)) (r14 : ∀ (h1 : ¬ ((x : Int32) < 0)), ∀ (h6 : ¬ ((M.1 58 2 : Int32) ≤ (x : Int32))), ∀ (y11 : Int32), ∀ (M11 : aM), ∀ (e11 : M11.2.2 = M.2.2), ∀ (q11 : Q11 y11 M11), P (.inl (some (.int (y11)))) SHF M11) : AW l (pI pg 199) P kc ks 0 [(0, .ref 58), (1, .int (x))] [] SHF M := by
  refine AW.aload_n (dq rfl) rfl rfl ?_
  show AW l (pI pg 199) P kc ks 1 _ _ SHF _
  refine AW.iload_n (dq rfl) rfl ?_
  show AW l (pI pg 199) P kc ks 2 _ _ SHF _
  refine AW.if_lt (dq rfl) (tgt := 17) (by decide) (fun h1 => ?_) (fun h1 => ?_)
  · have _ := h1
    refine AW.iconst (dq rfl) ?_
    show AW l (pI pg 199) P kc ks 18 _ _ SHF _
    refine AW.iconst (dq rfl) ?_
    show AW l (pI pg 199) P kc ks 19 _ _ SHF _
    refine fw_callVI (as := [.int (Int32.ofInt 0), .int (Int32.ofInt 1)]) (dq rfl) (pg_ok.2.2.1 199 _ _ _ _ rfl) rfl (by decide +kernel) rfl rfl (c3 h1) (fun y2 M2 e2 q2 => ?_)
    have hJ2 : ∀ e ∈ RM, M2.2.2 e.1 e.2.1 = e.2.2 := fun e he => by rw [e2]; exact hJ e he
    show AW l (pI pg 199) P kc ks 22 [(0, .ref 58), (1, .int (x))] [.int (y2)] SHF _
    refine AW.zret (dq rfl) rfl (z4 h1 y2 M2 e2 q2) ?_
    exact r5 h1 y2 M2 e2 q2
  · have _ := h1
    refine AW.iload_n (dq rfl) rfl ?_
    show AW l (pI pg 199) P kc ks 6 _ _ SHF _
    refine AW.aload_n (dq rfl) rfl rfl ?_
    show AW l (pI pg 199) P kc ks 7 _ _ SHF _
    refine fw_get (dq rfl) (pg_ok.2.1 199 _ _ _ _ rfl) rfl (v := .int (M.1 58 2)) rfl ?_
    show AW l (pI pg 199) P kc ks 10 _ _ SHF _
    refine AW.icmp_ge (dq rfl) (tgt := 17) (by decide) (fun h6 => ?_) (fun h6 => ?_)
    · have _ := h6
      refine AW.iconst (dq rfl) ?_
      show AW l (pI pg 199) P kc ks 18 _ _ SHF _
      refine AW.iconst (dq rfl) ?_
      show AW l (pI pg 199) P kc ks 19 _ _ SHF _
      refine fw_callVI (as := [.int (Int32.ofInt 0), .int (Int32.ofInt 1)]) (dq rfl) (pg_ok.2.2.1 199 _ _ _ _ rfl) rfl (by decide +kernel) rfl rfl (c8 h1 h6) (fun y7 M7 e7 q7 => ?_)
      have hJ7 : ∀ e ∈ RM, M7.2.2 e.1 e.2.1 = e.2.2 := fun e he => by rw [e7]; exact hJ e he
      show AW l (pI pg 199) P kc ks 22 [(0, .ref 58), (1, .int (x))] [.int (y7)] SHF _
      refine AW.zret (dq rfl) rfl (z9 h1 h6 y7 M7 e7 q7) ?_
      exact r10 h1 h6 y7 M7 e7 q7
    · have _ := h6
      refine AW.iconst (dq rfl) ?_
      show AW l (pI pg 199) P kc ks 14 _ _ SHF _
      refine AW.goto (dq rfl) (tgt := 18) (by decide) ?_
      refine AW.iconst (dq rfl) ?_
      show AW l (pI pg 199) P kc ks 19 _ _ SHF _
      refine fw_callVI (as := [.int (Int32.ofInt 1), .int (Int32.ofInt 1)]) (dq rfl) (pg_ok.2.2.1 199 _ _ _ _ rfl) rfl (by decide +kernel) rfl rfl (c12 h1 h6) (fun y11 M11 e11 q11 => ?_)
      have hJ11 : ∀ e ∈ RM, M11.2.2 e.1 e.2.1 = e.2.2 := fun e he => by rw [e11]; exact hJ e he
      show AW l (pI pg 199) P kc ks 22 [(0, .ref 58), (1, .int (x))] [.int (y11)] SHF _
      refine AW.zret (dq rfl) rfl (z13 h1 h6 y11 M11 e11 q11) ?_
      exact r14 h1 h6 y11 M11 e11 q11

theorem mpe_0 {l : aL} {P : aP} {kc ks : Nat} {x y : Int32} {M : aM} (hJ : ∀ e ∈ RM, M.2.2 e.1 e.2.1 = e.2.2)  (Q1 : Int32 → aM → Prop) (c2 : AC l (pI pg 197) (fcI (aset M 58 0 (.int (Int32.ofInt 0))) Q1) 0 0 [.ref 58, .int (x)] SHF (aset M 58 0 (.int (Int32.ofInt 0)))) (r4 : ∀ (y1 : Int32), ∀ (M1 : aM), ∀ (e1 : M1.2.2 = (aset M 58 0 (.int (Int32.ofInt 0))).2.2), ∀ (q1 : Q1 y1 M1), ∀ (h3 : (y1 : Int32) = 0), P (.inl (some (.int (Int32.ofInt 0)))) SHF M1) (Q5 : Int32 → aM → Int32 → aM → Prop) (c6 : ∀ (y1 : Int32), ∀ (M1 : aM), ∀ (e1 : M1.2.2 = (aset M 58 0 (.int (Int32.ofInt 0))).2.2), ∀ (q1 : Q1 y1 M1), ∀ (h3 : ¬ ((y1 : Int32) = 0)), AC l (pI pg 195) (fcI M1 (Q5 y1 M1)) 0 0 [.int (y), .int (Int32.ofInt 0), .int (Int32.ofInt 2)] SHF M1) (Q7 : Int32 → aM → Int32 → aM → Int32 → aM → Prop) (c8 : ∀ (y1 : Int32), ∀ (M1 : aM), ∀ (e1 : M1.2.2 = (aset M 58 0 (.int (Int32.ofInt 0))).2.2), ∀ (q1 : Q1 y1 M1), ∀ (h3 : ¬ ((y1 : Int32) = 0)), ∀ (y5 : Int32), ∀ (M5 : aM), ∀ (e5 : M5.2.2 = M1.2.2), ∀ (q5 : (Q5 y1 M1) y5 M5), AC l (pI pg 175) (fcI M5 (Q7 y1 M1 y5 M5)) 0 0 [.ref 58, .int (y5), .int (Int32.ofInt 1)] SHF M5) (k11 : ∀ (y1 : Int32), ∀ (M1 : aM), ∀ (e1 : M1.2.2 = (aset M 58 0 (.int (Int32.ofInt 0))).2.2), ∀ (q1 : Q1 y1 M1), ∀ (h3 : ¬ ((y1 : Int32) = 0)), ∀ (y5 : Int32), ∀ (M5 : aM), ∀ (e5 : M5.2.2 = M1.2.2), ∀ (q5 : (Q5 y1 M1) y5 M5), ∀ (y7 : Int32), ∀ (M7 : aM), ∀ (e7 : M7.2.2 = M5.2.2), ∀ (q7 : (Q7 y1 M1 y5 M5) y7 M7), ∀ (h9 : ¬ (y7 : Int32) = 0), ∀ (h10 : (Int32.ofInt 2 : Int32) ≤ (y : Int32)), AW l (pI pg 196) P kc ks 59 [(4, .int (Int32.ofInt 0)), (3, .int (Int32.ofInt 0)), (2, .int (y)), (1, .int (x)), (0, .ref 58)] [] SHF M7) (o13 : ∀ (y1 : Int32), ∀ (M1 : aM), ∀ (e1 : M1.2.2 = (aset M 58 0 (.int (Int32.ofInt 0))).2.2), ∀ (q1 : Q1 y1 M1), ∀ (h3 : ¬ ((y1 : Int32) = 0)), ∀ (y5 : Int32), ∀ (M5 : aM), ∀ (e5 : M5.2.2 = M1.2.2), ∀ (q5 : (Q5 y1 M1) y5 M5), ∀ (y7 : Int32), ∀ (M7 : aM), ∀ (e7 : M7.2.2 = M5.2.2), ∀ (q7 : (Q7 y1 M1 y5 M5) y7 M7), ∀ (h9 : ¬ (y7 : Int32) = 0), ∀ (h10 : ¬ ((Int32.ofInt 2 : Int32) ≤ (y : Int32))), ∀ (h12 : ¬ (y : Int32) = 0), vp_in (x) 6) (r14 : ∀ (y1 : Int32), ∀ (M1 : aM), ∀ (e1 : M1.2.2 = (aset M 58 0 (.int (Int32.ofInt 0))).2.2), ∀ (q1 : Q1 y1 M1), ∀ (h3 : ¬ ((y1 : Int32) = 0)), ∀ (y5 : Int32), ∀ (M5 : aM), ∀ (e5 : M5.2.2 = M1.2.2), ∀ (q5 : (Q5 y1 M1) y5 M5), ∀ (y7 : Int32), ∀ (M7 : aM), ∀ (e7 : M7.2.2 = M5.2.2), ∀ (q7 : (Q7 y1 M1 y5 M5) y7 M7), ∀ (h9 : ¬ (y7 : Int32) = 0), ∀ (h10 : ¬ ((Int32.ofInt 2 : Int32) ≤ (y : Int32))), ∀ (h12 : ¬ (y : Int32) = 0), P (.inl (some (.int (M7.1 60 (x).toNatClampNeg)))) SHF M7) (o15 : ∀ (y1 : Int32), ∀ (M1 : aM), ∀ (e1 : M1.2.2 = (aset M 58 0 (.int (Int32.ofInt 0))).2.2), ∀ (q1 : Q1 y1 M1), ∀ (h3 : ¬ ((y1 : Int32) = 0)), ∀ (y5 : Int32), ∀ (M5 : aM), ∀ (e5 : M5.2.2 = M1.2.2), ∀ (q5 : (Q5 y1 M1) y5 M5), ∀ (y7 : Int32), ∀ (M7 : aM), ∀ (e7 : M7.2.2 = M5.2.2), ∀ (q7 : (Q7 y1 M1 y5 M5) y7 M7), ∀ (h9 : ¬ (y7 : Int32) = 0), ∀ (h10 : ¬ ((Int32.ofInt 2 : Int32) ≤ (y : Int32))), ∀ (h12 : (y : Int32) = 0), vp_in (x) 6) (r16 : ∀ (y1 : Int32), ∀ (M1 : aM), ∀ (e1 : M1.2.2 = (aset M 58 0 (.int (Int32.ofInt 0))).2.2), ∀ (q1 : Q1 y1 M1), ∀ (h3 : ¬ ((y1 : Int32) = 0)), ∀ (y5 : Int32), ∀ (M5 : aM), ∀ (e5 : M5.2.2 = M1.2.2), ∀ (q5 : (Q5 y1 M1) y5 M5), ∀ (y7 : Int32), ∀ (M7 : aM), ∀ (e7 : M7.2.2 = M5.2.2), ∀ (q7 : (Q7 y1 M1 y5 M5) y7 M7), ∀ (h9 : ¬ (y7 : Int32) = 0), ∀ (h10 : ¬ ((Int32.ofInt 2 : Int32) ≤ (y : Int32))), ∀ (h12 : (y : Int32) = 0), P (.inl (some (.int (M7.1 59 (x).toNatClampNeg)))) SHF M7) (r17 : ∀ (y1 : Int32), ∀ (M1 : aM), ∀ (e1 : M1.2.2 = (aset M 58 0 (.int (Int32.ofInt 0))).2.2), ∀ (q1 : Q1 y1 M1), ∀ (h3 : ¬ ((y1 : Int32) = 0)), ∀ (y5 : Int32), ∀ (M5 : aM), ∀ (e5 : M5.2.2 = M1.2.2), ∀ (q5 : (Q5 y1 M1) y5 M5), ∀ (y7 : Int32), ∀ (M7 : aM), ∀ (e7 : M7.2.2 = M5.2.2), ∀ (q7 : (Q7 y1 M1 y5 M5) y7 M7), ∀ (h9 : (y7 : Int32) = 0), P (.inl (some (.int (Int32.ofInt 0)))) SHF M7) : AW l (pI pg 196) P kc ks 0 [(0, .ref 58), (1, .int (x)), (2, .int (y))] [] SHF M := by
  refine AW.aload_n (dq rfl) rfl rfl ?_
  show AW l (pI pg 196) P kc ks 1 _ _ SHF _
  refine AW.iconst (dq rfl) ?_
  show AW l (pI pg 196) P kc ks 2 _ _ SHF _
  refine fw_putI (dq rfl) (pg_ok.2.1 196 _ _ _ _ rfl) rfl rfl rfl ?_
  show AW l (pI pg 196) P kc ks 5 _ _ SHF _
  refine AW.aload_n (dq rfl) rfl rfl ?_
  show AW l (pI pg 196) P kc ks 6 _ _ SHF _
  refine AW.iload_n (dq rfl) rfl ?_
  show AW l (pI pg 196) P kc ks 7 _ _ SHF _
  refine fw_callVI (as := [.int (x)]) (dq rfl) (pg_ok.2.2.1 196 _ _ _ _ rfl) rfl (by decide +kernel) rfl rfl (c2) (fun y1 M1 e1 q1 => ?_)
  have hJ1 : ∀ e ∈ RM, M1.2.2 e.1 e.2.1 = e.2.2 := fun e he => by rw [e1]; exact hJ e he
  show AW l (pI pg 196) P kc ks 10 [(0, .ref 58), (1, .int (x)), (2, .int (y))] [.int (y1)] SHF _
  refine AW.if_eq (dq rfl) (tgt := 27) (by decide) (fun h3 => ?_) (fun h3 => ?_)
  · have _ := h3
    refine AW.iconst (dq rfl) ?_
    show AW l (pI pg 196) P kc ks 28 _ _ SHF _
    refine AW.iret (dq rfl) rfl ?_
    exact r4 y1 M1 e1 q1 h3
  · have _ := h3
    refine AW.aload_n (dq rfl) rfl rfl ?_
    show AW l (pI pg 196) P kc ks 14 _ _ SHF _
    refine AW.iload_n (dq rfl) rfl ?_
    show AW l (pI pg 196) P kc ks 15 _ _ SHF _
    refine AW.iconst (dq rfl) ?_
    show AW l (pI pg 196) P kc ks 16 _ _ SHF _
    refine AW.iconst (dq rfl) ?_
    show AW l (pI pg 196) P kc ks 17 _ _ SHF _
    refine fw_callSI (as := [.int (y), .int (Int32.ofInt 0), .int (Int32.ofInt 2)]) (dq rfl) (pg_ok.2.2.1 196 _ _ _ _ rfl) (by decide +kernel) rfl rfl (c6 y1 M1 e1 q1 h3) (fun y5 M5 e5 q5 => ?_)
    have hJ5 : ∀ e ∈ RM, M5.2.2 e.1 e.2.1 = e.2.2 := fun e he => by rw [e5]; exact hJ1 e he
    show AW l (pI pg 196) P kc ks 20 [(0, .ref 58), (1, .int (x)), (2, .int (y))] [.int (y5), .ref 58] SHF _
    refine AW.iconst (dq rfl) ?_
    show AW l (pI pg 196) P kc ks 21 _ _ SHF _
    refine fw_callVI (as := [.int (y5), .int (Int32.ofInt 1)]) (dq rfl) (pg_ok.2.2.1 196 _ _ _ _ rfl) rfl (by decide +kernel) rfl rfl (c8 y1 M1 e1 q1 h3 y5 M5 e5 q5) (fun y7 M7 e7 q7 => ?_)
    have hJ7 : ∀ e ∈ RM, M7.2.2 e.1 e.2.1 = e.2.2 := fun e he => by rw [e7]; exact hJ5 e he
    show AW l (pI pg 196) P kc ks 24 [(0, .ref 58), (1, .int (x)), (2, .int (y))] [.int (y7)] SHF _
    refine AW.if_ne (dq rfl) (tgt := 29) (by decide) (fun h9 => ?_) (fun h9 => ?_)
    · have _ := h9
      refine AW.iload_n (dq rfl) rfl ?_
      show AW l (pI pg 196) P kc ks 30 _ _ SHF _
      refine AW.iconst (dq rfl) ?_
      show AW l (pI pg 196) P kc ks 31 _ _ SHF _
      refine AW.icmp_ge (dq rfl) (tgt := 54) (by decide) (fun h10 => ?_) (fun h10 => ?_)
      · have _ := h10
        refine AW.iconst (dq rfl) ?_
        show AW l (pI pg 196) P kc ks 55 _ _ SHF _
        refine AW.istore_n (dq rfl) (by decide +kernel) ?_
        show AW l (pI pg 196) P kc ks 56 [(3, .int (Int32.ofInt 0)), (0, .ref 58), (1, .int (x)), (2, .int (y))] [] SHF _
        refine AW.iconst (dq rfl) ?_
        show AW l (pI pg 196) P kc ks 57 _ _ SHF _
        refine AW.istore (dq rfl) (by decide +kernel) ?_
        show AW l (pI pg 196) P kc ks 59 [(4, .int (Int32.ofInt 0)), (3, .int (Int32.ofInt 0)), (0, .ref 58), (1, .int (x)), (2, .int (y))] [] SHF _
        refine AW.drop (lv' := [(4, .int (Int32.ofInt 0)), (3, .int (Int32.ofInt 0)), (2, .int (y)), (1, .int (x)), (0, .ref 58)]) (List.forall_mem_cons.mpr ⟨List.mem_of_getElem? (i := 0) rfl, List.forall_mem_cons.mpr ⟨List.mem_of_getElem? (i := 1) rfl, List.forall_mem_cons.mpr ⟨List.mem_of_getElem? (i := 4) rfl, List.forall_mem_cons.mpr ⟨List.mem_of_getElem? (i := 3) rfl, List.forall_mem_cons.mpr ⟨List.mem_of_getElem? (i := 2) rfl, fun _ h => absurd h List.not_mem_nil⟩⟩⟩⟩⟩) ?_
        exact k11 y1 M1 e1 q1 h3 y5 M5 e5 q5 y7 M7 e7 q7 h9 h10
      · have _ := h10
        refine AW.iload_n (dq rfl) rfl ?_
        show AW l (pI pg 196) P kc ks 35 _ _ SHF _
        refine AW.if_ne (dq rfl) (tgt := 47) (by decide) (fun h12 => ?_) (fun h12 => ?_)
        · have _ := h12
          refine AW.aload_n (dq rfl) rfl rfl ?_
          show AW l (pI pg 196) P kc ks 48 _ _ SHF _
          refine fw_get (dq rfl) (pg_ok.2.1 196 _ _ _ _ rfl) rfl (v := .ref 60) (isTA_ok rfl (rgR_ok hJ7 rfl)) ?_
          show AW l (pI pg 196) P kc ks 51 _ _ SHF _
          refine AW.iload_n (dq rfl) rfl ?_
          show AW l (pI pg 196) P kc ks 52 _ _ SHF _
          refine AW.iald (dq rfl) rfl (o13 y1 M1 e1 q1 h3 y5 M5 e5 q5 y7 M7 e7 q7 h9 h10 h12) ?_
          show AW l (pI pg 196) P kc ks 53 _ _ SHF _
          refine AW.iret (dq rfl) rfl ?_
          exact r14 y1 M1 e1 q1 h3 y5 M5 e5 q5 y7 M7 e7 q7 h9 h10 h12
        · have _ := h12
          refine AW.aload_n (dq rfl) rfl rfl ?_
          show AW l (pI pg 196) P kc ks 39 _ _ SHF _
          refine fw_get (dq rfl) (pg_ok.2.1 196 _ _ _ _ rfl) rfl (v := .ref 59) (isTA_ok rfl (rgR_ok hJ7 rfl)) ?_
          show AW l (pI pg 196) P kc ks 42 _ _ SHF _
          refine AW.iload_n (dq rfl) rfl ?_
          show AW l (pI pg 196) P kc ks 43 _ _ SHF _
          refine AW.iald (dq rfl) rfl (o15 y1 M1 e1 q1 h3 y5 M5 e5 q5 y7 M7 e7 q7 h9 h10 h12) ?_
          show AW l (pI pg 196) P kc ks 44 _ _ SHF _
          refine AW.goto (dq rfl) (tgt := 53) (by decide) ?_
          refine AW.iret (dq rfl) rfl ?_
          exact r16 y1 M1 e1 q1 h3 y5 M5 e5 q5 y7 M7 e7 q7 h9 h10 h12
    · have _ := h9
      refine AW.iconst (dq rfl) ?_
      show AW l (pI pg 196) P kc ks 28 _ _ SHF _
      refine AW.iret (dq rfl) rfl ?_
      exact r17 y1 M1 e1 q1 h3 y5 M5 e5 q5 y7 M7 e7 q7 h9

theorem mpe_59 {l : aL} {P : aP} {kc ks : Nat} {i : Nat} {v x y : Int32} {M : aM} (hJ : ∀ e ∈ RM, M.2.2 e.1 e.2.1 = e.2.2)  (r2 : ∀ (h1 : (M.1 58 2 : Int32) ≤ (nI i : Int32)), P (.inl (some (.int (v)))) SHF M) (o3 : ∀ (h1 : ¬ ((M.1 58 2 : Int32) ≤ (nI i : Int32))), vp_in ((((Int8.ofInt 8).toInt32) * (x)) + (nI i)) 48) (k5 : ∀ (h1 : ¬ ((M.1 58 2 : Int32) ≤ (nI i : Int32))), ∀ (h4 : (M.1 63 ((((Int8.ofInt 8).toInt32) * (x)) + (nI i)).toNatClampNeg : Int32) ≤ 0), AW l (pI pg 196) P kc ks 59 [(4, .int ((nI i) + Int32.ofInt 1)), (3, .int ((v) ||| (Int32.ofInt 0))), (2, .int (y)), (1, .int (x)), (0, .ref 58)] [] SHF M) (k6 : ∀ (h1 : ¬ ((M.1 58 2 : Int32) ≤ (nI i : Int32))), ∀ (h4 : ¬ ((M.1 63 ((((Int8.ofInt 8).toInt32) * (x)) + (nI i)).toNatClampNeg : Int32) ≤ 0)), AW l (pI pg 196) P kc ks 59 [(4, .int ((nI i) + Int32.ofInt 1)), (3, .int ((v) ||| ((Int32.ofInt 1) <<< ((nI i) &&& 31)))), (2, .int (y)), (1, .int (x)), (0, .ref 58)] [] SHF M) : AW l (pI pg 196) P kc ks 59 [(4, .int (nI i)), (3, .int (v)), (2, .int (y)), (1, .int (x)), (0, .ref 58)] [] SHF M := by
  refine AW.iload (dq rfl) rfl ?_
  show AW l (pI pg 196) P kc ks 61 _ _ SHF _
  refine AW.aload_n (dq rfl) rfl rfl ?_
  show AW l (pI pg 196) P kc ks 62 _ _ SHF _
  refine fw_get (dq rfl) (pg_ok.2.1 196 _ _ _ _ rfl) rfl (v := .int (M.1 58 2)) rfl ?_
  show AW l (pI pg 196) P kc ks 65 _ _ SHF _
  refine AW.icmp_ge (dq rfl) (tgt := 100) (by decide) (fun h1 => ?_) (fun h1 => ?_)
  · have _ := h1
    refine AW.iload_n (dq rfl) rfl ?_
    show AW l (pI pg 196) P kc ks 101 _ _ SHF _
    refine AW.iret (dq rfl) rfl ?_
    exact r2 h1
  · have _ := h1
    refine AW.iload_n (dq rfl) rfl ?_
    show AW l (pI pg 196) P kc ks 69 _ _ SHF _
    refine AW.aload_n (dq rfl) rfl rfl ?_
    show AW l (pI pg 196) P kc ks 70 _ _ SHF _
    refine fw_get (dq rfl) (pg_ok.2.1 196 _ _ _ _ rfl) rfl (v := .ref 63) (isTA_ok rfl (rgR_ok hJ rfl)) ?_
    show AW l (pI pg 196) P kc ks 73 _ _ SHF _
    refine AW.bipush (dq rfl) ?_
    show AW l (pI pg 196) P kc ks 75 _ _ SHF _
    refine AW.iload_n (dq rfl) rfl ?_
    show AW l (pI pg 196) P kc ks 76 _ _ SHF _
    refine AW.imul (dq rfl) ?_
    show AW l (pI pg 196) P kc ks 77 _ _ SHF _
    refine AW.iload (dq rfl) rfl ?_
    show AW l (pI pg 196) P kc ks 79 _ _ SHF _
    refine AW.iadd (dq rfl) ?_
    show AW l (pI pg 196) P kc ks 80 _ _ SHF _
    refine AW.iald (dq rfl) rfl (o3 h1) ?_
    show AW l (pI pg 196) P kc ks 81 _ _ SHF _
    refine AW.if_le (dq rfl) (tgt := 91) (by decide) (fun h4 => ?_) (fun h4 => ?_)
    · have _ := h4
      refine AW.iconst (dq rfl) ?_
      show AW l (pI pg 196) P kc ks 92 _ _ SHF _
      refine AW.ior (dq rfl) ?_
      show AW l (pI pg 196) P kc ks 93 _ _ SHF _
      refine AW.istore_n (dq rfl) (by decide +kernel) ?_
      show AW l (pI pg 196) P kc ks 94 [(3, .int ((v) ||| (Int32.ofInt 0))), (4, .int (nI i)), (2, .int (y)), (1, .int (x)), (0, .ref 58)] [] SHF _
      refine AW.iinc (dq rfl) rfl (by decide +kernel) ?_
      show AW l (pI pg 196) P kc ks 97 [(4, .int ((nI i) + Int32.ofInt 1)), (3, .int ((v) ||| (Int32.ofInt 0))), (2, .int (y)), (1, .int (x)), (0, .ref 58)] [] SHF _
      refine AW.goto (dq rfl) (tgt := 59) (by decide) ?_
      refine AW.drop (lv' := [(4, .int ((nI i) + Int32.ofInt 1)), (3, .int ((v) ||| (Int32.ofInt 0))), (2, .int (y)), (1, .int (x)), (0, .ref 58)]) (List.forall_mem_cons.mpr ⟨List.mem_of_getElem? (i := 0) rfl, List.forall_mem_cons.mpr ⟨List.mem_of_getElem? (i := 1) rfl, List.forall_mem_cons.mpr ⟨List.mem_of_getElem? (i := 2) rfl, List.forall_mem_cons.mpr ⟨List.mem_of_getElem? (i := 3) rfl, List.forall_mem_cons.mpr ⟨List.mem_of_getElem? (i := 4) rfl, fun _ h => absurd h List.not_mem_nil⟩⟩⟩⟩⟩) ?_
      exact k5 h1 h4
    · have _ := h4
      refine AW.iconst (dq rfl) ?_
      show AW l (pI pg 196) P kc ks 85 _ _ SHF _
      refine AW.iload (dq rfl) rfl ?_
      show AW l (pI pg 196) P kc ks 87 _ _ SHF _
      refine AW.ishl (dq rfl) ?_
      show AW l (pI pg 196) P kc ks 88 _ _ SHF _
      refine AW.goto (dq rfl) (tgt := 92) (by decide) ?_
      refine AW.ior (dq rfl) ?_
      show AW l (pI pg 196) P kc ks 93 _ _ SHF _
      refine AW.istore_n (dq rfl) (by decide +kernel) ?_
      show AW l (pI pg 196) P kc ks 94 [(3, .int ((v) ||| ((Int32.ofInt 1) <<< ((nI i) &&& 31)))), (4, .int (nI i)), (2, .int (y)), (1, .int (x)), (0, .ref 58)] [] SHF _
      refine AW.iinc (dq rfl) rfl (by decide +kernel) ?_
      show AW l (pI pg 196) P kc ks 97 [(4, .int ((nI i) + Int32.ofInt 1)), (3, .int ((v) ||| ((Int32.ofInt 1) <<< ((nI i) &&& 31)))), (2, .int (y)), (1, .int (x)), (0, .ref 58)] [] SHF _
      refine AW.goto (dq rfl) (tgt := 59) (by decide) ?_
      refine AW.drop (lv' := [(4, .int ((nI i) + Int32.ofInt 1)), (3, .int ((v) ||| ((Int32.ofInt 1) <<< ((nI i) &&& 31)))), (2, .int (y)), (1, .int (x)), (0, .ref 58)]) (List.forall_mem_cons.mpr ⟨List.mem_of_getElem? (i := 0) rfl, List.forall_mem_cons.mpr ⟨List.mem_of_getElem? (i := 1) rfl, List.forall_mem_cons.mpr ⟨List.mem_of_getElem? (i := 2) rfl, List.forall_mem_cons.mpr ⟨List.mem_of_getElem? (i := 3) rfl, List.forall_mem_cons.mpr ⟨List.mem_of_getElem? (i := 4) rfl, fun _ h => absurd h List.not_mem_nil⟩⟩⟩⟩⟩) ?_
      exact k6 h1 h4

theorem mwo_0 {l : aL} {P : aP} {kc ks : Nat} {x y : Int32} {M : aM} (hJ : ∀ e ∈ RM, M.2.2 e.1 e.2.1 = e.2.2)  (Q1 : Int32 → aM → Prop) (c2 : AC l (pI pg 199) (fcI (aset M 58 0 (.int (Int32.ofInt 0))) Q1) 0 0 [.ref 58, .int (x)] SHF (aset M 58 0 (.int (Int32.ofInt 0)))) (r4 : ∀ (y1 : Int32), ∀ (M1 : aM), ∀ (e1 : M1.2.2 = (aset M 58 0 (.int (Int32.ofInt 0))).2.2), ∀ (q1 : Q1 y1 M1), ∀ (h3 : (y1 : Int32) = 0), P (.inl (some (.int (Int32.ofInt 0)))) SHF M1) (Q5 : Int32 → aM → Int32 → aM → Prop) (c6 : ∀ (y1 : Int32), ∀ (M1 : aM), ∀ (e1 : M1.2.2 = (aset M 58 0 (.int (Int32.ofInt 0))).2.2), ∀ (q1 : Q1 y1 M1), ∀ (h3 : ¬ ((y1 : Int32) = 0)), AC l (pI pg 195) (fcI M1 (Q5 y1 M1)) 0 0 [.int (y), .int (Int32.ofInt 0), .int (Int32.ofInt 2)] SHF M1) (Q7 : Int32 → aM → Int32 → aM → Int32 → aM → Prop) (c8 : ∀ (y1 : Int32), ∀ (M1 : aM), ∀ (e1 : M1.2.2 = (aset M 58 0 (.int (Int32.ofInt 0))).2.2), ∀ (q1 : Q1 y1 M1), ∀ (h3 : ¬ ((y1 : Int32) = 0)), ∀ (y5 : Int32), ∀ (M5 : aM), ∀ (e5 : M5.2.2 = M1.2.2), ∀ (q5 : (Q5 y1 M1) y5 M5), AC l (pI pg 175) (fcI M5 (Q7 y1 M1 y5 M5)) 0 0 [.ref 58, .int (y5), .int (Int32.ofInt 1)] SHF M5) (k11 : ∀ (y1 : Int32), ∀ (M1 : aM), ∀ (e1 : M1.2.2 = (aset M 58 0 (.int (Int32.ofInt 0))).2.2), ∀ (q1 : Q1 y1 M1), ∀ (h3 : ¬ ((y1 : Int32) = 0)), ∀ (y5 : Int32), ∀ (M5 : aM), ∀ (e5 : M5.2.2 = M1.2.2), ∀ (q5 : (Q5 y1 M1) y5 M5), ∀ (y7 : Int32), ∀ (M7 : aM), ∀ (e7 : M7.2.2 = M5.2.2), ∀ (q7 : (Q7 y1 M1 y5 M5) y7 M7), ∀ (h9 : ¬ (y7 : Int32) = 0), ∀ (h10 : (Int32.ofInt 2 : Int32) ≤ (y : Int32)), AW l (pI pg 198) P kc ks 59 [(4, .int (Int32.ofInt 0)), (3, .int (Int32.ofInt 0)), (2, .int (y)), (1, .int (x)), (0, .ref 58)] [] SHF M7) (o13 : ∀ (y1 : Int32), ∀ (M1 : aM), ∀ (e1 : M1.2.2 = (aset M 58 0 (.int (Int32.ofInt 0))).2.2), ∀ (q1 : Q1 y1 M1), ∀ (h3 : ¬ ((y1 : Int32) = 0)), ∀ (y5 : Int32), ∀ (M5 : aM), ∀ (e5 : M5.2.2 = M1.2.2), ∀ (q5 : (Q5 y1 M1) y5 M5), ∀ (y7 : Int32), ∀ (M7 : aM), ∀ (e7 : M7.2.2 = M5.2.2), ∀ (q7 : (Q7 y1 M1 y5 M5) y7 M7), ∀ (h9 : ¬ (y7 : Int32) = 0), ∀ (h10 : ¬ ((Int32.ofInt 2 : Int32) ≤ (y : Int32))), ∀ (h12 : ¬ (y : Int32) = 0), vp_in (x) 8) (r14 : ∀ (y1 : Int32), ∀ (M1 : aM), ∀ (e1 : M1.2.2 = (aset M 58 0 (.int (Int32.ofInt 0))).2.2), ∀ (q1 : Q1 y1 M1), ∀ (h3 : ¬ ((y1 : Int32) = 0)), ∀ (y5 : Int32), ∀ (M5 : aM), ∀ (e5 : M5.2.2 = M1.2.2), ∀ (q5 : (Q5 y1 M1) y5 M5), ∀ (y7 : Int32), ∀ (M7 : aM), ∀ (e7 : M7.2.2 = M5.2.2), ∀ (q7 : (Q7 y1 M1 y5 M5) y7 M7), ∀ (h9 : ¬ (y7 : Int32) = 0), ∀ (h10 : ¬ ((Int32.ofInt 2 : Int32) ≤ (y : Int32))), ∀ (h12 : ¬ (y : Int32) = 0), P (.inl (some (.int (M7.1 62 (x).toNatClampNeg)))) SHF M7) (o15 : ∀ (y1 : Int32), ∀ (M1 : aM), ∀ (e1 : M1.2.2 = (aset M 58 0 (.int (Int32.ofInt 0))).2.2), ∀ (q1 : Q1 y1 M1), ∀ (h3 : ¬ ((y1 : Int32) = 0)), ∀ (y5 : Int32), ∀ (M5 : aM), ∀ (e5 : M5.2.2 = M1.2.2), ∀ (q5 : (Q5 y1 M1) y5 M5), ∀ (y7 : Int32), ∀ (M7 : aM), ∀ (e7 : M7.2.2 = M5.2.2), ∀ (q7 : (Q7 y1 M1 y5 M5) y7 M7), ∀ (h9 : ¬ (y7 : Int32) = 0), ∀ (h10 : ¬ ((Int32.ofInt 2 : Int32) ≤ (y : Int32))), ∀ (h12 : (y : Int32) = 0), vp_in (x) 8) (r16 : ∀ (y1 : Int32), ∀ (M1 : aM), ∀ (e1 : M1.2.2 = (aset M 58 0 (.int (Int32.ofInt 0))).2.2), ∀ (q1 : Q1 y1 M1), ∀ (h3 : ¬ ((y1 : Int32) = 0)), ∀ (y5 : Int32), ∀ (M5 : aM), ∀ (e5 : M5.2.2 = M1.2.2), ∀ (q5 : (Q5 y1 M1) y5 M5), ∀ (y7 : Int32), ∀ (M7 : aM), ∀ (e7 : M7.2.2 = M5.2.2), ∀ (q7 : (Q7 y1 M1 y5 M5) y7 M7), ∀ (h9 : ¬ (y7 : Int32) = 0), ∀ (h10 : ¬ ((Int32.ofInt 2 : Int32) ≤ (y : Int32))), ∀ (h12 : (y : Int32) = 0), P (.inl (some (.int (M7.1 61 (x).toNatClampNeg)))) SHF M7) (r17 : ∀ (y1 : Int32), ∀ (M1 : aM), ∀ (e1 : M1.2.2 = (aset M 58 0 (.int (Int32.ofInt 0))).2.2), ∀ (q1 : Q1 y1 M1), ∀ (h3 : ¬ ((y1 : Int32) = 0)), ∀ (y5 : Int32), ∀ (M5 : aM), ∀ (e5 : M5.2.2 = M1.2.2), ∀ (q5 : (Q5 y1 M1) y5 M5), ∀ (y7 : Int32), ∀ (M7 : aM), ∀ (e7 : M7.2.2 = M5.2.2), ∀ (q7 : (Q7 y1 M1 y5 M5) y7 M7), ∀ (h9 : (y7 : Int32) = 0), P (.inl (some (.int (Int32.ofInt 0)))) SHF M7) : AW l (pI pg 198) P kc ks 0 [(0, .ref 58), (1, .int (x)), (2, .int (y))] [] SHF M := by
  refine AW.aload_n (dq rfl) rfl rfl ?_
  show AW l (pI pg 198) P kc ks 1 _ _ SHF _
  refine AW.iconst (dq rfl) ?_
  show AW l (pI pg 198) P kc ks 2 _ _ SHF _
  refine fw_putI (dq rfl) (pg_ok.2.1 198 _ _ _ _ rfl) rfl rfl rfl ?_
  show AW l (pI pg 198) P kc ks 5 _ _ SHF _
  refine AW.aload_n (dq rfl) rfl rfl ?_
  show AW l (pI pg 198) P kc ks 6 _ _ SHF _
  refine AW.iload_n (dq rfl) rfl ?_
  show AW l (pI pg 198) P kc ks 7 _ _ SHF _
  refine fw_callVI (as := [.int (x)]) (dq rfl) (pg_ok.2.2.1 198 _ _ _ _ rfl) rfl (by decide +kernel) rfl rfl (c2) (fun y1 M1 e1 q1 => ?_)
  have hJ1 : ∀ e ∈ RM, M1.2.2 e.1 e.2.1 = e.2.2 := fun e he => by rw [e1]; exact hJ e he
  show AW l (pI pg 198) P kc ks 10 [(0, .ref 58), (1, .int (x)), (2, .int (y))] [.int (y1)] SHF _
  refine AW.if_eq (dq rfl) (tgt := 27) (by decide) (fun h3 => ?_) (fun h3 => ?_)
  · have _ := h3
    refine AW.iconst (dq rfl) ?_
    show AW l (pI pg 198) P kc ks 28 _ _ SHF _
    refine AW.iret (dq rfl) rfl ?_
    exact r4 y1 M1 e1 q1 h3
  · have _ := h3
    refine AW.aload_n (dq rfl) rfl rfl ?_
    show AW l (pI pg 198) P kc ks 14 _ _ SHF _
    refine AW.iload_n (dq rfl) rfl ?_
    show AW l (pI pg 198) P kc ks 15 _ _ SHF _
    refine AW.iconst (dq rfl) ?_
    show AW l (pI pg 198) P kc ks 16 _ _ SHF _
    refine AW.iconst (dq rfl) ?_
    show AW l (pI pg 198) P kc ks 17 _ _ SHF _
    refine fw_callSI (as := [.int (y), .int (Int32.ofInt 0), .int (Int32.ofInt 2)]) (dq rfl) (pg_ok.2.2.1 198 _ _ _ _ rfl) (by decide +kernel) rfl rfl (c6 y1 M1 e1 q1 h3) (fun y5 M5 e5 q5 => ?_)
    have hJ5 : ∀ e ∈ RM, M5.2.2 e.1 e.2.1 = e.2.2 := fun e he => by rw [e5]; exact hJ1 e he
    show AW l (pI pg 198) P kc ks 20 [(0, .ref 58), (1, .int (x)), (2, .int (y))] [.int (y5), .ref 58] SHF _
    refine AW.iconst (dq rfl) ?_
    show AW l (pI pg 198) P kc ks 21 _ _ SHF _
    refine fw_callVI (as := [.int (y5), .int (Int32.ofInt 1)]) (dq rfl) (pg_ok.2.2.1 198 _ _ _ _ rfl) rfl (by decide +kernel) rfl rfl (c8 y1 M1 e1 q1 h3 y5 M5 e5 q5) (fun y7 M7 e7 q7 => ?_)
    have hJ7 : ∀ e ∈ RM, M7.2.2 e.1 e.2.1 = e.2.2 := fun e he => by rw [e7]; exact hJ5 e he
    show AW l (pI pg 198) P kc ks 24 [(0, .ref 58), (1, .int (x)), (2, .int (y))] [.int (y7)] SHF _
    refine AW.if_ne (dq rfl) (tgt := 29) (by decide) (fun h9 => ?_) (fun h9 => ?_)
    · have _ := h9
      refine AW.iload_n (dq rfl) rfl ?_
      show AW l (pI pg 198) P kc ks 30 _ _ SHF _
      refine AW.iconst (dq rfl) ?_
      show AW l (pI pg 198) P kc ks 31 _ _ SHF _
      refine AW.icmp_ge (dq rfl) (tgt := 54) (by decide) (fun h10 => ?_) (fun h10 => ?_)
      · have _ := h10
        refine AW.iconst (dq rfl) ?_
        show AW l (pI pg 198) P kc ks 55 _ _ SHF _
        refine AW.istore_n (dq rfl) (by decide +kernel) ?_
        show AW l (pI pg 198) P kc ks 56 [(3, .int (Int32.ofInt 0)), (0, .ref 58), (1, .int (x)), (2, .int (y))] [] SHF _
        refine AW.iconst (dq rfl) ?_
        show AW l (pI pg 198) P kc ks 57 _ _ SHF _
        refine AW.istore (dq rfl) (by decide +kernel) ?_
        show AW l (pI pg 198) P kc ks 59 [(4, .int (Int32.ofInt 0)), (3, .int (Int32.ofInt 0)), (0, .ref 58), (1, .int (x)), (2, .int (y))] [] SHF _
        refine AW.drop (lv' := [(4, .int (Int32.ofInt 0)), (3, .int (Int32.ofInt 0)), (2, .int (y)), (1, .int (x)), (0, .ref 58)]) (List.forall_mem_cons.mpr ⟨List.mem_of_getElem? (i := 0) rfl, List.forall_mem_cons.mpr ⟨List.mem_of_getElem? (i := 1) rfl, List.forall_mem_cons.mpr ⟨List.mem_of_getElem? (i := 4) rfl, List.forall_mem_cons.mpr ⟨List.mem_of_getElem? (i := 3) rfl, List.forall_mem_cons.mpr ⟨List.mem_of_getElem? (i := 2) rfl, fun _ h => absurd h List.not_mem_nil⟩⟩⟩⟩⟩) ?_
        exact k11 y1 M1 e1 q1 h3 y5 M5 e5 q5 y7 M7 e7 q7 h9 h10
      · have _ := h10
        refine AW.iload_n (dq rfl) rfl ?_
        show AW l (pI pg 198) P kc ks 35 _ _ SHF _
        refine AW.if_ne (dq rfl) (tgt := 47) (by decide) (fun h12 => ?_) (fun h12 => ?_)
        · have _ := h12
          refine AW.aload_n (dq rfl) rfl rfl ?_
          show AW l (pI pg 198) P kc ks 48 _ _ SHF _
          refine fw_get (dq rfl) (pg_ok.2.1 198 _ _ _ _ rfl) rfl (v := .ref 62) (isTA_ok rfl (rgR_ok hJ7 rfl)) ?_
          show AW l (pI pg 198) P kc ks 51 _ _ SHF _
          refine AW.iload_n (dq rfl) rfl ?_
          show AW l (pI pg 198) P kc ks 52 _ _ SHF _
          refine AW.iald (dq rfl) rfl (o13 y1 M1 e1 q1 h3 y5 M5 e5 q5 y7 M7 e7 q7 h9 h10 h12) ?_
          show AW l (pI pg 198) P kc ks 53 _ _ SHF _
          refine AW.iret (dq rfl) rfl ?_
          exact r14 y1 M1 e1 q1 h3 y5 M5 e5 q5 y7 M7 e7 q7 h9 h10 h12
        · have _ := h12
          refine AW.aload_n (dq rfl) rfl rfl ?_
          show AW l (pI pg 198) P kc ks 39 _ _ SHF _
          refine fw_get (dq rfl) (pg_ok.2.1 198 _ _ _ _ rfl) rfl (v := .ref 61) (isTA_ok rfl (rgR_ok hJ7 rfl)) ?_
          show AW l (pI pg 198) P kc ks 42 _ _ SHF _
          refine AW.iload_n (dq rfl) rfl ?_
          show AW l (pI pg 198) P kc ks 43 _ _ SHF _
          refine AW.iald (dq rfl) rfl (o15 y1 M1 e1 q1 h3 y5 M5 e5 q5 y7 M7 e7 q7 h9 h10 h12) ?_
          show AW l (pI pg 198) P kc ks 44 _ _ SHF _
          refine AW.goto (dq rfl) (tgt := 53) (by decide) ?_
          refine AW.iret (dq rfl) rfl ?_
          exact r16 y1 M1 e1 q1 h3 y5 M5 e5 q5 y7 M7 e7 q7 h9 h10 h12
    · have _ := h9
      refine AW.iconst (dq rfl) ?_
      show AW l (pI pg 198) P kc ks 28 _ _ SHF _
      refine AW.iret (dq rfl) rfl ?_
      exact r17 y1 M1 e1 q1 h3 y5 M5 e5 q5 y7 M7 e7 q7 h9

theorem mwo_59 {l : aL} {P : aP} {kc ks : Nat} {i : Nat} {v x y : Int32} {M : aM} (hJ : ∀ e ∈ RM, M.2.2 e.1 e.2.1 = e.2.2)  (r2 : ∀ (h1 : (M.1 58 1 : Int32) ≤ (nI i : Int32)), P (.inl (some (.int (v)))) SHF M) (o3 : ∀ (h1 : ¬ ((M.1 58 1 : Int32) ≤ (nI i : Int32))), vp_in ((((Int8.ofInt 8).toInt32) * (nI i)) + (x)) 48) (k5 : ∀ (h1 : ¬ ((M.1 58 1 : Int32) ≤ (nI i : Int32))), ∀ (h4 : (M.1 63 ((((Int8.ofInt 8).toInt32) * (nI i)) + (x)).toNatClampNeg : Int32) ≤ 0), AW l (pI pg 198) P kc ks 59 [(4, .int ((nI i) + Int32.ofInt 1)), (3, .int ((v) ||| (Int32.ofInt 0))), (2, .int (y)), (1, .int (x)), (0, .ref 58)] [] SHF M) (k6 : ∀ (h1 : ¬ ((M.1 58 1 : Int32) ≤ (nI i : Int32))), ∀ (h4 : ¬ ((M.1 63 ((((Int8.ofInt 8).toInt32) * (nI i)) + (x)).toNatClampNeg : Int32) ≤ 0)), AW l (pI pg 198) P kc ks 59 [(4, .int ((nI i) + Int32.ofInt 1)), (3, .int ((v) ||| ((Int32.ofInt 1) <<< ((nI i) &&& 31)))), (2, .int (y)), (1, .int (x)), (0, .ref 58)] [] SHF M) : AW l (pI pg 198) P kc ks 59 [(4, .int (nI i)), (3, .int (v)), (2, .int (y)), (1, .int (x)), (0, .ref 58)] [] SHF M := by
  refine AW.iload (dq rfl) rfl ?_
  show AW l (pI pg 198) P kc ks 61 _ _ SHF _
  refine AW.aload_n (dq rfl) rfl rfl ?_
  show AW l (pI pg 198) P kc ks 62 _ _ SHF _
  refine fw_get (dq rfl) (pg_ok.2.1 198 _ _ _ _ rfl) rfl (v := .int (M.1 58 1)) rfl ?_
  show AW l (pI pg 198) P kc ks 65 _ _ SHF _
  refine AW.icmp_ge (dq rfl) (tgt := 100) (by decide) (fun h1 => ?_) (fun h1 => ?_)
  · have _ := h1
    refine AW.iload_n (dq rfl) rfl ?_
    show AW l (pI pg 198) P kc ks 101 _ _ SHF _
    refine AW.iret (dq rfl) rfl ?_
    exact r2 h1
  · have _ := h1
    refine AW.iload_n (dq rfl) rfl ?_
    show AW l (pI pg 198) P kc ks 69 _ _ SHF _
    refine AW.aload_n (dq rfl) rfl rfl ?_
    show AW l (pI pg 198) P kc ks 70 _ _ SHF _
    refine fw_get (dq rfl) (pg_ok.2.1 198 _ _ _ _ rfl) rfl (v := .ref 63) (isTA_ok rfl (rgR_ok hJ rfl)) ?_
    show AW l (pI pg 198) P kc ks 73 _ _ SHF _
    refine AW.bipush (dq rfl) ?_
    show AW l (pI pg 198) P kc ks 75 _ _ SHF _
    refine AW.iload (dq rfl) rfl ?_
    show AW l (pI pg 198) P kc ks 77 _ _ SHF _
    refine AW.imul (dq rfl) ?_
    show AW l (pI pg 198) P kc ks 78 _ _ SHF _
    refine AW.iload_n (dq rfl) rfl ?_
    show AW l (pI pg 198) P kc ks 79 _ _ SHF _
    refine AW.iadd (dq rfl) ?_
    show AW l (pI pg 198) P kc ks 80 _ _ SHF _
    refine AW.iald (dq rfl) rfl (o3 h1) ?_
    show AW l (pI pg 198) P kc ks 81 _ _ SHF _
    refine AW.if_le (dq rfl) (tgt := 91) (by decide) (fun h4 => ?_) (fun h4 => ?_)
    · have _ := h4
      refine AW.iconst (dq rfl) ?_
      show AW l (pI pg 198) P kc ks 92 _ _ SHF _
      refine AW.ior (dq rfl) ?_
      show AW l (pI pg 198) P kc ks 93 _ _ SHF _
      refine AW.istore_n (dq rfl) (by decide +kernel) ?_
      show AW l (pI pg 198) P kc ks 94 [(3, .int ((v) ||| (Int32.ofInt 0))), (4, .int (nI i)), (2, .int (y)), (1, .int (x)), (0, .ref 58)] [] SHF _
      refine AW.iinc (dq rfl) rfl (by decide +kernel) ?_
      show AW l (pI pg 198) P kc ks 97 [(4, .int ((nI i) + Int32.ofInt 1)), (3, .int ((v) ||| (Int32.ofInt 0))), (2, .int (y)), (1, .int (x)), (0, .ref 58)] [] SHF _
      refine AW.goto (dq rfl) (tgt := 59) (by decide) ?_
      refine AW.drop (lv' := [(4, .int ((nI i) + Int32.ofInt 1)), (3, .int ((v) ||| (Int32.ofInt 0))), (2, .int (y)), (1, .int (x)), (0, .ref 58)]) (List.forall_mem_cons.mpr ⟨List.mem_of_getElem? (i := 0) rfl, List.forall_mem_cons.mpr ⟨List.mem_of_getElem? (i := 1) rfl, List.forall_mem_cons.mpr ⟨List.mem_of_getElem? (i := 2) rfl, List.forall_mem_cons.mpr ⟨List.mem_of_getElem? (i := 3) rfl, List.forall_mem_cons.mpr ⟨List.mem_of_getElem? (i := 4) rfl, fun _ h => absurd h List.not_mem_nil⟩⟩⟩⟩⟩) ?_
      exact k5 h1 h4
    · have _ := h4
      refine AW.iconst (dq rfl) ?_
      show AW l (pI pg 198) P kc ks 85 _ _ SHF _
      refine AW.iload (dq rfl) rfl ?_
      show AW l (pI pg 198) P kc ks 87 _ _ SHF _
      refine AW.ishl (dq rfl) ?_
      show AW l (pI pg 198) P kc ks 88 _ _ SHF _
      refine AW.goto (dq rfl) (tgt := 92) (by decide) ?_
      refine AW.ior (dq rfl) ?_
      show AW l (pI pg 198) P kc ks 93 _ _ SHF _
      refine AW.istore_n (dq rfl) (by decide +kernel) ?_
      show AW l (pI pg 198) P kc ks 94 [(3, .int ((v) ||| ((Int32.ofInt 1) <<< ((nI i) &&& 31)))), (4, .int (nI i)), (2, .int (y)), (1, .int (x)), (0, .ref 58)] [] SHF _
      refine AW.iinc (dq rfl) rfl (by decide +kernel) ?_
      show AW l (pI pg 198) P kc ks 97 [(4, .int ((nI i) + Int32.ofInt 1)), (3, .int ((v) ||| ((Int32.ofInt 1) <<< ((nI i) &&& 31)))), (2, .int (y)), (1, .int (x)), (0, .ref 58)] [] SHF _
      refine AW.goto (dq rfl) (tgt := 59) (by decide) ?_
      refine AW.drop (lv' := [(4, .int ((nI i) + Int32.ofInt 1)), (3, .int ((v) ||| ((Int32.ofInt 1) <<< ((nI i) &&& 31)))), (2, .int (y)), (1, .int (x)), (0, .ref 58)]) (List.forall_mem_cons.mpr ⟨List.mem_of_getElem? (i := 0) rfl, List.forall_mem_cons.mpr ⟨List.mem_of_getElem? (i := 1) rfl, List.forall_mem_cons.mpr ⟨List.mem_of_getElem? (i := 2) rfl, List.forall_mem_cons.mpr ⟨List.mem_of_getElem? (i := 3) rfl, List.forall_mem_cons.mpr ⟨List.mem_of_getElem? (i := 4) rfl, fun _ h => absurd h List.not_mem_nil⟩⟩⟩⟩⟩) ?_
      exact k6 h1 h4

theorem msk_0 {l : aL} {P : aP} {kc ks : Nat} {x y : Int32} {M : aM} (hJ : ∀ e ∈ RM, M.2.2 e.1 e.2.1 = e.2.2)  (Q1 : Int32 → aM → Prop) (c2 : AC l (pI pg 197) (fcI (aset M 58 0 (.int (Int32.ofInt 0))) Q1) 0 0 [.ref 58, .int (x)] SHF (aset M 58 0 (.int (Int32.ofInt 0)))) (r4 : ∀ (y1 : Int32), ∀ (M1 : aM), ∀ (e1 : M1.2.2 = (aset M 58 0 (.int (Int32.ofInt 0))).2.2), ∀ (q1 : Q1 y1 M1), ∀ (h3 : (y1 : Int32) = 0), P (.inl (some (.int (Int32.ofInt 0)))) SHF M1) (Q5 : Int32 → aM → Int32 → aM → Prop) (c6 : ∀ (y1 : Int32), ∀ (M1 : aM), ∀ (e1 : M1.2.2 = (aset M 58 0 (.int (Int32.ofInt 0))).2.2), ∀ (q1 : Q1 y1 M1), ∀ (h3 : ¬ ((y1 : Int32) = 0)), AC l (pI pg 199) (fcI M1 (Q5 y1 M1)) 0 0 [.ref 58, .int (y)] SHF M1) (r8 : ∀ (y1 : Int32), ∀ (M1 : aM), ∀ (e1 : M1.2.2 = (aset M 58 0 (.int (Int32.ofInt 0))).2.2), ∀ (q1 : Q1 y1 M1), ∀ (h3 : ¬ ((y1 : Int32) = 0)), ∀ (y5 : Int32), ∀ (M5 : aM), ∀ (e5 : M5.2.2 = M1.2.2), ∀ (q5 : (Q5 y1 M1) y5 M5), ∀ (h7 : (y5 : Int32) = 0), P (.inl (some (.int (Int32.ofInt 0)))) SHF M5) (o9 : ∀ (y1 : Int32), ∀ (M1 : aM), ∀ (e1 : M1.2.2 = (aset M 58 0 (.int (Int32.ofInt 0))).2.2), ∀ (q1 : Q1 y1 M1), ∀ (h3 : ¬ ((y1 : Int32) = 0)), ∀ (y5 : Int32), ∀ (M5 : aM), ∀ (e5 : M5.2.2 = M1.2.2), ∀ (q5 : (Q5 y1 M1) y5 M5), ∀ (h7 : ¬ ((y5 : Int32) = 0)), vp_in ((((Int8.ofInt 8).toInt32) * (x)) + (y)) 48) (r10 : ∀ (y1 : Int32), ∀ (M1 : aM), ∀ (e1 : M1.2.2 = (aset M 58 0 (.int (Int32.ofInt 0))).2.2), ∀ (q1 : Q1 y1 M1), ∀ (h3 : ¬ ((y1 : Int32) = 0)), ∀ (y5 : Int32), ∀ (M5 : aM), ∀ (e5 : M5.2.2 = M1.2.2), ∀ (q5 : (Q5 y1 M1) y5 M5), ∀ (h7 : ¬ ((y5 : Int32) = 0)), P (.inl (some (.int (M5.1 63 ((((Int8.ofInt 8).toInt32) * (x)) + (y)).toNatClampNeg)))) SHF M5) : AW l (pI pg 200) P kc ks 0 [(0, .ref 58), (1, .int (x)), (2, .int (y))] [] SHF M := by
  refine AW.aload_n (dq rfl) rfl rfl ?_
  show AW l (pI pg 200) P kc ks 1 _ _ SHF _
  refine AW.iconst (dq rfl) ?_
  show AW l (pI pg 200) P kc ks 2 _ _ SHF _
  refine fw_putI (dq rfl) (pg_ok.2.1 200 _ _ _ _ rfl) rfl rfl rfl ?_
  show AW l (pI pg 200) P kc ks 5 _ _ SHF _
  refine AW.aload_n (dq rfl) rfl rfl ?_
  show AW l (pI pg 200) P kc ks 6 _ _ SHF _
  refine AW.iload_n (dq rfl) rfl ?_
  show AW l (pI pg 200) P kc ks 7 _ _ SHF _
  refine fw_callVI (as := [.int (x)]) (dq rfl) (pg_ok.2.2.1 200 _ _ _ _ rfl) rfl (by decide +kernel) rfl rfl (c2) (fun y1 M1 e1 q1 => ?_)
  have hJ1 : ∀ e ∈ RM, M1.2.2 e.1 e.2.1 = e.2.2 := fun e he => by rw [e1]; exact hJ e he
  show AW l (pI pg 200) P kc ks 10 [(0, .ref 58), (1, .int (x)), (2, .int (y))] [.int (y1)] SHF _
  refine AW.if_eq (dq rfl) (tgt := 35) (by decide) (fun h3 => ?_) (fun h3 => ?_)
  · have _ := h3
    refine AW.iconst (dq rfl) ?_
    show AW l (pI pg 200) P kc ks 36 _ _ SHF _
    refine AW.iret (dq rfl) rfl ?_
    exact r4 y1 M1 e1 q1 h3
  · have _ := h3
    refine AW.aload_n (dq rfl) rfl rfl ?_
    show AW l (pI pg 200) P kc ks 14 _ _ SHF _
    refine AW.iload_n (dq rfl) rfl ?_
    show AW l (pI pg 200) P kc ks 15 _ _ SHF _
    refine fw_callVI (as := [.int (y)]) (dq rfl) (pg_ok.2.2.1 200 _ _ _ _ rfl) rfl (by decide +kernel) rfl rfl (c6 y1 M1 e1 q1 h3) (fun y5 M5 e5 q5 => ?_)
    have hJ5 : ∀ e ∈ RM, M5.2.2 e.1 e.2.1 = e.2.2 := fun e he => by rw [e5]; exact hJ1 e he
    show AW l (pI pg 200) P kc ks 18 [(0, .ref 58), (1, .int (x)), (2, .int (y))] [.int (y5)] SHF _
    refine AW.if_eq (dq rfl) (tgt := 35) (by decide) (fun h7 => ?_) (fun h7 => ?_)
    · have _ := h7
      refine AW.iconst (dq rfl) ?_
      show AW l (pI pg 200) P kc ks 36 _ _ SHF _
      refine AW.iret (dq rfl) rfl ?_
      exact r8 y1 M1 e1 q1 h3 y5 M5 e5 q5 h7
    · have _ := h7
      refine AW.aload_n (dq rfl) rfl rfl ?_
      show AW l (pI pg 200) P kc ks 22 _ _ SHF _
      refine fw_get (dq rfl) (pg_ok.2.1 200 _ _ _ _ rfl) rfl (v := .ref 63) (isTA_ok rfl (rgR_ok hJ5 rfl)) ?_
      show AW l (pI pg 200) P kc ks 25 _ _ SHF _
      refine AW.bipush (dq rfl) ?_
      show AW l (pI pg 200) P kc ks 27 _ _ SHF _
      refine AW.iload_n (dq rfl) rfl ?_
      show AW l (pI pg 200) P kc ks 28 _ _ SHF _
      refine AW.imul (dq rfl) ?_
      show AW l (pI pg 200) P kc ks 29 _ _ SHF _
      refine AW.iload_n (dq rfl) rfl ?_
      show AW l (pI pg 200) P kc ks 30 _ _ SHF _
      refine AW.iadd (dq rfl) ?_
      show AW l (pI pg 200) P kc ks 31 _ _ SHF _
      refine AW.iald (dq rfl) rfl (o9 y1 M1 e1 q1 h3 y5 M5 e5 q5 h7) ?_
      show AW l (pI pg 200) P kc ks 32 _ _ SHF _
      refine AW.goto (dq rfl) (tgt := 36) (by decide) ?_
      refine AW.iret (dq rfl) rfl ?_
      exact r10 y1 M1 e1 q1 h3 y5 M5 e5 q5 h7

theorem mte_0 {l : aL} {P : aP} {kc ks : Nat} {x y : Int32} {M : aM} (hJ : ∀ e ∈ RM, M.2.2 e.1 e.2.1 = e.2.2)  (Q2 : Int32 → aM → Prop) (c3 : ∀ (h1 : (x : Int32) < 0), AC l (pI pg 175) (fcI (aset M 58 0 (.int (Int32.ofInt 0))) Q2) 0 0 [.ref 58, .int (Int32.ofInt 0), .int (Int32.ofInt 1)] SHF (aset M 58 0 (.int (Int32.ofInt 0)))) (r5 : ∀ (h1 : (x : Int32) < 0), ∀ (y2 : Int32), ∀ (M2 : aM), ∀ (e2 : M2.2.2 = (aset M 58 0 (.int (Int32.ofInt 0))).2.2), ∀ (q2 : Q2 y2 M2), ∀ (h4 : (y2 : Int32) = 0), P (.inl (some (.int (Int32.ofInt 0)))) SHF M2) (o6 : ∀ (h1 : (x : Int32) < 0), ∀ (y2 : Int32), ∀ (M2 : aM), ∀ (e2 : M2.2.2 = (aset M 58 0 (.int (Int32.ofInt 0))).2.2), ∀ (q2 : Q2 y2 M2), ∀ (h4 : ¬ ((y2 : Int32) = 0)), vp_in (((Int32.ofInt 4) * (x)) + (y)) 32) (r7 : ∀ (h1 : (x : Int32) < 0), ∀ (y2 : Int32), ∀ (M2 : aM), ∀ (e2 : M2.2.2 = (aset M 58 0 (.int (Int32.ofInt 0))).2.2), ∀ (q2 : Q2 y2 M2), ∀ (h4 : ¬ ((y2 : Int32) = 0)), P (.inl (some (.int (M2.1 64 (((Int32.ofInt 4) * (x)) + (y)).toNatClampNeg)))) SHF M2) (Q9 : Int32 → aM → Prop) (c10 : ∀ (h1 : ¬ ((x : Int32) < 0)), ∀ (h8 : ((aset M 58 0 (.int (Int32.ofInt 0))).1 58 3 : Int32) ≤ (x : Int32)), AC l (pI pg 175) (fcI (aset M 58 0 (.int (Int32.ofInt 0))) Q9) 0 0 [.ref 58, .int (Int32.ofInt 0), .int (Int32.ofInt 1)] SHF (aset M 58 0 (.int (Int32.ofInt 0)))) (r12 : ∀ (h1 : ¬ ((x : Int32) < 0)), ∀ (h8 : ((aset M 58 0 (.int (Int32.ofInt 0))).1 58 3 : Int32) ≤ (x : Int32)), ∀ (y9 : Int32), ∀ (M9 : aM), ∀ (e9 : M9.2.2 = (aset M 58 0 (.int (Int32.ofInt 0))).2.2), ∀ (q9 : Q9 y9 M9), ∀ (h11 : (y9 : Int32) = 0), P (.inl (some (.int (Int32.ofInt 0)))) SHF M9) (o13 : ∀ (h1 : ¬ ((x : Int32) < 0)), ∀ (h8 : ((aset M 58 0 (.int (Int32.ofInt 0))).1 58 3 : Int32) ≤ (x : Int32)), ∀ (y9 : Int32), ∀ (M9 : aM), ∀ (e9 : M9.2.2 = (aset M 58 0 (.int (Int32.ofInt 0))).2.2), ∀ (q9 : Q9 y9 M9), ∀ (h11 : ¬ ((y9 : Int32) = 0)), vp_in (((Int32.ofInt 4) * (x)) + (y)) 32) (r14 : ∀ (h1 : ¬ ((x : Int32) < 0)), ∀ (h8 : ((aset M 58 0 (.int (Int32.ofInt 0))).1 58 3 : Int32) ≤ (x : Int32)), ∀ (y9 : Int32), ∀ (M9 : aM), ∀ (e9 : M9.2.2 = (aset M 58 0 (.int (Int32.ofInt 0))).2.2), ∀ (q9 : Q9 y9 M9), ∀ (h11 : ¬ ((y9 : Int32) = 0)), P (.inl (some (.int (M9.1 64 (((Int32.ofInt 4) * (x)) + (y)).toNatClampNeg)))) SHF M9) (Q15 : Int32 → aM → Prop) (c16 : ∀ (h1 : ¬ ((x : Int32) < 0)), ∀ (h8 : ¬ (((aset M 58 0 (.int (Int32.ofInt 0))).1 58 3 : Int32) ≤ (x : Int32))), AC l (pI pg 195) (fcI (aset M 58 0 (.int (Int32.ofInt 0))) Q15) 0 0 [.int (y), .int (Int32.ofInt 0), .int (Int32.ofInt 3)] SHF (aset M 58 0 (.int (Int32.ofInt 0)))) (Q18 : Int32 → aM → Int32 → aM → Prop) (c19 : ∀ (h1 : ¬ ((x : Int32) < 0)), ∀ (h8 : ¬ (((aset M 58 0 (.int (Int32.ofInt 0))).1 58 3 : Int32) ≤ (x : Int32))), ∀ (y15 : Int32), ∀ (M15 : aM), ∀ (e15 : M15.2.2 = (aset M 58 0 (.int (Int32.ofInt 0))).2.2), ∀ (q15 : Q15 y15 M15), ∀ (h17 : (y15 : Int32) = 0), AC l (pI pg 175) (fcI M15 (Q18 y15 M15)) 0 0 [.ref 58, .int (Int32.ofInt 0), .int (Int32.ofInt 1)] SHF M15) (r21 : ∀ (h1 : ¬ ((x : Int32) < 0)), ∀ (h8 : ¬ (((aset M 58 0 (.int (Int32.ofInt 0))).1 58 3 : Int32) ≤ (x : Int32))), ∀ (y15 : Int32), ∀ (M15 : aM), ∀ (e15 : M15.2.2 = (aset M 58 0 (.int (Int32.ofInt 0))).2.2), ∀ (q15 : Q15 y15 M15), ∀ (h17 : (y15 : Int32) = 0), ∀ (y18 : Int32), ∀ (M18 : aM), ∀ (e18 : M18.2.2 = M15.2.2), ∀ (q18 : (Q18 y15 M15) y18 M18), ∀ (h20 : (y18 : Int32) = 0), P (.inl (some (.int (Int32.ofInt 0)))) SHF M18) (o22 : ∀ (h1 : ¬ ((x : Int32) < 0)), ∀ (h8 : ¬ (((aset M 58 0 (.int (Int32.ofInt 0))).1 58 3 : Int32) ≤ (x : Int32))), ∀ (y15 : Int32), ∀ (M15 : aM), ∀ (e15 : M15.2.2 = (aset M 58 0 (.int (Int32.ofInt 0))).2.2), ∀ (q15 : Q15 y15 M15), ∀ (h17 : (y15 : Int32) = 0), ∀ (y18 : Int32), ∀ (M18 : aM), ∀ (e18 : M18.2.2 = M15.2.2), ∀ (q18 : (Q18 y15 M15) y18 M18), ∀ (h20 : ¬ ((y18 : Int32) = 0)), vp_in (((Int32.ofInt 4) * (x)) + (y)) 32) (r23 : ∀ (h1 : ¬ ((x : Int32) < 0)), ∀ (h8 : ¬ (((aset M 58 0 (.int (Int32.ofInt 0))).1 58 3 : Int32) ≤ (x : Int32))), ∀ (y15 : Int32), ∀ (M15 : aM), ∀ (e15 : M15.2.2 = (aset M 58 0 (.int (Int32.ofInt 0))).2.2), ∀ (q15 : Q15 y15 M15), ∀ (h17 : (y15 : Int32) = 0), ∀ (y18 : Int32), ∀ (M18 : aM), ∀ (e18 : M18.2.2 = M15.2.2), ∀ (q18 : (Q18 y15 M15) y18 M18), ∀ (h20 : ¬ ((y18 : Int32) = 0)), P (.inl (some (.int (M18.1 64 (((Int32.ofInt 4) * (x)) + (y)).toNatClampNeg)))) SHF M18) (Q24 : Int32 → aM → Int32 → aM → Prop) (c25 : ∀ (h1 : ¬ ((x : Int32) < 0)), ∀ (h8 : ¬ (((aset M 58 0 (.int (Int32.ofInt 0))).1 58 3 : Int32) ≤ (x : Int32))), ∀ (y15 : Int32), ∀ (M15 : aM), ∀ (e15 : M15.2.2 = (aset M 58 0 (.int (Int32.ofInt 0))).2.2), ∀ (q15 : Q15 y15 M15), ∀ (h17 : ¬ ((y15 : Int32) = 0)), AC l (pI pg 175) (fcI M15 (Q24 y15 M15)) 0 0 [.ref 58, .int (Int32.ofInt 1), .int (Int32.ofInt 1)] SHF M15) (r27 : ∀ (h1 : ¬ ((x : Int32) < 0)), ∀ (h8 : ¬ (((aset M 58 0 (.int (Int32.ofInt 0))).1 58 3 : Int32) ≤ (x : Int32))), ∀ (y15 : Int32), ∀ (M15 : aM), ∀ (e15 : M15.2.2 = (aset M 58 0 (.int (Int32.ofInt 0))).2.2), ∀ (q15 : Q15 y15 M15), ∀ (h17 : ¬ ((y15 : Int32) = 0)), ∀ (y24 : Int32), ∀ (M24 : aM), ∀ (e24 : M24.2.2 = M15.2.2), ∀ (q24 : (Q24 y15 M15) y24 M24), ∀ (h26 : (y24 : Int32) = 0), P (.inl (some (.int (Int32.ofInt 0)))) SHF M24) (o28 : ∀ (h1 : ¬ ((x : Int32) < 0)), ∀ (h8 : ¬ (((aset M 58 0 (.int (Int32.ofInt 0))).1 58 3 : Int32) ≤ (x : Int32))), ∀ (y15 : Int32), ∀ (M15 : aM), ∀ (e15 : M15.2.2 = (aset M 58 0 (.int (Int32.ofInt 0))).2.2), ∀ (q15 : Q15 y15 M15), ∀ (h17 : ¬ ((y15 : Int32) = 0)), ∀ (y24 : Int32), ∀ (M24 : aM), ∀ (e24 : M24.2.2 = M15.2.2), ∀ (q24 : (Q24 y15 M15) y24 M24), ∀ (h26 : ¬ ((y24 : Int32) = 0)), vp_in (((Int32.ofInt 4) * (x)) + (y)) 32) (r29 : ∀ (h1 : ¬ ((x : Int32) < 0)), ∀ (h8 : ¬ (((aset M 58 0 (.int (Int32.ofInt 0))).1 58 3 : Int32) ≤ (x : Int32))), ∀ (y15 : Int32), ∀ (M15 : aM), ∀ (e15 : M15.2.2 = (aset M 58 0 (.int (Int32.ofInt 0))).2.2), ∀ (q15 : Q15 y15 M15), ∀ (h17 : ¬ ((y15 : Int32) = 0)), ∀ (y24 : Int32), ∀ (M24 : aM), ∀ (e24 : M24.2.2 = M15.2.2), ∀ (q24 : (Q24 y15 M15) y24 M24), ∀ (h26 : ¬ ((y24 : Int32) = 0)), P (.inl (some (.int (M24.1 64 (((Int32.ofInt 4) * (x)) + (y)).toNatClampNeg)))) SHF M24) : AW l (pI pg 201) P kc ks 0 [(0, .ref 58), (1, .int (x)), (2, .int (y))] [] SHF M := by
  refine AW.aload_n (dq rfl) rfl rfl ?_
  show AW l (pI pg 201) P kc ks 1 _ _ SHF _
  refine AW.iconst (dq rfl) ?_
  show AW l (pI pg 201) P kc ks 2 _ _ SHF _
  refine fw_putI (dq rfl) (pg_ok.2.1 201 _ _ _ _ rfl) rfl rfl rfl ?_
  show AW l (pI pg 201) P kc ks 5 _ _ SHF _
  refine AW.aload_n (dq rfl) rfl rfl ?_
  show AW l (pI pg 201) P kc ks 6 _ _ SHF _
  refine AW.iload_n (dq rfl) rfl ?_
  show AW l (pI pg 201) P kc ks 7 _ _ SHF _
  refine AW.if_lt (dq rfl) (tgt := 31) (by decide) (fun h1 => ?_) (fun h1 => ?_)
  · have _ := h1
    refine AW.iconst (dq rfl) ?_
    show AW l (pI pg 201) P kc ks 32 _ _ SHF _
    refine AW.iconst (dq rfl) ?_
    show AW l (pI pg 201) P kc ks 33 _ _ SHF _
    refine fw_callVI (as := [.int (Int32.ofInt 0), .int (Int32.ofInt 1)]) (dq rfl) (pg_ok.2.2.1 201 _ _ _ _ rfl) rfl (by decide +kernel) rfl rfl (c3 h1) (fun y2 M2 e2 q2 => ?_)
    have hJ2 : ∀ e ∈ RM, M2.2.2 e.1 e.2.1 = e.2.2 := fun e he => by rw [e2]; exact hJ e he
    show AW l (pI pg 201) P kc ks 36 [(0, .ref 58), (1, .int (x)), (2, .int (y))] [.int (y2)] SHF _
    refine AW.if_eq (dq rfl) (tgt := 52) (by decide) (fun h4 => ?_) (fun h4 => ?_)
    · have _ := h4
      refine AW.iconst (dq rfl) ?_
      show AW l (pI pg 201) P kc ks 53 _ _ SHF _
      refine AW.iret (dq rfl) rfl ?_
      exact r5 h1 y2 M2 e2 q2 h4
    · have _ := h4
      refine AW.aload_n (dq rfl) rfl rfl ?_
      show AW l (pI pg 201) P kc ks 40 _ _ SHF _
      refine fw_get (dq rfl) (pg_ok.2.1 201 _ _ _ _ rfl) rfl (v := .ref 64) (isTA_ok rfl (rgR_ok hJ2 rfl)) ?_
      show AW l (pI pg 201) P kc ks 43 _ _ SHF _
      refine AW.iconst (dq rfl) ?_
      show AW l (pI pg 201) P kc ks 44 _ _ SHF _
      refine AW.iload_n (dq rfl) rfl ?_
      show AW l (pI pg 201) P kc ks 45 _ _ SHF _
      refine AW.imul (dq rfl) ?_
      show AW l (pI pg 201) P kc ks 46 _ _ SHF _
      refine AW.iload_n (dq rfl) rfl ?_
      show AW l (pI pg 201) P kc ks 47 _ _ SHF _
      refine AW.iadd (dq rfl) ?_
      show AW l (pI pg 201) P kc ks 48 _ _ SHF _
      refine AW.iald (dq rfl) rfl (o6 h1 y2 M2 e2 q2 h4) ?_
      show AW l (pI pg 201) P kc ks 49 _ _ SHF _
      refine AW.goto (dq rfl) (tgt := 53) (by decide) ?_
      refine AW.iret (dq rfl) rfl ?_
      exact r7 h1 y2 M2 e2 q2 h4
  · have _ := h1
    refine AW.iload_n (dq rfl) rfl ?_
    show AW l (pI pg 201) P kc ks 11 _ _ SHF _
    refine AW.aload_n (dq rfl) rfl rfl ?_
    show AW l (pI pg 201) P kc ks 12 _ _ SHF _
    refine fw_get (dq rfl) (pg_ok.2.1 201 _ _ _ _ rfl) rfl (v := .int ((aset M 58 0 (.int (Int32.ofInt 0))).1 58 3)) rfl ?_
    show AW l (pI pg 201) P kc ks 15 _ _ SHF _
    refine AW.icmp_ge (dq rfl) (tgt := 31) (by decide) (fun h8 => ?_) (fun h8 => ?_)
    · have _ := h8
      refine AW.iconst (dq rfl) ?_
      show AW l (pI pg 201) P kc ks 32 _ _ SHF _
      refine AW.iconst (dq rfl) ?_
      show AW l (pI pg 201) P kc ks 33 _ _ SHF _
      refine fw_callVI (as := [.int (Int32.ofInt 0), .int (Int32.ofInt 1)]) (dq rfl) (pg_ok.2.2.1 201 _ _ _ _ rfl) rfl (by decide +kernel) rfl rfl (c10 h1 h8) (fun y9 M9 e9 q9 => ?_)
      have hJ9 : ∀ e ∈ RM, M9.2.2 e.1 e.2.1 = e.2.2 := fun e he => by rw [e9]; exact hJ e he
      show AW l (pI pg 201) P kc ks 36 [(0, .ref 58), (1, .int (x)), (2, .int (y))] [.int (y9)] SHF _
      refine AW.if_eq (dq rfl) (tgt := 52) (by decide) (fun h11 => ?_) (fun h11 => ?_)
      · have _ := h11
        refine AW.iconst (dq rfl) ?_
        show AW l (pI pg 201) P kc ks 53 _ _ SHF _
        refine AW.iret (dq rfl) rfl ?_
        exact r12 h1 h8 y9 M9 e9 q9 h11
      · have _ := h11
        refine AW.aload_n (dq rfl) rfl rfl ?_
        show AW l (pI pg 201) P kc ks 40 _ _ SHF _
        refine fw_get (dq rfl) (pg_ok.2.1 201 _ _ _ _ rfl) rfl (v := .ref 64) (isTA_ok rfl (rgR_ok hJ9 rfl)) ?_
        show AW l (pI pg 201) P kc ks 43 _ _ SHF _
        refine AW.iconst (dq rfl) ?_
        show AW l (pI pg 201) P kc ks 44 _ _ SHF _
        refine AW.iload_n (dq rfl) rfl ?_
        show AW l (pI pg 201) P kc ks 45 _ _ SHF _
        refine AW.imul (dq rfl) ?_
        show AW l (pI pg 201) P kc ks 46 _ _ SHF _
        refine AW.iload_n (dq rfl) rfl ?_
        show AW l (pI pg 201) P kc ks 47 _ _ SHF _
        refine AW.iadd (dq rfl) ?_
        show AW l (pI pg 201) P kc ks 48 _ _ SHF _
        refine AW.iald (dq rfl) rfl (o13 h1 h8 y9 M9 e9 q9 h11) ?_
        show AW l (pI pg 201) P kc ks 49 _ _ SHF _
        refine AW.goto (dq rfl) (tgt := 53) (by decide) ?_
        refine AW.iret (dq rfl) rfl ?_
        exact r14 h1 h8 y9 M9 e9 q9 h11
    · have _ := h8
      refine AW.iload_n (dq rfl) rfl ?_
      show AW l (pI pg 201) P kc ks 19 _ _ SHF _
      refine AW.iconst (dq rfl) ?_
      show AW l (pI pg 201) P kc ks 20 _ _ SHF _
      refine AW.iconst (dq rfl) ?_
      show AW l (pI pg 201) P kc ks 21 _ _ SHF _
      refine fw_callSI (as := [.int (y), .int (Int32.ofInt 0), .int (Int32.ofInt 3)]) (dq rfl) (pg_ok.2.2.1 201 _ _ _ _ rfl) (by decide +kernel) rfl rfl (c16 h1 h8) (fun y15 M15 e15 q15 => ?_)
      have hJ15 : ∀ e ∈ RM, M15.2.2 e.1 e.2.1 = e.2.2 := fun e he => by rw [e15]; exact hJ e he
      show AW l (pI pg 201) P kc ks 24 [(0, .ref 58), (1, .int (x)), (2, .int (y))] [.int (y15), .ref 58] SHF _
      refine AW.if_eq (dq rfl) (tgt := 31) (by decide) (fun h17 => ?_) (fun h17 => ?_)
      · have _ := h17
        refine AW.iconst (dq rfl) ?_
        show AW l (pI pg 201) P kc ks 32 _ _ SHF _
        refine AW.iconst (dq rfl) ?_
        show AW l (pI pg 201) P kc ks 33 _ _ SHF _
        refine fw_callVI (as := [.int (Int32.ofInt 0), .int (Int32.ofInt 1)]) (dq rfl) (pg_ok.2.2.1 201 _ _ _ _ rfl) rfl (by decide +kernel) rfl rfl (c19 h1 h8 y15 M15 e15 q15 h17) (fun y18 M18 e18 q18 => ?_)
        have hJ18 : ∀ e ∈ RM, M18.2.2 e.1 e.2.1 = e.2.2 := fun e he => by rw [e18]; exact hJ15 e he
        show AW l (pI pg 201) P kc ks 36 [(0, .ref 58), (1, .int (x)), (2, .int (y))] [.int (y18)] SHF _
        refine AW.if_eq (dq rfl) (tgt := 52) (by decide) (fun h20 => ?_) (fun h20 => ?_)
        · have _ := h20
          refine AW.iconst (dq rfl) ?_
          show AW l (pI pg 201) P kc ks 53 _ _ SHF _
          refine AW.iret (dq rfl) rfl ?_
          exact r21 h1 h8 y15 M15 e15 q15 h17 y18 M18 e18 q18 h20
        · have _ := h20
          refine AW.aload_n (dq rfl) rfl rfl ?_
          show AW l (pI pg 201) P kc ks 40 _ _ SHF _
          refine fw_get (dq rfl) (pg_ok.2.1 201 _ _ _ _ rfl) rfl (v := .ref 64) (isTA_ok rfl (rgR_ok hJ18 rfl)) ?_
          show AW l (pI pg 201) P kc ks 43 _ _ SHF _
          refine AW.iconst (dq rfl) ?_
          show AW l (pI pg 201) P kc ks 44 _ _ SHF _
          refine AW.iload_n (dq rfl) rfl ?_
          show AW l (pI pg 201) P kc ks 45 _ _ SHF _
          refine AW.imul (dq rfl) ?_
          show AW l (pI pg 201) P kc ks 46 _ _ SHF _
          refine AW.iload_n (dq rfl) rfl ?_
          show AW l (pI pg 201) P kc ks 47 _ _ SHF _
          refine AW.iadd (dq rfl) ?_
          show AW l (pI pg 201) P kc ks 48 _ _ SHF _
          refine AW.iald (dq rfl) rfl (o22 h1 h8 y15 M15 e15 q15 h17 y18 M18 e18 q18 h20) ?_
          show AW l (pI pg 201) P kc ks 49 _ _ SHF _
          refine AW.goto (dq rfl) (tgt := 53) (by decide) ?_
          refine AW.iret (dq rfl) rfl ?_
          exact r23 h1 h8 y15 M15 e15 q15 h17 y18 M18 e18 q18 h20
      · have _ := h17
        refine AW.iconst (dq rfl) ?_
        show AW l (pI pg 201) P kc ks 28 _ _ SHF _
        refine AW.goto (dq rfl) (tgt := 32) (by decide) ?_
        refine AW.iconst (dq rfl) ?_
        show AW l (pI pg 201) P kc ks 33 _ _ SHF _
        refine fw_callVI (as := [.int (Int32.ofInt 1), .int (Int32.ofInt 1)]) (dq rfl) (pg_ok.2.2.1 201 _ _ _ _ rfl) rfl (by decide +kernel) rfl rfl (c25 h1 h8 y15 M15 e15 q15 h17) (fun y24 M24 e24 q24 => ?_)
        have hJ24 : ∀ e ∈ RM, M24.2.2 e.1 e.2.1 = e.2.2 := fun e he => by rw [e24]; exact hJ15 e he
        show AW l (pI pg 201) P kc ks 36 [(0, .ref 58), (1, .int (x)), (2, .int (y))] [.int (y24)] SHF _
        refine AW.if_eq (dq rfl) (tgt := 52) (by decide) (fun h26 => ?_) (fun h26 => ?_)
        · have _ := h26
          refine AW.iconst (dq rfl) ?_
          show AW l (pI pg 201) P kc ks 53 _ _ SHF _
          refine AW.iret (dq rfl) rfl ?_
          exact r27 h1 h8 y15 M15 e15 q15 h17 y24 M24 e24 q24 h26
        · have _ := h26
          refine AW.aload_n (dq rfl) rfl rfl ?_
          show AW l (pI pg 201) P kc ks 40 _ _ SHF _
          refine fw_get (dq rfl) (pg_ok.2.1 201 _ _ _ _ rfl) rfl (v := .ref 64) (isTA_ok rfl (rgR_ok hJ24 rfl)) ?_
          show AW l (pI pg 201) P kc ks 43 _ _ SHF _
          refine AW.iconst (dq rfl) ?_
          show AW l (pI pg 201) P kc ks 44 _ _ SHF _
          refine AW.iload_n (dq rfl) rfl ?_
          show AW l (pI pg 201) P kc ks 45 _ _ SHF _
          refine AW.imul (dq rfl) ?_
          show AW l (pI pg 201) P kc ks 46 _ _ SHF _
          refine AW.iload_n (dq rfl) rfl ?_
          show AW l (pI pg 201) P kc ks 47 _ _ SHF _
          refine AW.iadd (dq rfl) ?_
          show AW l (pI pg 201) P kc ks 48 _ _ SHF _
          refine AW.iald (dq rfl) rfl (o28 h1 h8 y15 M15 e15 q15 h17 y24 M24 e24 q24 h26) ?_
          show AW l (pI pg 201) P kc ks 49 _ _ SHF _
          refine AW.goto (dq rfl) (tgt := 53) (by decide) ?_
          refine AW.iret (dq rfl) rfl ?_
          exact r29 h1 h8 y15 M15 e15 q15 h17 y24 M24 e24 q24 h26

