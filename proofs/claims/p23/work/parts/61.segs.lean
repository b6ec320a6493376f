/-! stretches of the reader's and the house's methods, printed by wip/gen/segs_r.py -/
def RK : List (Nat × Nat × Nat) := [(1, 0, 3), (2, 0, 4), (4, 4, 6), (4, 5, 7), (4, 6, 8), (4, 7, 9), (4, 8, 10), (4, 9, 11), (4, 10, 12), (4, 11, 13), (4, 12, 14), (4, 13, 15), (4, 14, 16), (4, 15, 17), (17, 4, 19), (17, 5, 20), (17, 6, 21), (17, 7, 22), (17, 8, 23), (17, 9, 24), (17, 10, 25), (17, 11, 26), (17, 12, 27), (17, 13, 28), (17, 14, 29), (17, 15, 30)]
def pmI (M : aM) (v : Int32) (F : aM) : aP := fcI M (fun y M' => v = y ∧ F = M')
def hpV (m x : Int32) : Int32 := if x < 0 then Int32.ofInt 0 else if m ≤ x then Int32.ofInt 0 else Int32.ofInt 1
def miV (x y : Int32) : Int32 := if y < x then y else x
def rfM (M : aM) (x : Int32) : aM := aset (aset M 1 1 (.int x)) 1 2 (.int (M.1 2 4))
section FS
variable {l : aL} {P : aP} {kc ks pc id jd np n : Nat} {lv : List (Nat × Value)} {st as : List Value} {M : aM}
theorem fw_callSV {Q : aM → Prop} (hd : decode (iC (pI pg id)) pc = .ok (.invokestatic n, 3)) (hm : okM (pI pg id) (pI pg jd) n 1 np (pN pg jd)) (hr : room pg id jd = true) (hst : Nat.ble (cats st) 8 = true) (hl : as.length = np) (hc : AC l (pI pg jd) (fcV M Q) 0 0 as SHF M)
    (kk : ∀ (M' : aM), M'.2.2 = M.2.2 → Q M' → AW l (pI pg id) P kc ks (pc + 3) lv st SHF M') : AW l (pI pg id) P kc ks pc lv (as.reverse ++ st) SHF M := by
  obtain ⟨w1, w2, -⟩ := hm.2.1 rfl
  refine AW.callS (P1 := fcV M Q) (kc1 := 0) (ks1 := 0) hd w1 ⟨by rw [hl]; exact w2, room_spec hr⟩ (Nat.le_of_ble_eq_true hst) hc (fun v sh' M' hp => ?_) (fun X sh' M' hp => ?_)
  · obtain ⟨rfl, h2, h3, h4⟩ := hp
    cases h3
    exact kk M' h2 h4
  · obtain ⟨-, -, h3, -⟩ := hp
    cases h3
end FS
theorem ref_0 {l : aL} {P : aP} {kc ks : Nat} {x : Int32} {M : aM} (hJ : ∀ e ∈ RK, M.2.2 e.1 e.2.1 = e.2.2) (hl0 : l.1.stackTraces = false) (r1 : P (.inl (some (.int (Int32.ofInt (-1))))) SHF (aset (aset M 1 1 (.int (x))) 1 2 (.int ((aset M 1 1 (.int (x))).1 2 4)))) : AW l (pI pg 66) P kc ks 0 [(0, .ref 1), (1, .int (x))] [] SHF M := by
  refine AW.aload_n (dq rfl) rfl rfl ?_
  show AW l (pI pg 66) P kc ks 1 _ _ SHF _
  refine AW.iload_n (dq rfl) rfl ?_
  show AW l (pI pg 66) P kc ks 2 _ _ SHF _
  refine fw_putI (dq rfl) (pg_ok.2.1 66 _ _ _ _ rfl) rfl rfl rfl ?_
  show AW l (pI pg 66) P kc ks 5 _ _ SHF _
  refine AW.aload_n (dq rfl) rfl rfl ?_
  show AW l (pI pg 66) P kc ks 6 _ _ SHF _
  refine AW.aload_n (dq rfl) rfl rfl ?_
  show AW l (pI pg 66) P kc ks 7 _ _ SHF _
  refine fw_get (dq rfl) (pg_ok.2.1 66 _ _ _ _ rfl) rfl (v := .ref 2) (isTA_ok rfl (rgR_ok hJ rfl)) ?_
  show AW l (pI pg 66) P kc ks 10 _ _ SHF _
  refine fw_get (dq rfl) (pg_ok.2.1 66 _ _ _ _ rfl) rfl (v := .int ((aset M 1 1 (.int (x))).1 2 4)) rfl ?_
  show AW l (pI pg 66) P kc ks 13 _ _ SHF _
  refine fw_putI (dq rfl) (pg_ok.2.1 66 _ _ _ _ rfl) rfl rfl rfl ?_
  show AW l (pI pg 66) P kc ks 16 _ _ SHF _
  refine AW.iconst (dq rfl) ?_
  show AW l (pI pg 66) P kc ks 17 _ _ SHF _
  refine AW.iret (dq rfl) rfl ?_
  exact r1

theorem ref_c {l : aL} (hl0 : l.1.stackTraces = false) {x : Int32} {M : aM} (hJ : ∀ e ∈ RK, M.2.2 e.1 e.2.1 = e.2.2) : AC l (pI pg 66) (pmI M (Int32.ofInt (-1)) (rfM M x)) 0 0 [.ref 1, .int x] SHF M := by
  refine fw_of hl0 ⟨by decide +kernel, by decide +kernel, by decide +kernel⟩ rfl ?_
  exact ref_0 hJ hl0 ⟨rfl, rfl, _, rfl, rfl, rfl⟩

theorem num_0 {l : aL} {P : aP} {kc ks : Nat} {x y : Int32} {M : aM} (hJ : ∀ e ∈ RK, M.2.2 e.1 e.2.1 = e.2.2) (hl0 : l.1.stackTraces = false) (Q1 : aM → Prop) (c2 : AC l (pI pg 48) (fcV M Q1) 0 0 [.ref 2] SHF M) (Q4 : aM → Int32 → aM → Prop) (c5 : ∀ (M1 : aM), ∀ (e1 : M1.2.2 = M.2.2), ∀ (q1 : Q1 M1), ∀ (h3 : (M1.1 2 3 : Int32) = (Int32.ofInt 2 : Int32)), AC l (pI pg 68) (fcI M1 (Q4 M1)) 0 0 [.ref 2] SHF M1) (Q7 : aM → Int32 → aM → Int32 → aM → Prop) (c8 : ∀ (M1 : aM), ∀ (e1 : M1.2.2 = M.2.2), ∀ (q1 : Q1 M1), ∀ (h3 : (M1.1 2 3 : Int32) = (Int32.ofInt 2 : Int32)), ∀ (y4 : Int32), ∀ (M4 : aM), ∀ (e4 : M4.2.2 = M1.2.2), ∀ (q4 : (Q4 M1) y4 M4), ∀ (h6 : (y4 : Int32) ≤ (Int32.ofInt 4 : Int32)), AC l (pI pg 69) (fcI M4 (Q7 M1 y4 M4)) 0 0 [.ref 2] SHF M4) (r11 : ∀ (M1 : aM), ∀ (e1 : M1.2.2 = M.2.2), ∀ (q1 : Q1 M1), ∀ (h3 : (M1.1 2 3 : Int32) = (Int32.ofInt 2 : Int32)), ∀ (y4 : Int32), ∀ (M4 : aM), ∀ (e4 : M4.2.2 = M1.2.2), ∀ (q4 : (Q4 M1) y4 M4), ∀ (h6 : (y4 : Int32) ≤ (Int32.ofInt 4 : Int32)), ∀ (y7 : Int32), ∀ (M7 : aM), ∀ (e7 : M7.2.2 = M4.2.2), ∀ (q7 : (Q7 M1 y4 M4) y7 M7), ∀ (h9 : (y7 : Int32) < (x : Int32)), P (.inl (some (.int (Int32.ofInt (-1))))) SHF (rfM M7 (Int32.ofInt 2))) (r14 : ∀ (M1 : aM), ∀ (e1 : M1.2.2 = M.2.2), ∀ (q1 : Q1 M1), ∀ (h3 : (M1.1 2 3 : Int32) = (Int32.ofInt 2 : Int32)), ∀ (y4 : Int32), ∀ (M4 : aM), ∀ (e4 : M4.2.2 = M1.2.2), ∀ (q4 : (Q4 M1) y4 M4), ∀ (h6 : (y4 : Int32) ≤ (Int32.ofInt 4 : Int32)), ∀ (y7 : Int32), ∀ (M7 : aM), ∀ (e7 : M7.2.2 = M4.2.2), ∀ (q7 : (Q7 M1 y4 M4) y7 M7), ∀ (h9 : ¬ ((y7 : Int32) < (x : Int32))), ∀ (h12 : (y : Int32) < (y7 : Int32)), P (.inl (some (.int (Int32.ofInt (-1))))) SHF (rfM M7 (Int32.ofInt 2))) (r15 : ∀ (M1 : aM), ∀ (e1 : M1.2.2 = M.2.2), ∀ (q1 : Q1 M1), ∀ (h3 : (M1.1 2 3 : Int32) = (Int32.ofInt 2 : Int32)), ∀ (y4 : Int32), ∀ (M4 : aM), ∀ (e4 : M4.2.2 = M1.2.2), ∀ (q4 : (Q4 M1) y4 M4), ∀ (h6 : (y4 : Int32) ≤ (Int32.ofInt 4 : Int32)), ∀ (y7 : Int32), ∀ (M7 : aM), ∀ (e7 : M7.2.2 = M4.2.2), ∀ (q7 : (Q7 M1 y4 M4) y7 M7), ∀ (h9 : ¬ ((y7 : Int32) < (x : Int32))), ∀ (h12 : ¬ ((y : Int32) < (y7 : Int32))), P (.inl (some (.int (y7)))) SHF M7) (r17 : ∀ (M1 : aM), ∀ (e1 : M1.2.2 = M.2.2), ∀ (q1 : Q1 M1), ∀ (h3 : (M1.1 2 3 : Int32) = (Int32.ofInt 2 : Int32)), ∀ (y4 : Int32), ∀ (M4 : aM), ∀ (e4 : M4.2.2 = M1.2.2), ∀ (q4 : (Q4 M1) y4 M4), ∀ (h6 : ¬ ((y4 : Int32) ≤ (Int32.ofInt 4 : Int32))), P (.inl (some (.int (Int32.ofInt (-1))))) SHF (rfM M4 (Int32.ofInt 2))) (r19 : ∀ (M1 : aM), ∀ (e1 : M1.2.2 = M.2.2), ∀ (q1 : Q1 M1), ∀ (h3 : ¬ ((M1.1 2 3 : Int32) = (Int32.ofInt 2 : Int32))), P (.inl (some (.int (Int32.ofInt (-1))))) SHF (rfM M1 (Int32.ofInt 1))) : AW l (pI pg 67) P kc ks 0 [(0, .ref 1), (1, .int (x)), (2, .int (y))] [] SHF M := by
  refine AW.aload_n (dq rfl) rfl rfl ?_
  show AW l (pI pg 67) P kc ks 1 _ _ SHF _
  refine fw_get (dq rfl) (pg_ok.2.1 67 _ _ _ _ rfl) rfl (v := .ref 2) (isTA_ok rfl (rgR_ok hJ rfl)) ?_
  show AW l (pI pg 67) P kc ks 4 _ _ SHF _
  refine fw_callVV (as := []) (dq rfl) (pg_ok.2.2.1 67 _ _ _ _ rfl) rfl (by decide +kernel) rfl rfl (c2) (fun M1 e1 q1 => ?_)
  have hJ1 : ∀ e ∈ RK, M1.2.2 e.1 e.2.1 = e.2.2 := fun e he => by rw [e1]; exact hJ e he
  show AW l (pI pg 67) P kc ks 7 [(0, .ref 1), (1, .int (x)), (2, .int (y))] [] SHF _
  refine AW.aload_n (dq rfl) rfl rfl ?_
  show AW l (pI pg 67) P kc ks 8 _ _ SHF _
  refine fw_get (dq rfl) (pg_ok.2.1 67 _ _ _ _ rfl) rfl (v := .ref 2) (isTA_ok rfl (rgR_ok hJ1 rfl)) ?_
  show AW l (pI pg 67) P kc ks 11 _ _ SHF _
  refine fw_get (dq rfl) (pg_ok.2.1 67 _ _ _ _ rfl) rfl (v := .int (M1.1 2 3)) rfl ?_
  show AW l (pI pg 67) P kc ks 14 _ _ SHF _
  refine AW.iconst (dq rfl) ?_
  show AW l (pI pg 67) P kc ks 15 _ _ SHF _
  refine AW.icmp_eq (dq rfl) (tgt := 24) (by decide) (fun h3 => ?_) (fun h3 => ?_)
  · have _ := h3
    refine AW.aload_n (dq rfl) rfl rfl ?_
    show AW l (pI pg 67) P kc ks 25 _ _ SHF _
    refine fw_get (dq rfl) (pg_ok.2.1 67 _ _ _ _ rfl) rfl (v := .ref 2) (isTA_ok rfl (rgR_ok hJ1 rfl)) ?_
    show AW l (pI pg 67) P kc ks 28 _ _ SHF _
    refine fw_callVI (as := []) (dq rfl) (pg_ok.2.2.1 67 _ _ _ _ rfl) rfl (by decide +kernel) rfl rfl (c5 M1 e1 q1 h3) (fun y4 M4 e4 q4 => ?_)
    have hJ4 : ∀ e ∈ RK, M4.2.2 e.1 e.2.1 = e.2.2 := fun e he => by rw [e4]; exact hJ1 e he
    show AW l (pI pg 67) P kc ks 31 [(0, .ref 1), (1, .int (x)), (2, .int (y))] [.int (y4)] SHF _
    refine AW.iconst (dq rfl) ?_
    show AW l (pI pg 67) P kc ks 32 _ _ SHF _
    refine AW.icmp_le (dq rfl) (tgt := 41) (by decide) (fun h6 => ?_) (fun h6 => ?_)
    · have _ := h6
      refine AW.aload_n (dq rfl) rfl rfl ?_
      show AW l (pI pg 67) P kc ks 42 _ _ SHF _
      refine fw_get (dq rfl) (pg_ok.2.1 67 _ _ _ _ rfl) rfl (v := .ref 2) (isTA_ok rfl (rgR_ok hJ4 rfl)) ?_
      show AW l (pI pg 67) P kc ks 45 _ _ SHF _
      refine fw_callVI (as := []) (dq rfl) (pg_ok.2.2.1 67 _ _ _ _ rfl) rfl (by decide +kernel) rfl rfl (c8 M1 e1 q1 h3 y4 M4 e4 q4 h6) (fun y7 M7 e7 q7 => ?_)
      have hJ7 : ∀ e ∈ RK, M7.2.2 e.1 e.2.1 = e.2.2 := fun e he => by rw [e7]; exact hJ4 e he
      show AW l (pI pg 67) P kc ks 48 [(0, .ref 1), (1, .int (x)), (2, .int (y))] [.int (y7)] SHF _
      refine AW.istore_n (dq rfl) (by decide +kernel) ?_
      show AW l (pI pg 67) P kc ks 49 [(3, .int (y7)), (0, .ref 1), (1, .int (x)), (2, .int (y))] [] SHF _
      refine AW.iload_n (dq rfl) rfl ?_
      show AW l (pI pg 67) P kc ks 50 _ _ SHF _
      refine AW.iload_n (dq rfl) rfl ?_
      show AW l (pI pg 67) P kc ks 51 _ _ SHF _
      refine AW.icmp_lt (dq rfl) (tgt := 63) (by decide) (fun h9 => ?_) (fun h9 => ?_)
      · have _ := h9
        refine AW.aload_n (dq rfl) rfl rfl ?_
        show AW l (pI pg 67) P kc ks 64 _ _ SHF _
        refine AW.iconst (dq rfl) ?_
        show AW l (pI pg 67) P kc ks 65 _ _ SHF _
        refine fw_callVI (as := [.int (Int32.ofInt 2)]) (dq rfl) (pg_ok.2.2.1 67 _ _ _ _ rfl) rfl (by decide +kernel) rfl rfl (ref_c hl0 (fun e he => hJ7 e he)) (fun y10 M10 e10 q10 => ?_)
        obtain ⟨rfl, rfl⟩ := q10
        show AW l (pI pg 67) P kc ks 68 [(3, .int (y7)), (0, .ref 1), (1, .int (x)), (2, .int (y))] [.int (Int32.ofInt (-1))] SHF _
        refine AW.iret (dq rfl) rfl ?_
        exact r11 M1 e1 q1 h3 y4 M4 e4 q4 h6 y7 M7 e7 q7 h9
      · have _ := h9
        refine AW.iload_n (dq rfl) rfl ?_
        show AW l (pI pg 67) P kc ks 55 _ _ SHF _
        refine AW.iload_n (dq rfl) rfl ?_
        show AW l (pI pg 67) P kc ks 56 _ _ SHF _
        refine AW.icmp_gt (dq rfl) (tgt := 63) (by decide) (fun h12 => ?_) (fun h12 => ?_)
        · have _ := h12
          refine AW.aload_n (dq rfl) rfl rfl ?_
          show AW l (pI pg 67) P kc ks 64 _ _ SHF _
          refine AW.iconst (dq rfl) ?_
          show AW l (pI pg 67) P kc ks 65 _ _ SHF _
          refine fw_callVI (as := [.int (Int32.ofInt 2)]) (dq rfl) (pg_ok.2.2.1 67 _ _ _ _ rfl) rfl (by decide +kernel) rfl rfl (ref_c hl0 (fun e he => hJ7 e he)) (fun y13 M13 e13 q13 => ?_)
          obtain ⟨rfl, rfl⟩ := q13
          show AW l (pI pg 67) P kc ks 68 [(3, .int (y7)), (0, .ref 1), (1, .int (x)), (2, .int (y))] [.int (Int32.ofInt (-1))] SHF _
          refine AW.iret (dq rfl) rfl ?_
          exact r14 M1 e1 q1 h3 y4 M4 e4 q4 h6 y7 M7 e7 q7 h9 h12
        · have _ := h12
          refine AW.iload_n (dq rfl) rfl ?_
          show AW l (pI pg 67) P kc ks 60 _ _ SHF _
          refine AW.goto (dq rfl) (tgt := 68) (by decide) ?_
          refine AW.iret (dq rfl) rfl ?_
          exact r15 M1 e1 q1 h3 y4 M4 e4 q4 h6 y7 M7 e7 q7 h9 h12
    · have _ := h6
      refine AW.aload_n (dq rfl) rfl rfl ?_
      show AW l (pI pg 67) P kc ks 36 _ _ SHF _
      refine AW.iconst (dq rfl) ?_
      show AW l (pI pg 67) P kc ks 37 _ _ SHF _
      refine fw_callVI (as := [.int (Int32.ofInt 2)]) (dq rfl) (pg_ok.2.2.1 67 _ _ _ _ rfl) rfl (by decide +kernel) rfl rfl (ref_c hl0 (fun e he => hJ4 e he)) (fun y16 M16 e16 q16 => ?_)
      obtain ⟨rfl, rfl⟩ := q16
      show AW l (pI pg 67) P kc ks 40 [(0, .ref 1), (1, .int (x)), (2, .int (y))] [.int (Int32.ofInt (-1))] SHF _
      refine AW.iret (dq rfl) rfl ?_
      exact r17 M1 e1 q1 h3 y4 M4 e4 q4 h6
  · have _ := h3
    refine AW.aload_n (dq rfl) rfl rfl ?_
    show AW l (pI pg 67) P kc ks 19 _ _ SHF _
    refine AW.iconst (dq rfl) ?_
    show AW l (pI pg 67) P kc ks 20 _ _ SHF _
    refine fw_callVI (as := [.int (Int32.ofInt 1)]) (dq rfl) (pg_ok.2.2.1 67 _ _ _ _ rfl) rfl (by decide +kernel) rfl rfl (ref_c hl0 (fun e he => hJ1 e he)) (fun y18 M18 e18 q18 => ?_)
    obtain ⟨rfl, rfl⟩ := q18
    show AW l (pI pg 67) P kc ks 23 [(0, .ref 1), (1, .int (x)), (2, .int (y))] [.int (Int32.ofInt (-1))] SHF _
    refine AW.iret (dq rfl) rfl ?_
    exact r19 M1 e1 q1 h3

theorem ile_0 {l : aL} {P : aP} {kc ks : Nat} {M : aM} (hJ : ∀ e ∈ RK, M.2.2 e.1 e.2.1 = e.2.2) (hl0 : l.1.stackTraces = false) (r3 : ∀ (h1 : ¬ (M.1 2 3 : Int32) = (Int32.ofInt 3 : Int32)), P (.inl (some (.int (Int32.ofInt 0)))) SHF (rfM M (Int32.ofInt 1))) (r4 : ∀ (h1 : (M.1 2 3 : Int32) = (Int32.ofInt 3 : Int32)), P (.inl (some (.int (Int32.ofInt 1)))) SHF M) : AW l (pI pg 72) P kc ks 0 [(0, .ref 1)] [] SHF M := by
  refine AW.aload_n (dq rfl) rfl rfl ?_
  show AW l (pI pg 72) P kc ks 1 _ _ SHF _
  refine fw_get (dq rfl) (pg_ok.2.1 72 _ _ _ _ rfl) rfl (v := .ref 2) (isTA_ok rfl (rgR_ok hJ rfl)) ?_
  show AW l (pI pg 72) P kc ks 4 _ _ SHF _
  refine fw_get (dq rfl) (pg_ok.2.1 72 _ _ _ _ rfl) rfl (v := .int (M.1 2 3)) rfl ?_
  show AW l (pI pg 72) P kc ks 7 _ _ SHF _
  refine AW.iconst (dq rfl) ?_
  show AW l (pI pg 72) P kc ks 8 _ _ SHF _
  refine AW.icmp_ne (dq rfl) (tgt := 13) (by decide) (fun h1 => ?_) (fun h1 => ?_)
  · have _ := h1
    refine AW.aload_n (dq rfl) rfl rfl ?_
    show AW l (pI pg 72) P kc ks 14 _ _ SHF _
    refine AW.iconst (dq rfl) ?_
    show AW l (pI pg 72) P kc ks 15 _ _ SHF _
    refine fw_callVI (as := [.int (Int32.ofInt 1)]) (dq rfl) (pg_ok.2.2.1 72 _ _ _ _ rfl) rfl (by decide +kernel) rfl rfl (ref_c hl0 (fun e he => hJ e he)) (fun y2 M2 e2 q2 => ?_)
    obtain ⟨rfl, rfl⟩ := q2
    show AW l (pI pg 72) P kc ks 18 [(0, .ref 1)] [.int (Int32.ofInt (-1))] SHF _
    refine AW.pop (dq rfl) rfl ?_
    show AW l (pI pg 72) P kc ks 19 _ _ SHF _
    refine AW.iconst (dq rfl) ?_
    show AW l (pI pg 72) P kc ks 20 _ _ SHF _
    refine AW.zret (dq rfl) rfl (by decide) ?_
    exact r3 h1
  · have _ := h1
    refine AW.iconst (dq rfl) ?_
    show AW l (pI pg 72) P kc ks 12 _ _ SHF _
    refine AW.zret (dq rfl) rfl (by decide) ?_
    exact r4 h1

theorem rle_0 {l : aL} {P : aP} {kc ks : Nat} {M : aM} (hJ : ∀ e ∈ RK, M.2.2 e.1 e.2.1 = e.2.2) (hl0 : l.1.stackTraces = false) (Q1 : aM → Prop) (c2 : AC l (pI pg 48) (fcV M Q1) 0 0 [.ref 2] SHF M) (Q3 : aM → Int32 → aM → Prop) (c4 : ∀ (M1 : aM), ∀ (e1 : M1.2.2 = M.2.2), ∀ (q1 : Q1 M1), AC l (pI pg 72) (fcI M1 (Q3 M1)) 0 0 [.ref 1] SHF M1) (z5 : ∀ (M1 : aM), ∀ (e1 : M1.2.2 = M.2.2), ∀ (q1 : Q1 M1), ∀ (y3 : Int32), ∀ (M3 : aM), ∀ (e3 : M3.2.2 = M1.2.2), ∀ (q3 : (Q3 M1) y3 M3), narrow (.boolean) (.int (y3)) = .int (y3)) (r6 : ∀ (M1 : aM), ∀ (e1 : M1.2.2 = M.2.2), ∀ (q1 : Q1 M1), ∀ (y3 : Int32), ∀ (M3 : aM), ∀ (e3 : M3.2.2 = M1.2.2), ∀ (q3 : (Q3 M1) y3 M3), P (.inl (some (.int (y3)))) SHF M3) : AW l (pI pg 76) P kc ks 0 [(0, .ref 1)] [] SHF M := by
  refine AW.aload_n (dq rfl) rfl rfl ?_
  show AW l (pI pg 76) P kc ks 1 _ _ SHF _
  refine fw_get (dq rfl) (pg_ok.2.1 76 _ _ _ _ rfl) rfl (v := .ref 2) (isTA_ok rfl (rgR_ok hJ rfl)) ?_
  show AW l (pI pg 76) P kc ks 4 _ _ SHF _
  refine fw_callVV (as := []) (dq rfl) (pg_ok.2.2.1 76 _ _ _ _ rfl) rfl (by decide +kernel) rfl rfl (c2) (fun M1 e1 q1 => ?_)
  have hJ1 : ∀ e ∈ RK, M1.2.2 e.1 e.2.1 = e.2.2 := fun e he => by rw [e1]; exact hJ e he
  show AW l (pI pg 76) P kc ks 7 [(0, .ref 1)] [] SHF _
  refine AW.aload_n (dq rfl) rfl rfl ?_
  show AW l (pI pg 76) P kc ks 8 _ _ SHF _
  refine fw_callVI (as := []) (dq rfl) (pg_ok.2.2.1 76 _ _ _ _ rfl) rfl (by decide +kernel) rfl rfl (c4 M1 e1 q1) (fun y3 M3 e3 q3 => ?_)
  have hJ3 : ∀ e ∈ RK, M3.2.2 e.1 e.2.1 = e.2.2 := fun e he => by rw [e3]; exact hJ1 e he
  show AW l (pI pg 76) P kc ks 11 [(0, .ref 1)] [.int (y3)] SHF _
  refine AW.zret (dq rfl) rfl (z5 M1 e1 q1 y3 M3 e3 q3) ?_
  exact r6 M1 e1 q1 y3 M3 e3 q3

theorem rew_0 {l : aL} {P : aP} {kc ks : Nat} {x : Int32} {M : aM} (hJ : ∀ e ∈ RK, M.2.2 e.1 e.2.1 = e.2.2) (hl0 : l.1.stackTraces = false) (r1 : P (.inl none) SHF (aset (aset M 2 2 (.int (x))) 2 5 (.int (Int32.ofInt 0)))) : AW l (pI pg 47) P kc ks 0 [(0, .ref 2), (1, .int (x))] [] SHF M := by
  refine AW.aload_n (dq rfl) rfl rfl ?_
  show AW l (pI pg 47) P kc ks 1 _ _ SHF _
  refine AW.iload_n (dq rfl) rfl ?_
  show AW l (pI pg 47) P kc ks 2 _ _ SHF _
  refine fw_putI (dq rfl) (pg_ok.2.1 47 _ _ _ _ rfl) rfl rfl rfl ?_
  show AW l (pI pg 47) P kc ks 5 _ _ SHF _
  refine AW.aload_n (dq rfl) rfl rfl ?_
  show AW l (pI pg 47) P kc ks 6 _ _ SHF _
  refine AW.iconst (dq rfl) ?_
  show AW l (pI pg 47) P kc ks 7 _ _ SHF _
  refine fw_putI (dq rfl) (pg_ok.2.1 47 _ _ _ _ rfl) rfl rfl rfl ?_
  show AW l (pI pg 47) P kc ks 10 _ _ SHF _
  refine AW.vret (dq rfl) rfl ?_
  exact r1

theorem hpeA_0 {l : aL} {P : aP} {kc ks : Nat} {x : Int32} {M : aM} (hJ : ∀ e ∈ RK, M.2.2 e.1 e.2.1 = e.2.2) (hl0 : l.1.stackTraces = false) (r2 : ∀ (h1 : (x : Int32) < 0), P (.inl (some (.int (Int32.ofInt 0)))) SHF M) (r4 : ∀ (h1 : ¬ ((x : Int32) < 0)), ∀ (h3 : (M.1 4 0 : Int32) ≤ (x : Int32)), P (.inl (some (.int (Int32.ofInt 0)))) SHF M) (r5 : ∀ (h1 : ¬ ((x : Int32) < 0)), ∀ (h3 : ¬ ((M.1 4 0 : Int32) ≤ (x : Int32))), P (.inl (some (.int (Int32.ofInt 1)))) SHF M) : AW l (pI pg 28) P kc ks 0 [(0, .ref 4), (1, .int (x))] [] SHF M := by
  refine AW.iload_n (dq rfl) rfl ?_
  show AW l (pI pg 28) P kc ks 1 _ _ SHF _
  refine AW.if_lt (dq rfl) (tgt := 16) (by decide) (fun h1 => ?_) (fun h1 => ?_)
  · have _ := h1
    refine AW.iconst (dq rfl) ?_
    show AW l (pI pg 28) P kc ks 17 _ _ SHF _
    refine AW.zret (dq rfl) rfl (by decide) ?_
    exact r2 h1
  · have _ := h1
    refine AW.iload_n (dq rfl) rfl ?_
    show AW l (pI pg 28) P kc ks 5 _ _ SHF _
    refine AW.aload_n (dq rfl) rfl rfl ?_
    show AW l (pI pg 28) P kc ks 6 _ _ SHF _
    refine fw_get (dq rfl) (pg_ok.2.1 28 _ _ _ _ rfl) rfl (v := .int (M.1 4 0)) rfl ?_
    show AW l (pI pg 28) P kc ks 9 _ _ SHF _
    refine AW.icmp_ge (dq rfl) (tgt := 16) (by decide) (fun h3 => ?_) (fun h3 => ?_)
    · have _ := h3
      refine AW.iconst (dq rfl) ?_
      show AW l (pI pg 28) P kc ks 17 _ _ SHF _
      refine AW.zret (dq rfl) rfl (by decide) ?_
      exact r4 h1 h3
    · have _ := h3
      refine AW.iconst (dq rfl) ?_
      show AW l (pI pg 28) P kc ks 13 _ _ SHF _
      refine AW.goto (dq rfl) (tgt := 17) (by decide) ?_
      refine AW.zret (dq rfl) rfl (by decide) ?_
      exact r5 h1 h3

theorem hpeA_c {l : aL} (hl0 : l.1.stackTraces = false) {x : Int32} {M : aM} (hJ : ∀ e ∈ RK, M.2.2 e.1 e.2.1 = e.2.2) : AC l (pI pg 28) (pvI M (hpV (M.1 4 0) x)) 0 0 [.ref 4, .int x] SHF M := by
  refine fw_of hl0 ⟨by decide +kernel, by decide +kernel, by decide +kernel⟩ rfl ?_
  refine hpeA_0 hJ hl0 (fun h => ?_) (fun h h2 => ?_) (fun h h2 => ?_)
  · rw [show hpV (M.1 4 0) x = Int32.ofInt 0 by unfold hpV; rw [if_pos h]]
    exact pvI_of
  · rw [show hpV (M.1 4 0) x = Int32.ofInt 0 by unfold hpV; rw [if_neg h, if_pos h2]]
    exact pvI_of
  · rw [show hpV (M.1 4 0) x = Int32.ofInt 1 by unfold hpV; rw [if_neg h, if_neg h2]]
    exact pvI_of

theorem hwoA_0 {l : aL} {P : aP} {kc ks : Nat} {x : Int32} {M : aM} (hJ : ∀ e ∈ RK, M.2.2 e.1 e.2.1 = e.2.2) (hl0 : l.1.stackTraces = false) (r2 : ∀ (h1 : (x : Int32) < 0), P (.inl (some (.int (Int32.ofInt 0)))) SHF M) (r4 : ∀ (h1 : ¬ ((x : Int32) < 0)), ∀ (h3 : (M.1 4 1 : Int32) ≤ (x : Int32)), P (.inl (some (.int (Int32.ofInt 0)))) SHF M) (r5 : ∀ (h1 : ¬ ((x : Int32) < 0)), ∀ (h3 : ¬ ((M.1 4 1 : Int32) ≤ (x : Int32))), P (.inl (some (.int (Int32.ofInt 1)))) SHF M) : AW l (pI pg 29) P kc ks 0 [(0, .ref 4), (1, .int (x))] [] SHF M := by
  refine AW.iload_n (dq rfl) rfl ?_
  show AW l (pI pg 29) P kc ks 1 _ _ SHF _
  refine AW.if_lt (dq rfl) (tgt := 16) (by decide) (fun h1 => ?_) (fun h1 => ?_)
  · have _ := h1
    refine AW.iconst (dq rfl) ?_
    show AW l (pI pg 29) P kc ks 17 _ _ SHF _
    refine AW.zret (dq rfl) rfl (by decide) ?_
    exact r2 h1
  · have _ := h1
    refine AW.iload_n (dq rfl) rfl ?_
    show AW l (pI pg 29) P kc ks 5 _ _ SHF _
    refine AW.aload_n (dq rfl) rfl rfl ?_
    show AW l (pI pg 29) P kc ks 6 _ _ SHF _
    refine fw_get (dq rfl) (pg_ok.2.1 29 _ _ _ _ rfl) rfl (v := .int (M.1 4 1)) rfl ?_
    show AW l (pI pg 29) P kc ks 9 _ _ SHF _
    refine AW.icmp_ge (dq rfl) (tgt := 16) (by decide) (fun h3 => ?_) (fun h3 => ?_)
    · have _ := h3
      refine AW.iconst (dq rfl) ?_
      show AW l (pI pg 29) P kc ks 17 _ _ SHF _
      refine AW.zret (dq rfl) rfl (by decide) ?_
      exact r4 h1 h3
    · have _ := h3
      refine AW.iconst (dq rfl) ?_
      show AW l (pI pg 29) P kc ks 13 _ _ SHF _
      refine AW.goto (dq rfl) (tgt := 17) (by decide) ?_
      refine AW.zret (dq rfl) rfl (by decide) ?_
      exact r5 h1 h3

theorem hwoA_c {l : aL} (hl0 : l.1.stackTraces = false) {x : Int32} {M : aM} (hJ : ∀ e ∈ RK, M.2.2 e.1 e.2.1 = e.2.2) : AC l (pI pg 29) (pvI M (hpV (M.1 4 1) x)) 0 0 [.ref 4, .int x] SHF M := by
  refine fw_of hl0 ⟨by decide +kernel, by decide +kernel, by decide +kernel⟩ rfl ?_
  refine hwoA_0 hJ hl0 (fun h => ?_) (fun h h2 => ?_) (fun h h2 => ?_)
  · rw [show hpV (M.1 4 1) x = Int32.ofInt 0 by unfold hpV; rw [if_pos h]]
    exact pvI_of
  · rw [show hpV (M.1 4 1) x = Int32.ofInt 0 by unfold hpV; rw [if_neg h, if_pos h2]]
    exact pvI_of
  · rw [show hpV (M.1 4 1) x = Int32.ofInt 1 by unfold hpV; rw [if_neg h, if_neg h2]]
    exact pvI_of

theorem rpnA_0 {l : aL} {P : aP} {kc ks : Nat} {M : aM} (hJ : ∀ e ∈ RK, M.2.2 e.1 e.2.1 = e.2.2) (hl0 : l.1.stackTraces = false) (Q1 : Int32 → aM → Prop) (c2 : AC l (pI pg 67) (fcI M Q1) 0 0 [.ref 1, .int (Int32.ofInt 0), .int ((Int16.ofInt 9999).toInt32)] SHF M) (r4 : ∀ (y1 : Int32), ∀ (M1 : aM), ∀ (e1 : M1.2.2 = M.2.2), ∀ (q1 : Q1 y1 M1), ∀ (h3 : (y1 : Int32) = (Int32.ofInt (-1) : Int32)), P (.inl (some (.int (y1)))) SHF M1) (r8 : ∀ (y1 : Int32), ∀ (M1 : aM), ∀ (e1 : M1.2.2 = M.2.2), ∀ (q1 : Q1 y1 M1), ∀ (h3 : ¬ ((y1 : Int32) = (Int32.ofInt (-1) : Int32))), ∀ (h6 : (hpV (M1.1 4 0) (y1) : Int32) = 0), P (.inl (some (.int (Int32.ofInt (-1))))) SHF (rfM M1 (Int32.ofInt 3))) (r9 : ∀ (y1 : Int32), ∀ (M1 : aM), ∀ (e1 : M1.2.2 = M.2.2), ∀ (q1 : Q1 y1 M1), ∀ (h3 : ¬ ((y1 : Int32) = (Int32.ofInt (-1) : Int32))), ∀ (h6 : ¬ ((hpV (M1.1 4 0) (y1) : Int32) = 0)), P (.inl (some (.int (y1)))) SHF M1) : AW l (pI pg 79) P kc ks 0 [(0, .ref 1), (1, .ref 4)] [] SHF M := by
  refine AW.aload_n (dq rfl) rfl rfl ?_
  show AW l (pI pg 79) P kc ks 1 _ _ SHF _
  refine AW.iconst (dq rfl) ?_
  show AW l (pI pg 79) P kc ks 2 _ _ SHF _
  refine AW.sipush (dq rfl) ?_
  show AW l (pI pg 79) P kc ks 5 _ _ SHF _
  refine fw_callVI (as := [.int (Int32.ofInt 0), .int ((Int16.ofInt 9999).toInt32)]) (dq rfl) (pg_ok.2.2.1 79 _ _ _ _ rfl) rfl (by decide +kernel) rfl rfl (c2) (fun y1 M1 e1 q1 => ?_)
  have hJ1 : ∀ e ∈ RK, M1.2.2 e.1 e.2.1 = e.2.2 := fun e he => by rw [e1]; exact hJ e he
  show AW l (pI pg 79) P kc ks 8 [(0, .ref 1), (1, .ref 4)] [.int (y1)] SHF _
  refine AW.istore_n (dq rfl) (by decide +kernel) ?_
  show AW l (pI pg 79) P kc ks 9 [(2, .int (y1)), (0, .ref 1), (1, .ref 4)] [] SHF _
  refine AW.iload_n (dq rfl) rfl ?_
  show AW l (pI pg 79) P kc ks 10 _ _ SHF _
  refine AW.iconst (dq rfl) ?_
  show AW l (pI pg 79) P kc ks 11 _ _ SHF _
  refine AW.icmp_eq (dq rfl) (tgt := 22) (by decide) (fun h3 => ?_) (fun h3 => ?_)
  · have _ := h3
    refine AW.iload_n (dq rfl) rfl ?_
    show AW l (pI pg 79) P kc ks 23 _ _ SHF _
    refine AW.goto (dq rfl) (tgt := 31) (by decide) ?_
    refine AW.iret (dq rfl) rfl ?_
    exact r4 y1 M1 e1 q1 h3
  · have _ := h3
    refine AW.aload_n (dq rfl) rfl rfl ?_
    show AW l (pI pg 79) P kc ks 15 _ _ SHF _
    refine AW.iload_n (dq rfl) rfl ?_
    show AW l (pI pg 79) P kc ks 16 _ _ SHF _
    refine fw_callVI (as := [.int (y1)]) (dq rfl) (pg_ok.2.2.1 79 _ _ _ _ rfl) rfl (by decide +kernel) rfl rfl (hpeA_c hl0 (fun e he => hJ1 e he)) (fun y5 M5 e5 q5 => ?_)
    obtain ⟨rfl, rfl⟩ := q5
    show AW l (pI pg 79) P kc ks 19 [(2, .int (y1)), (0, .ref 1), (1, .ref 4)] [.int (hpV (M1.1 4 0) (y1))] SHF _
    refine AW.if_eq (dq rfl) (tgt := 26) (by decide) (fun h6 => ?_) (fun h6 => ?_)
    · have _ := h6
      refine AW.aload_n (dq rfl) rfl rfl ?_
      show AW l (pI pg 79) P kc ks 27 _ _ SHF _
      refine AW.iconst (dq rfl) ?_
      show AW l (pI pg 79) P kc ks 28 _ _ SHF _
      refine fw_callVI (as := [.int (Int32.ofInt 3)]) (dq rfl) (pg_ok.2.2.1 79 _ _ _ _ rfl) rfl (by decide +kernel) rfl rfl (ref_c hl0 (fun e he => hJ1 e he)) (fun y7 M7 e7 q7 => ?_)
      obtain ⟨rfl, rfl⟩ := q7
      show AW l (pI pg 79) P kc ks 31 [(2, .int (y1)), (0, .ref 1), (1, .ref 4)] [.int (Int32.ofInt (-1))] SHF _
      refine AW.iret (dq rfl) rfl ?_
      exact r8 y1 M1 e1 q1 h3 h6
    · have _ := h6
      refine AW.iload_n (dq rfl) rfl ?_
      show AW l (pI pg 79) P kc ks 23 _ _ SHF _
      refine AW.goto (dq rfl) (tgt := 31) (by decide) ?_
      refine AW.iret (dq rfl) rfl ?_
      exact r9 y1 M1 e1 q1 h3 h6

theorem rnwA_0 {l : aL} {P : aP} {kc ks : Nat} {x : Int32} {M : aM} (hJ : ∀ e ∈ RK, M.2.2 e.1 e.2.1 = e.2.2) (hl0 : l.1.stackTraces = false) (Q1 : Int32 → aM → Prop) (c2 : AC l (pI pg 67) (fcI M Q1) 0 0 [.ref 1, .int (Int32.ofInt 0), .int ((Int16.ofInt 9999).toInt32)] SHF M) (o6 : ∀ (y1 : Int32), ∀ (M1 : aM), ∀ (e1 : M1.2.2 = M.2.2), ∀ (q1 : Q1 y1 M1), ∀ (h3 : ¬ (y1 : Int32) = (Int32.ofInt (-1) : Int32)), ∀ (h5 : ¬ (hpV (M1.1 4 1) (y1) : Int32) = 0), vp_in (x) 6) (r9 : ∀ (y1 : Int32), ∀ (M1 : aM), ∀ (e1 : M1.2.2 = M.2.2), ∀ (q1 : Q1 y1 M1), ∀ (h3 : ¬ (y1 : Int32) = (Int32.ofInt (-1) : Int32)), ∀ (h5 : ¬ (hpV (M1.1 4 1) (y1) : Int32) = 0), ∀ (h7 : ¬ ((((M1.1 7 (x).toNatClampNeg) ||| (M1.1 8 (x).toNatClampNeg)) >>> ((y1) &&& 31)) &&& (Int32.ofInt 1) : Int32) = 0), P (.inl (some (.int (Int32.ofInt (-1))))) SHF (rfM M1 (Int32.ofInt 4))) (r10 : ∀ (y1 : Int32), ∀ (M1 : aM), ∀ (e1 : M1.2.2 = M.2.2), ∀ (q1 : Q1 y1 M1), ∀ (h3 : ¬ (y1 : Int32) = (Int32.ofInt (-1) : Int32)), ∀ (h5 : ¬ (hpV (M1.1 4 1) (y1) : Int32) = 0), ∀ (h7 : ((((M1.1 7 (x).toNatClampNeg) ||| (M1.1 8 (x).toNatClampNeg)) >>> ((y1) &&& 31)) &&& (Int32.ofInt 1) : Int32) = 0), P (.inl (some (.int (y1)))) SHF M1) (r12 : ∀ (y1 : Int32), ∀ (M1 : aM), ∀ (e1 : M1.2.2 = M.2.2), ∀ (q1 : Q1 y1 M1), ∀ (h3 : ¬ (y1 : Int32) = (Int32.ofInt (-1) : Int32)), ∀ (h5 : (hpV (M1.1 4 1) (y1) : Int32) = 0), P (.inl (some (.int (Int32.ofInt (-1))))) SHF (rfM M1 (Int32.ofInt 3))) (r13 : ∀ (y1 : Int32), ∀ (M1 : aM), ∀ (e1 : M1.2.2 = M.2.2), ∀ (q1 : Q1 y1 M1), ∀ (h3 : (y1 : Int32) = (Int32.ofInt (-1) : Int32)), P (.inl (some (.int (Int32.ofInt (-1))))) SHF M1) : AW l (pI pg 80) P kc ks 0 [(0, .ref 1), (1, .ref 4), (2, .int (x))] [] SHF M := by
  refine AW.aload_n (dq rfl) rfl rfl ?_
  show AW l (pI pg 80) P kc ks 1 _ _ SHF _
  refine AW.iconst (dq rfl) ?_
  show AW l (pI pg 80) P kc ks 2 _ _ SHF _
  refine AW.sipush (dq rfl) ?_
  show AW l (pI pg 80) P kc ks 5 _ _ SHF _
  refine fw_callVI (as := [.int (Int32.ofInt 0), .int ((Int16.ofInt 9999).toInt32)]) (dq rfl) (pg_ok.2.2.1 80 _ _ _ _ rfl) rfl (by decide +kernel) rfl rfl (c2) (fun y1 M1 e1 q1 => ?_)
  have hJ1 : ∀ e ∈ RK, M1.2.2 e.1 e.2.1 = e.2.2 := fun e he => by rw [e1]; exact hJ e he
  show AW l (pI pg 80) P kc ks 8 [(0, .ref 1), (1, .ref 4), (2, .int (x))] [.int (y1)] SHF _
  refine AW.istore_n (dq rfl) (by decide +kernel) ?_
  show AW l (pI pg 80) P kc ks 9 [(3, .int (y1)), (0, .ref 1), (1, .ref 4), (2, .int (x))] [] SHF _
  refine AW.iload_n (dq rfl) rfl ?_
  show AW l (pI pg 80) P kc ks 10 _ _ SHF _
  refine AW.iconst (dq rfl) ?_
  show AW l (pI pg 80) P kc ks 11 _ _ SHF _
  refine AW.icmp_ne (dq rfl) (tgt := 16) (by decide) (fun h3 => ?_) (fun h3 => ?_)
  · have _ := h3
    refine AW.aload_n (dq rfl) rfl rfl ?_
    show AW l (pI pg 80) P kc ks 17 _ _ SHF _
    refine AW.iload_n (dq rfl) rfl ?_
    show AW l (pI pg 80) P kc ks 18 _ _ SHF _
    refine fw_callVI (as := [.int (y1)]) (dq rfl) (pg_ok.2.2.1 80 _ _ _ _ rfl) rfl (by decide +kernel) rfl rfl (hwoA_c hl0 (fun e he => hJ1 e he)) (fun y4 M4 e4 q4 => ?_)
    obtain ⟨rfl, rfl⟩ := q4
    show AW l (pI pg 80) P kc ks 21 [(3, .int (y1)), (0, .ref 1), (1, .ref 4), (2, .int (x))] [.int (hpV (M1.1 4 1) (y1))] SHF _
    refine AW.if_ne (dq rfl) (tgt := 30) (by decide) (fun h5 => ?_) (fun h5 => ?_)
    · have _ := h5
      refine AW.aload_n (dq rfl) rfl rfl ?_
      show AW l (pI pg 80) P kc ks 31 _ _ SHF _
      refine fw_get (dq rfl) (pg_ok.2.1 80 _ _ _ _ rfl) rfl (v := .ref 7) (isTA_ok rfl (rgR_ok hJ1 rfl)) ?_
      show AW l (pI pg 80) P kc ks 34 _ _ SHF _
      refine AW.iload_n (dq rfl) rfl ?_
      show AW l (pI pg 80) P kc ks 35 _ _ SHF _
      refine AW.iald (dq rfl) rfl (o6 y1 M1 e1 q1 h3 h5) ?_
      show AW l (pI pg 80) P kc ks 36 _ _ SHF _
      refine AW.aload_n (dq rfl) rfl rfl ?_
      show AW l (pI pg 80) P kc ks 37 _ _ SHF _
      refine fw_get (dq rfl) (pg_ok.2.1 80 _ _ _ _ rfl) rfl (v := .ref 8) (isTA_ok rfl (rgR_ok hJ1 rfl)) ?_
      show AW l (pI pg 80) P kc ks 40 _ _ SHF _
      refine AW.iload_n (dq rfl) rfl ?_
      show AW l (pI pg 80) P kc ks 41 _ _ SHF _
      refine AW.iald (dq rfl) rfl (o6 y1 M1 e1 q1 h3 h5) ?_
      show AW l (pI pg 80) P kc ks 42 _ _ SHF _
      refine AW.ior (dq rfl) ?_
      show AW l (pI pg 80) P kc ks 43 _ _ SHF _
      refine AW.istore (dq rfl) (by decide +kernel) ?_
      show AW l (pI pg 80) P kc ks 45 [(4, .int ((M1.1 7 (x).toNatClampNeg) ||| (M1.1 8 (x).toNatClampNeg))), (3, .int (y1)), (0, .ref 1), (1, .ref 4), (2, .int (x))] [] SHF _
      refine AW.iload (dq rfl) rfl ?_
      show AW l (pI pg 80) P kc ks 47 _ _ SHF _
      refine AW.iload_n (dq rfl) rfl ?_
      show AW l (pI pg 80) P kc ks 48 _ _ SHF _
      refine AW.ishr (dq rfl) ?_
      show AW l (pI pg 80) P kc ks 49 _ _ SHF _
      refine AW.iconst (dq rfl) ?_
      show AW l (pI pg 80) P kc ks 50 _ _ SHF _
      refine AW.iand (dq rfl) ?_
      show AW l (pI pg 80) P kc ks 51 _ _ SHF _
      refine AW.if_ne (dq rfl) (tgt := 58) (by decide) (fun h7 => ?_) (fun h7 => ?_)
      · have _ := h7
        refine AW.aload_n (dq rfl) rfl rfl ?_
        show AW l (pI pg 80) P kc ks 59 _ _ SHF _
        refine AW.iconst (dq rfl) ?_
        show AW l (pI pg 80) P kc ks 60 _ _ SHF _
        refine fw_callVI (as := [.int (Int32.ofInt 4)]) (dq rfl) (pg_ok.2.2.1 80 _ _ _ _ rfl) rfl (by decide +kernel) rfl rfl (ref_c hl0 (fun e he => hJ1 e he)) (fun y8 M8 e8 q8 => ?_)
        obtain ⟨rfl, rfl⟩ := q8
        show AW l (pI pg 80) P kc ks 63 [(4, .int ((M1.1 7 (x).toNatClampNeg) ||| (M1.1 8 (x).toNatClampNeg))), (3, .int (y1)), (0, .ref 1), (1, .ref 4), (2, .int (x))] [.int (Int32.ofInt (-1))] SHF _
        refine AW.iret (dq rfl) rfl ?_
        exact r9 y1 M1 e1 q1 h3 h5 h7
      · have _ := h7
        refine AW.iload_n (dq rfl) rfl ?_
        show AW l (pI pg 80) P kc ks 55 _ _ SHF _
        refine AW.goto (dq rfl) (tgt := 63) (by decide) ?_
        refine AW.iret (dq rfl) rfl ?_
        exact r10 y1 M1 e1 q1 h3 h5 h7
    · have _ := h5
      refine AW.aload_n (dq rfl) rfl rfl ?_
      show AW l (pI pg 80) P kc ks 25 _ _ SHF _
      refine AW.iconst (dq rfl) ?_
      show AW l (pI pg 80) P kc ks 26 _ _ SHF _
      refine fw_callVI (as := [.int (Int32.ofInt 3)]) (dq rfl) (pg_ok.2.2.1 80 _ _ _ _ rfl) rfl (by decide +kernel) rfl rfl (ref_c hl0 (fun e he => hJ1 e he)) (fun y11 M11 e11 q11 => ?_)
      obtain ⟨rfl, rfl⟩ := q11
      show AW l (pI pg 80) P kc ks 29 [(3, .int (y1)), (0, .ref 1), (1, .ref 4), (2, .int (x))] [.int (Int32.ofInt (-1))] SHF _
      refine AW.iret (dq rfl) rfl ?_
      exact r12 y1 M1 e1 q1 h3 h5
  · have _ := h3
    refine AW.iconst (dq rfl) ?_
    show AW l (pI pg 80) P kc ks 15 _ _ SHF _
    refine AW.iret (dq rfl) rfl ?_
    exact r13 y1 M1 e1 q1 h3

theorem alcA_0 {l : aL} {P : aP} {kc ks : Nat} {M : aM} (hJ : ∀ e ∈ RK, M.2.2 e.1 e.2.1 = e.2.2) (hl0 : l.1.stackTraces = false) (k1 : AW l (pI pg 71) P kc ks 4 [(2, .int (Int32.ofInt 0)), (1, .int (Int32.ofInt 0)), (0, .ref 4)] [] SHF M) : AW l (pI pg 71) P kc ks 0 [(0, .ref 4)] [] SHF M := by
  refine AW.iconst (dq rfl) ?_
  show AW l (pI pg 71) P kc ks 1 _ _ SHF _
  refine AW.istore_n (dq rfl) (by decide +kernel) ?_
  show AW l (pI pg 71) P kc ks 2 [(1, .int (Int32.ofInt 0)), (0, .ref 4)] [] SHF _
  refine AW.iconst (dq rfl) ?_
  show AW l (pI pg 71) P kc ks 3 _ _ SHF _
  refine AW.istore_n (dq rfl) (by decide +kernel) ?_
  show AW l (pI pg 71) P kc ks 4 [(2, .int (Int32.ofInt 0)), (1, .int (Int32.ofInt 0)), (0, .ref 4)] [] SHF _
  refine AW.drop (lv' := [(2, .int (Int32.ofInt 0)), (1, .int (Int32.ofInt 0)), (0, .ref 4)]) (List.forall_mem_cons.mpr ⟨List.mem_of_getElem? (i := 0) rfl, List.forall_mem_cons.mpr ⟨List.mem_of_getElem? (i := 1) rfl, List.forall_mem_cons.mpr ⟨List.mem_of_getElem? (i := 2) rfl, fun _ h => absurd h List.not_mem_nil⟩⟩⟩) ?_
  exact k1

theorem alcA_4 {l : aL} {P : aP} {kc ks : Nat} {i : Nat} {v : Int32} {M : aM} (hJ : ∀ e ∈ RK, M.2.2 e.1 e.2.1 = e.2.2) (hl0 : l.1.stackTraces = false) (r2 : ∀ (h1 : (M.1 4 0 : Int32) ≤ (nI i : Int32)), P (.inl (some (.int (v)))) SHF M) (o3 : ∀ (h1 : ¬ ((M.1 4 0 : Int32) ≤ (nI i : Int32))), vp_in (nI i) 6) (k4 : ∀ (h1 : ¬ ((M.1 4 0 : Int32) ≤ (nI i : Int32))), AW l (pI pg 71) P kc ks 4 [(2, .int ((nI i) + Int32.ofInt 1)), (1, .int ((v) + (M.1 6 (nI i).toNatClampNeg))), (0, .ref 4)] [] SHF M) : AW l (pI pg 71) P kc ks 4 [(2, .int (nI i)), (1, .int (v)), (0, .ref 4)] [] SHF M := by
  refine AW.iload_n (dq rfl) rfl ?_
  show AW l (pI pg 71) P kc ks 5 _ _ SHF _
  refine AW.aload_n (dq rfl) rfl rfl ?_
  show AW l (pI pg 71) P kc ks 6 _ _ SHF _
  refine fw_get (dq rfl) (pg_ok.2.1 71 _ _ _ _ rfl) rfl (v := .int (M.1 4 0)) rfl ?_
  show AW l (pI pg 71) P kc ks 9 _ _ SHF _
  refine AW.icmp_ge (dq rfl) (tgt := 27) (by decide) (fun h1 => ?_) (fun h1 => ?_)
  · have _ := h1
    refine AW.iload_n (dq rfl) rfl ?_
    show AW l (pI pg 71) P kc ks 28 _ _ SHF _
    refine AW.iret (dq rfl) rfl ?_
    exact r2 h1
  · have _ := h1
    refine AW.iload_n (dq rfl) rfl ?_
    show AW l (pI pg 71) P kc ks 13 _ _ SHF _
    refine AW.aload_n (dq rfl) rfl rfl ?_
    show AW l (pI pg 71) P kc ks 14 _ _ SHF _
    refine fw_get (dq rfl) (pg_ok.2.1 71 _ _ _ _ rfl) rfl (v := .ref 6) (isTA_ok rfl (rgR_ok hJ rfl)) ?_
    show AW l (pI pg 71) P kc ks 17 _ _ SHF _
    refine AW.iload_n (dq rfl) rfl ?_
    show AW l (pI pg 71) P kc ks 18 _ _ SHF _
    refine AW.iald (dq rfl) rfl (o3 h1) ?_
    show AW l (pI pg 71) P kc ks 19 _ _ SHF _
    refine AW.iadd (dq rfl) ?_
    show AW l (pI pg 71) P kc ks 20 _ _ SHF _
    refine AW.istore_n (dq rfl) (by decide +kernel) ?_
    show AW l (pI pg 71) P kc ks 21 [(1, .int ((v) + (M.1 6 (nI i).toNatClampNeg))), (2, .int (nI i)), (0, .ref 4)] [] SHF _
    refine AW.iinc (dq rfl) rfl (by decide +kernel) ?_
    show AW l (pI pg 71) P kc ks 24 [(2, .int ((nI i) + Int32.ofInt 1)), (1, .int ((v) + (M.1 6 (nI i).toNatClampNeg))), (0, .ref 4)] [] SHF _
    refine AW.goto (dq rfl) (tgt := 4) (by decide) ?_
    refine AW.drop (lv' := [(2, .int ((nI i) + Int32.ofInt 1)), (1, .int ((v) + (M.1 6 (nI i).toNatClampNeg))), (0, .ref 4)]) (List.forall_mem_cons.mpr ⟨List.mem_of_getElem? (i := 0) rfl, List.forall_mem_cons.mpr ⟨List.mem_of_getElem? (i := 1) rfl, List.forall_mem_cons.mpr ⟨List.mem_of_getElem? (i := 2) rfl, fun _ h => absurd h List.not_mem_nil⟩⟩⟩) ?_
    exact k4 h1

theorem rchA_0 {l : aL} {P : aP} {kc ks : Nat} {M : aM} (hJ : ∀ e ∈ RK, M.2.2 e.1 e.2.1 = e.2.2) (hl0 : l.1.stackTraces = false) (Q1 : Int32 → aM → Prop) (c2 : AC l (pI pg 67) (fcI M Q1) 0 0 [.ref 1, .int (Int32.ofInt 0), .int ((Int16.ofInt 1000).toInt32)] SHF M) (r4 : ∀ (y1 : Int32), ∀ (M1 : aM), ∀ (e1 : M1.2.2 = M.2.2), ∀ (q1 : Q1 y1 M1), ∀ (h3 : (y1 : Int32) = (Int32.ofInt (-1) : Int32)), P (.inl (some (.int (y1)))) SHF M1) (Q5 : Int32 → aM → Int32 → aM → Prop) (c6 : ∀ (y1 : Int32), ∀ (M1 : aM), ∀ (e1 : M1.2.2 = M.2.2), ∀ (q1 : Q1 y1 M1), ∀ (h3 : ¬ ((y1 : Int32) = (Int32.ofInt (-1) : Int32))), AC l (pI pg 71) (fcI M1 (Q5 y1 M1)) 0 0 [.ref 4] SHF M1) (r8 : ∀ (y1 : Int32), ∀ (M1 : aM), ∀ (e1 : M1.2.2 = M.2.2), ∀ (q1 : Q1 y1 M1), ∀ (h3 : ¬ ((y1 : Int32) = (Int32.ofInt (-1) : Int32))), ∀ (y5 : Int32), ∀ (M5 : aM), ∀ (e5 : M5.2.2 = M1.2.2), ∀ (q5 : (Q5 y1 M1) y5 M5), ∀ (h7 : ((y5) + (y1) : Int32) ≤ ((Int16.ofInt 1000).toInt32 : Int32)), P (.inl (some (.int (y1)))) SHF M5) (r10 : ∀ (y1 : Int32), ∀ (M1 : aM), ∀ (e1 : M1.2.2 = M.2.2), ∀ (q1 : Q1 y1 M1), ∀ (h3 : ¬ ((y1 : Int32) = (Int32.ofInt (-1) : Int32))), ∀ (y5 : Int32), ∀ (M5 : aM), ∀ (e5 : M5.2.2 = M1.2.2), ∀ (q5 : (Q5 y1 M1) y5 M5), ∀ (h7 : ¬ (((y5) + (y1) : Int32) ≤ ((Int16.ofInt 1000).toInt32 : Int32))), P (.inl (some (.int (Int32.ofInt (-1))))) SHF (rfM M5 (Int32.ofInt 5))) : AW l (pI pg 70) P kc ks 0 [(0, .ref 1), (1, .ref 4)] [] SHF M := by
  refine AW.aload_n (dq rfl) rfl rfl ?_
  show AW l (pI pg 70) P kc ks 1 _ _ SHF _
  refine AW.iconst (dq rfl) ?_
  show AW l (pI pg 70) P kc ks 2 _ _ SHF _
  refine AW.sipush (dq rfl) ?_
  show AW l (pI pg 70) P kc ks 5 _ _ SHF _
  refine fw_callVI (as := [.int (Int32.ofInt 0), .int ((Int16.ofInt 1000).toInt32)]) (dq rfl) (pg_ok.2.2.1 70 _ _ _ _ rfl) rfl (by decide +kernel) rfl rfl (c2) (fun y1 M1 e1 q1 => ?_)
  have hJ1 : ∀ e ∈ RK, M1.2.2 e.1 e.2.1 = e.2.2 := fun e he => by rw [e1]; exact hJ e he
  show AW l (pI pg 70) P kc ks 8 [(0, .ref 1), (1, .ref 4)] [.int (y1)] SHF _
  refine AW.istore_n (dq rfl) (by decide +kernel) ?_
  show AW l (pI pg 70) P kc ks 9 [(2, .int (y1)), (0, .ref 1), (1, .ref 4)] [] SHF _
  refine AW.iload_n (dq rfl) rfl ?_
  show AW l (pI pg 70) P kc ks 10 _ _ SHF _
  refine AW.iconst (dq rfl) ?_
  show AW l (pI pg 70) P kc ks 11 _ _ SHF _
  refine AW.icmp_eq (dq rfl) (tgt := 32) (by decide) (fun h3 => ?_) (fun h3 => ?_)
  · have _ := h3
    refine AW.iload_n (dq rfl) rfl ?_
    show AW l (pI pg 70) P kc ks 33 _ _ SHF _
    refine AW.iret (dq rfl) rfl ?_
    exact r4 y1 M1 e1 q1 h3
  · have _ := h3
    refine AW.aload_n (dq rfl) rfl rfl ?_
    show AW l (pI pg 70) P kc ks 15 _ _ SHF _
    refine fw_callVI (as := []) (dq rfl) (pg_ok.2.2.1 70 _ _ _ _ rfl) rfl (by decide +kernel) rfl rfl (c6 y1 M1 e1 q1 h3) (fun y5 M5 e5 q5 => ?_)
    have hJ5 : ∀ e ∈ RK, M5.2.2 e.1 e.2.1 = e.2.2 := fun e he => by rw [e5]; exact hJ1 e he
    show AW l (pI pg 70) P kc ks 18 [(2, .int (y1)), (0, .ref 1), (1, .ref 4)] [.int (y5)] SHF _
    refine AW.iload_n (dq rfl) rfl ?_
    show AW l (pI pg 70) P kc ks 19 _ _ SHF _
    refine AW.iadd (dq rfl) ?_
    show AW l (pI pg 70) P kc ks 20 _ _ SHF _
    refine AW.sipush (dq rfl) ?_
    show AW l (pI pg 70) P kc ks 23 _ _ SHF _
    refine AW.icmp_le (dq rfl) (tgt := 32) (by decide) (fun h7 => ?_) (fun h7 => ?_)
    · have _ := h7
      refine AW.iload_n (dq rfl) rfl ?_
      show AW l (pI pg 70) P kc ks 33 _ _ SHF _
      refine AW.iret (dq rfl) rfl ?_
      exact r8 y1 M1 e1 q1 h3 y5 M5 e5 q5 h7
    · have _ := h7
      refine AW.aload_n (dq rfl) rfl rfl ?_
      show AW l (pI pg 70) P kc ks 27 _ _ SHF _
      refine AW.iconst (dq rfl) ?_
      show AW l (pI pg 70) P kc ks 28 _ _ SHF _
      refine fw_callVI (as := [.int (Int32.ofInt 5)]) (dq rfl) (pg_ok.2.2.1 70 _ _ _ _ rfl) rfl (by decide +kernel) rfl rfl (ref_c hl0 (fun e he => hJ5 e he)) (fun y9 M9 e9 q9 => ?_)
      obtain ⟨rfl, rfl⟩ := q9
      show AW l (pI pg 70) P kc ks 31 [(2, .int (y1)), (0, .ref 1), (1, .ref 4)] [.int (Int32.ofInt (-1))] SHF _
      refine AW.iret (dq rfl) rfl ?_
      exact r10 y1 M1 e1 q1 h3 y5 M5 e5 q5 h7

theorem adpA_0 {l : aL} {P : aP} {kc ks : Nat} {x y : Int32} {M : aM} (hJ : ∀ e ∈ RK, M.2.2 e.1 e.2.1 = e.2.2) (hl0 : l.1.stackTraces = false) (r2 : ∀ (h1 : ((Int8.ofInt 6).toInt32 : Int32) ≤ (M.1 4 0 : Int32)), P (.inl none) SHF M) (o3 : ∀ (h1 : ¬ (((Int8.ofInt 6).toInt32 : Int32) ≤ (M.1 4 0 : Int32))), vp_in (M.1 4 0) 6) (o4 : ∀ (h1 : ¬ (((Int8.ofInt 6).toInt32 : Int32) ≤ (M.1 4 0 : Int32))), vp_in ((aset M 5 (M.1 4 0).toNatClampNeg (.int (x))).1 4 0) 6) (r5 : ∀ (h1 : ¬ (((Int8.ofInt 6).toInt32 : Int32) ≤ (M.1 4 0 : Int32))), P (.inl none) SHF (aset (aset (aset M 5 (M.1 4 0).toNatClampNeg (.int (x))) 6 ((aset M 5 (M.1 4 0).toNatClampNeg (.int (x))).1 4 0).toNatClampNeg (.int (y))) 4 0 (.int (((aset (aset M 5 (M.1 4 0).toNatClampNeg (.int (x))) 6 ((aset M 5 (M.1 4 0).toNatClampNeg (.int (x))).1 4 0).toNatClampNeg (.int (y))).1 4 0) + (Int32.ofInt 1))))) : AW l (pI pg 73) P kc ks 0 [(0, .ref 4), (1, .int (x)), (2, .int (y))] [] SHF M := by
  refine AW.aload_n (dq rfl) rfl rfl ?_
  show AW l (pI pg 73) P kc ks 1 _ _ SHF _
  refine fw_get (dq rfl) (pg_ok.2.1 73 _ _ _ _ rfl) rfl (v := .int (M.1 4 0)) rfl ?_
  show AW l (pI pg 73) P kc ks 4 _ _ SHF _
  refine AW.bipush (dq rfl) ?_
  show AW l (pI pg 73) P kc ks 6 _ _ SHF _
  refine AW.icmp_ge (dq rfl) (tgt := 39) (by decide) (fun h1 => ?_) (fun h1 => ?_)
  · have _ := h1
    refine AW.vret (dq rfl) rfl ?_
    exact r2 h1
  · have _ := h1
    refine AW.aload_n (dq rfl) rfl rfl ?_
    show AW l (pI pg 73) P kc ks 10 _ _ SHF _
    refine fw_get (dq rfl) (pg_ok.2.1 73 _ _ _ _ rfl) rfl (v := .ref 5) (isTA_ok rfl (rgR_ok hJ rfl)) ?_
    show AW l (pI pg 73) P kc ks 13 _ _ SHF _
    refine AW.aload_n (dq rfl) rfl rfl ?_
    show AW l (pI pg 73) P kc ks 14 _ _ SHF _
    refine fw_get (dq rfl) (pg_ok.2.1 73 _ _ _ _ rfl) rfl (v := .int (M.1 4 0)) rfl ?_
    show AW l (pI pg 73) P kc ks 17 _ _ SHF _
    refine AW.iload_n (dq rfl) rfl ?_
    show AW l (pI pg 73) P kc ks 18 _ _ SHF _
    refine AW.iast (dq rfl) rfl (o3 h1) ?_
    show AW l (pI pg 73) P kc ks 19 _ _ SHF _
    refine AW.aload_n (dq rfl) rfl rfl ?_
    show AW l (pI pg 73) P kc ks 20 _ _ SHF _
    refine fw_get (dq rfl) (pg_ok.2.1 73 _ _ _ _ rfl) rfl (v := .ref 6) (isTA_ok rfl (rgR_ok hJ rfl)) ?_
    show AW l (pI pg 73) P kc ks 23 _ _ SHF _
    refine AW.aload_n (dq rfl) rfl rfl ?_
    show AW l (pI pg 73) P kc ks 24 _ _ SHF _
    refine fw_get (dq rfl) (pg_ok.2.1 73 _ _ _ _ rfl) rfl (v := .int ((aset M 5 (M.1 4 0).toNatClampNeg (.int (x))).1 4 0)) rfl ?_
    show AW l (pI pg 73) P kc ks 27 _ _ SHF _
    refine AW.iload_n (dq rfl) rfl ?_
    show AW l (pI pg 73) P kc ks 28 _ _ SHF _
    refine AW.iast (dq rfl) rfl (o4 h1) ?_
    show AW l (pI pg 73) P kc ks 29 _ _ SHF _
    refine AW.aload_n (dq rfl) rfl rfl ?_
    show AW l (pI pg 73) P kc ks 30 _ _ SHF _
    refine AW.dup (dq rfl) rfl ?_
    show AW l (pI pg 73) P kc ks 31 _ _ SHF _
    refine fw_get (dq rfl) (pg_ok.2.1 73 _ _ _ _ rfl) rfl (v := .int ((aset (aset M 5 (M.1 4 0).toNatClampNeg (.int (x))) 6 ((aset M 5 (M.1 4 0).toNatClampNeg (.int (x))).1 4 0).toNatClampNeg (.int (y))).1 4 0)) rfl ?_
    show AW l (pI pg 73) P kc ks 34 _ _ SHF _
    refine AW.iconst (dq rfl) ?_
    show AW l (pI pg 73) P kc ks 35 _ _ SHF _
    refine AW.iadd (dq rfl) ?_
    show AW l (pI pg 73) P kc ks 36 _ _ SHF _
    refine fw_putI (dq rfl) (pg_ok.2.1 73 _ _ _ _ rfl) rfl rfl rfl ?_
    show AW l (pI pg 73) P kc ks 39 _ _ SHF _
    refine AW.vret (dq rfl) rfl ?_
    exact r5 h1

theorem adwA_0 {l : aL} {P : aP} {kc ks : Nat} {x y : Int32} {M : aM} (hJ : ∀ e ∈ RK, M.2.2 e.1 e.2.1 = e.2.2) (hl0 : l.1.stackTraces = false) (r2 : ∀ (h1 : ((Int8.ofInt 8).toInt32 : Int32) ≤ (M.1 4 1 : Int32)), P (.inl none) SHF M) (o3 : ∀ (h1 : ¬ (((Int8.ofInt 8).toInt32 : Int32) ≤ (M.1 4 1 : Int32))), vp_in (M.1 4 1) 8) (o4 : ∀ (h1 : ¬ (((Int8.ofInt 8).toInt32 : Int32) ≤ (M.1 4 1 : Int32))), vp_in ((aset M 9 (M.1 4 1).toNatClampNeg (.int (x))).1 4 1) 8) (r5 : ∀ (h1 : ¬ (((Int8.ofInt 8).toInt32 : Int32) ≤ (M.1 4 1 : Int32))), P (.inl none) SHF (aset (aset (aset M 9 (M.1 4 1).toNatClampNeg (.int (x))) 10 ((aset M 9 (M.1 4 1).toNatClampNeg (.int (x))).1 4 1).toNatClampNeg (.int (y))) 4 1 (.int (((aset (aset M 9 (M.1 4 1).toNatClampNeg (.int (x))) 10 ((aset M 9 (M.1 4 1).toNatClampNeg (.int (x))).1 4 1).toNatClampNeg (.int (y))).1 4 1) + (Int32.ofInt 1))))) : AW l (pI pg 77) P kc ks 0 [(0, .ref 4), (1, .int (x)), (2, .int (y))] [] SHF M := by
  refine AW.aload_n (dq rfl) rfl rfl ?_
  show AW l (pI pg 77) P kc ks 1 _ _ SHF _
  refine fw_get (dq rfl) (pg_ok.2.1 77 _ _ _ _ rfl) rfl (v := .int (M.1 4 1)) rfl ?_
  show AW l (pI pg 77) P kc ks 4 _ _ SHF _
  refine AW.bipush (dq rfl) ?_
  show AW l (pI pg 77) P kc ks 6 _ _ SHF _
  refine AW.icmp_ge (dq rfl) (tgt := 39) (by decide) (fun h1 => ?_) (fun h1 => ?_)
  · have _ := h1
    refine AW.vret (dq rfl) rfl ?_
    exact r2 h1
  · have _ := h1
    refine AW.aload_n (dq rfl) rfl rfl ?_
    show AW l (pI pg 77) P kc ks 10 _ _ SHF _
    refine fw_get (dq rfl) (pg_ok.2.1 77 _ _ _ _ rfl) rfl (v := .ref 9) (isTA_ok rfl (rgR_ok hJ rfl)) ?_
    show AW l (pI pg 77) P kc ks 13 _ _ SHF _
    refine AW.aload_n (dq rfl) rfl rfl ?_
    show AW l (pI pg 77) P kc ks 14 _ _ SHF _
    refine fw_get (dq rfl) (pg_ok.2.1 77 _ _ _ _ rfl) rfl (v := .int (M.1 4 1)) rfl ?_
    show AW l (pI pg 77) P kc ks 17 _ _ SHF _
    refine AW.iload_n (dq rfl) rfl ?_
    show AW l (pI pg 77) P kc ks 18 _ _ SHF _
    refine AW.iast (dq rfl) rfl (o3 h1) ?_
    show AW l (pI pg 77) P kc ks 19 _ _ SHF _
    refine AW.aload_n (dq rfl) rfl rfl ?_
    show AW l (pI pg 77) P kc ks 20 _ _ SHF _
    refine fw_get (dq rfl) (pg_ok.2.1 77 _ _ _ _ rfl) rfl (v := .ref 10) (isTA_ok rfl (rgR_ok hJ rfl)) ?_
    show AW l (pI pg 77) P kc ks 23 _ _ SHF _
    refine AW.aload_n (dq rfl) rfl rfl ?_
    show AW l (pI pg 77) P kc ks 24 _ _ SHF _
    refine fw_get (dq rfl) (pg_ok.2.1 77 _ _ _ _ rfl) rfl (v := .int ((aset M 9 (M.1 4 1).toNatClampNeg (.int (x))).1 4 1)) rfl ?_
    show AW l (pI pg 77) P kc ks 27 _ _ SHF _
    refine AW.iload_n (dq rfl) rfl ?_
    show AW l (pI pg 77) P kc ks 28 _ _ SHF _
    refine AW.iast (dq rfl) rfl (o4 h1) ?_
    show AW l (pI pg 77) P kc ks 29 _ _ SHF _
    refine AW.aload_n (dq rfl) rfl rfl ?_
    show AW l (pI pg 77) P kc ks 30 _ _ SHF _
    refine AW.dup (dq rfl) rfl ?_
    show AW l (pI pg 77) P kc ks 31 _ _ SHF _
    refine fw_get (dq rfl) (pg_ok.2.1 77 _ _ _ _ rfl) rfl (v := .int ((aset (aset M 9 (M.1 4 1).toNatClampNeg (.int (x))) 10 ((aset M 9 (M.1 4 1).toNatClampNeg (.int (x))).1 4 1).toNatClampNeg (.int (y))).1 4 1)) rfl ?_
    show AW l (pI pg 77) P kc ks 34 _ _ SHF _
    refine AW.iconst (dq rfl) ?_
    show AW l (pI pg 77) P kc ks 35 _ _ SHF _
    refine AW.iadd (dq rfl) ?_
    show AW l (pI pg 77) P kc ks 36 _ _ SHF _
    refine fw_putI (dq rfl) (pg_ok.2.1 77 _ _ _ _ rfl) rfl rfl rfl ?_
    show AW l (pI pg 77) P kc ks 39 _ _ SHF _
    refine AW.vret (dq rfl) rfl ?_
    exact r5 h1

theorem adsA_0 {l : aL} {P : aP} {kc ks : Nat} {x y z : Int32} {M : aM} (hJ : ∀ e ∈ RK, M.2.2 e.1 e.2.1 = e.2.2) (hl0 : l.1.stackTraces = false) (r3 : ∀ (h2 : (hpV (M.1 4 0) (x) : Int32) = 0), P (.inl none) SHF M) (r6 : ∀ (h2 : ¬ ((hpV (M.1 4 0) (x) : Int32) = 0)), ∀ (h5 : (hpV (M.1 4 1) (y) : Int32) = 0), P (.inl none) SHF M) (o7 : ∀ (h2 : ¬ ((hpV (M.1 4 0) (x) : Int32) = 0)), ∀ (h5 : ¬ ((hpV (M.1 4 1) (y) : Int32) = 0)), vp_in (((x) * ((Int8.ofInt 8).toInt32)) + (y)) 48) (o8 : ∀ (h2 : ¬ ((hpV (M.1 4 0) (x) : Int32) = 0)), ∀ (h5 : ¬ ((hpV (M.1 4 1) (y) : Int32) = 0)), vp_in (x) 6) (o9 : ∀ (h2 : ¬ ((hpV (M.1 4 0) (x) : Int32) = 0)), ∀ (h5 : ¬ ((hpV (M.1 4 1) (y) : Int32) = 0)), vp_in (y) 8) (r10 : ∀ (h2 : ¬ ((hpV (M.1 4 0) (x) : Int32) = 0)), ∀ (h5 : ¬ ((hpV (M.1 4 1) (y) : Int32) = 0)), P (.inl none) SHF (aset (aset (aset M 12 (((x) * ((Int8.ofInt 8).toInt32)) + (y)).toNatClampNeg (.int (z))) 7 (x).toNatClampNeg (.int (((aset M 12 (((x) * ((Int8.ofInt 8).toInt32)) + (y)).toNatClampNeg (.int (z))).1 7 (x).toNatClampNeg) ||| ((Int32.ofInt 1) <<< ((y) &&& 31))))) 11 (y).toNatClampNeg (.int (((aset (aset M 12 (((x) * ((Int8.ofInt 8).toInt32)) + (y)).toNatClampNeg (.int (z))) 7 (x).toNatClampNeg (.int (((aset M 12 (((x) * ((Int8.ofInt 8).toInt32)) + (y)).toNatClampNeg (.int (z))).1 7 (x).toNatClampNeg) ||| ((Int32.ofInt 1) <<< ((y) &&& 31))))).1 11 (y).toNatClampNeg) ||| ((Int32.ofInt 1) <<< ((x) &&& 31)))))) : AW l (pI pg 81) P kc ks 0 [(0, .ref 4), (1, .int (x)), (2, .int (y)), (3, .int (z))] [] SHF M := by
  refine AW.aload_n (dq rfl) rfl rfl ?_
  show AW l (pI pg 81) P kc ks 1 _ _ SHF _
  refine AW.iload_n (dq rfl) rfl ?_
  show AW l (pI pg 81) P kc ks 2 _ _ SHF _
  refine fw_callVI (as := [.int (x)]) (dq rfl) (pg_ok.2.2.1 81 _ _ _ _ rfl) rfl (by decide +kernel) rfl rfl (hpeA_c hl0 (fun e he => hJ e he)) (fun y1 M1 e1 q1 => ?_)
  obtain ⟨rfl, rfl⟩ := q1
  show AW l (pI pg 81) P kc ks 5 [(0, .ref 4), (1, .int (x)), (2, .int (y)), (3, .int (z))] [.int (hpV (M.1 4 0) (x))] SHF _
  refine AW.if_eq (dq rfl) (tgt := 52) (by decide) (fun h2 => ?_) (fun h2 => ?_)
  · have _ := h2
    refine AW.vret (dq rfl) rfl ?_
    exact r3 h2
  · have _ := h2
    refine AW.aload_n (dq rfl) rfl rfl ?_
    show AW l (pI pg 81) P kc ks 9 _ _ SHF _
    refine AW.iload_n (dq rfl) rfl ?_
    show AW l (pI pg 81) P kc ks 10 _ _ SHF _
    refine fw_callVI (as := [.int (y)]) (dq rfl) (pg_ok.2.2.1 81 _ _ _ _ rfl) rfl (by decide +kernel) rfl rfl (hwoA_c hl0 (fun e he => hJ e he)) (fun y4 M4 e4 q4 => ?_)
    obtain ⟨rfl, rfl⟩ := q4
    show AW l (pI pg 81) P kc ks 13 [(0, .ref 4), (1, .int (x)), (2, .int (y)), (3, .int (z))] [.int (hpV (M.1 4 1) (y))] SHF _
    refine AW.if_eq (dq rfl) (tgt := 52) (by decide) (fun h5 => ?_) (fun h5 => ?_)
    · have _ := h5
      refine AW.vret (dq rfl) rfl ?_
      exact r6 h2 h5
    · have _ := h5
      refine AW.aload_n (dq rfl) rfl rfl ?_
      show AW l (pI pg 81) P kc ks 17 _ _ SHF _
      refine fw_get (dq rfl) (pg_ok.2.1 81 _ _ _ _ rfl) rfl (v := .ref 12) (isTA_ok rfl (rgR_ok hJ rfl)) ?_
      show AW l (pI pg 81) P kc ks 20 _ _ SHF _
      refine AW.iload_n (dq rfl) rfl ?_
      show AW l (pI pg 81) P kc ks 21 _ _ SHF _
      refine AW.bipush (dq rfl) ?_
      show AW l (pI pg 81) P kc ks 23 _ _ SHF _
      refine AW.imul (dq rfl) ?_
      show AW l (pI pg 81) P kc ks 24 _ _ SHF _
      refine AW.iload_n (dq rfl) rfl ?_
      show AW l (pI pg 81) P kc ks 25 _ _ SHF _
      refine AW.iadd (dq rfl) ?_
      show AW l (pI pg 81) P kc ks 26 _ _ SHF _
      refine AW.iload_n (dq rfl) rfl ?_
      show AW l (pI pg 81) P kc ks 27 _ _ SHF _
      refine AW.iast (dq rfl) rfl (o7 h2 h5) ?_
      show AW l (pI pg 81) P kc ks 28 _ _ SHF _
      refine AW.aload_n (dq rfl) rfl rfl ?_
      show AW l (pI pg 81) P kc ks 29 _ _ SHF _
      refine fw_get (dq rfl) (pg_ok.2.1 81 _ _ _ _ rfl) rfl (v := .ref 7) (isTA_ok rfl (rgR_ok hJ rfl)) ?_
      show AW l (pI pg 81) P kc ks 32 _ _ SHF _
      refine AW.iload_n (dq rfl) rfl ?_
      show AW l (pI pg 81) P kc ks 33 _ _ SHF _
      refine AW.dup2_11 (dq rfl) rfl rfl ?_
      show AW l (pI pg 81) P kc ks 34 _ _ SHF _
      refine AW.iald (dq rfl) rfl (o8 h2 h5) ?_
      show AW l (pI pg 81) P kc ks 35 _ _ SHF _
      refine AW.iconst (dq rfl) ?_
      show AW l (pI pg 81) P kc ks 36 _ _ SHF _
      refine AW.iload_n (dq rfl) rfl ?_
      show AW l (pI pg 81) P kc ks 37 _ _ SHF _
      refine AW.ishl (dq rfl) ?_
      show AW l (pI pg 81) P kc ks 38 _ _ SHF _
      refine AW.ior (dq rfl) ?_
      show AW l (pI pg 81) P kc ks 39 _ _ SHF _
      refine AW.iast (dq rfl) rfl (o8 h2 h5) ?_
      show AW l (pI pg 81) P kc ks 40 _ _ SHF _
      refine AW.aload_n (dq rfl) rfl rfl ?_
      show AW l (pI pg 81) P kc ks 41 _ _ SHF _
      refine fw_get (dq rfl) (pg_ok.2.1 81 _ _ _ _ rfl) rfl (v := .ref 11) (isTA_ok rfl (rgR_ok hJ rfl)) ?_
      show AW l (pI pg 81) P kc ks 44 _ _ SHF _
      refine AW.iload_n (dq rfl) rfl ?_
      show AW l (pI pg 81) P kc ks 45 _ _ SHF _
      refine AW.dup2_11 (dq rfl) rfl rfl ?_
      show AW l (pI pg 81) P kc ks 46 _ _ SHF _
      refine AW.iald (dq rfl) rfl (o9 h2 h5) ?_
      show AW l (pI pg 81) P kc ks 47 _ _ SHF _
      refine AW.iconst (dq rfl) ?_
      show AW l (pI pg 81) P kc ks 48 _ _ SHF _
      refine AW.iload_n (dq rfl) rfl ?_
      show AW l (pI pg 81) P kc ks 49 _ _ SHF _
      refine AW.ishl (dq rfl) ?_
      show AW l (pI pg 81) P kc ks 50 _ _ SHF _
      refine AW.ior (dq rfl) ?_
      show AW l (pI pg 81) P kc ks 51 _ _ SHF _
      refine AW.iast (dq rfl) rfl (o9 h2 h5) ?_
      show AW l (pI pg 81) P kc ks 52 _ _ SHF _
      refine AW.vret (dq rfl) rfl ?_
      exact r10 h2 h5

theorem adtA_0 {l : aL} {P : aP} {kc ks : Nat} {x y z v : Int32} {M : aM} (hJ : ∀ e ∈ RK, M.2.2 e.1 e.2.1 = e.2.2) (hl0 : l.1.stackTraces = false) (r2 : ∀ (h1 : ((Int8.ofInt 8).toInt32 : Int32) ≤ (M.1 4 2 : Int32)), P (.inl none) SHF M) (r5 : ∀ (h1 : ¬ (((Int8.ofInt 8).toInt32 : Int32) ≤ (M.1 4 2 : Int32))), ∀ (h4 : (hpV (M.1 4 0) (x) : Int32) = 0), P (.inl none) SHF M) (r8 : ∀ (h1 : ¬ (((Int8.ofInt 8).toInt32 : Int32) ≤ (M.1 4 2 : Int32))), ∀ (h4 : ¬ ((hpV (M.1 4 0) (x) : Int32) = 0)), ∀ (h7 : (hpV (M.1 4 1) (y) : Int32) = 0), P (.inl none) SHF M) (o9 : ∀ (h1 : ¬ (((Int8.ofInt 8).toInt32 : Int32) ≤ (M.1 4 2 : Int32))), ∀ (h4 : ¬ ((hpV (M.1 4 0) (x) : Int32) = 0)), ∀ (h7 : ¬ ((hpV (M.1 4 1) (y) : Int32) = 0)), vp_in (M.1 4 2) 8) (o10 : ∀ (h1 : ¬ (((Int8.ofInt 8).toInt32 : Int32) ≤ (M.1 4 2 : Int32))), ∀ (h4 : ¬ ((hpV (M.1 4 0) (x) : Int32) = 0)), ∀ (h7 : ¬ ((hpV (M.1 4 1) (y) : Int32) = 0)), vp_in ((aset M 13 (M.1 4 2).toNatClampNeg (.int (x))).1 4 2) 8) (o11 : ∀ (h1 : ¬ (((Int8.ofInt 8).toInt32 : Int32) ≤ (M.1 4 2 : Int32))), ∀ (h4 : ¬ ((hpV (M.1 4 0) (x) : Int32) = 0)), ∀ (h7 : ¬ ((hpV (M.1 4 1) (y) : Int32) = 0)), vp_in ((aset (aset M 13 (M.1 4 2).toNatClampNeg (.int (x))) 14 ((aset M 13 (M.1 4 2).toNatClampNeg (.int (x))).1 4 2).toNatClampNeg (.int (y))).1 4 2) 8) (o12 : ∀ (h1 : ¬ (((Int8.ofInt 8).toInt32 : Int32) ≤ (M.1 4 2 : Int32))), ∀ (h4 : ¬ ((hpV (M.1 4 0) (x) : Int32) = 0)), ∀ (h7 : ¬ ((hpV (M.1 4 1) (y) : Int32) = 0)), vp_in ((aset (aset (aset M 13 (M.1 4 2).toNatClampNeg (.int (x))) 14 ((aset M 13 (M.1 4 2).toNatClampNeg (.int (x))).1 4 2).toNatClampNeg (.int (y))) 15 ((aset (aset M 13 (M.1 4 2).toNatClampNeg (.int (x))) 14 ((aset M 13 (M.1 4 2).toNatClampNeg (.int (x))).1 4 2).toNatClampNeg (.int (y))).1 4 2).toNatClampNeg (.int (z))).1 4 2) 8) (o13 : ∀ (h1 : ¬ (((Int8.ofInt 8).toInt32 : Int32) ≤ (M.1 4 2 : Int32))), ∀ (h4 : ¬ ((hpV (M.1 4 0) (x) : Int32) = 0)), ∀ (h7 : ¬ ((hpV (M.1 4 1) (y) : Int32) = 0)), vp_in (x) 6) (r14 : ∀ (h1 : ¬ (((Int8.ofInt 8).toInt32 : Int32) ≤ (M.1 4 2 : Int32))), ∀ (h4 : ¬ ((hpV (M.1 4 0) (x) : Int32) = 0)), ∀ (h7 : ¬ ((hpV (M.1 4 1) (y) : Int32) = 0)), P (.inl none) SHF (aset (aset (aset (aset (aset (aset M 13 (M.1 4 2).toNatClampNeg (.int (x))) 14 ((aset M 13 (M.1 4 2).toNatClampNeg (.int (x))).1 4 2).toNatClampNeg (.int (y))) 15 ((aset (aset M 13 (M.1 4 2).toNatClampNeg (.int (x))) 14 ((aset M 13 (M.1 4 2).toNatClampNeg (.int (x))).1 4 2).toNatClampNeg (.int (y))).1 4 2).toNatClampNeg (.int (z))) 16 ((aset (aset (aset M 13 (M.1 4 2).toNatClampNeg (.int (x))) 14 ((aset M 13 (M.1 4 2).toNatClampNeg (.int (x))).1 4 2).toNatClampNeg (.int (y))) 15 ((aset (aset M 13 (M.1 4 2).toNatClampNeg (.int (x))) 14 ((aset M 13 (M.1 4 2).toNatClampNeg (.int (x))).1 4 2).toNatClampNeg (.int (y))).1 4 2).toNatClampNeg (.int (z))).1 4 2).toNatClampNeg (.int (v))) 8 (x).toNatClampNeg (.int (((aset (aset (aset (aset M 13 (M.1 4 2).toNatClampNeg (.int (x))) 14 ((aset M 13 (M.1 4 2).toNatClampNeg (.int (x))).1 4 2).toNatClampNeg (.int (y))) 15 ((aset (aset M 13 (M.1 4 2).toNatClampNeg (.int (x))) 14 ((aset M 13 (M.1 4 2).toNatClampNeg (.int (x))).1 4 2).toNatClampNeg (.int (y))).1 4 2).toNatClampNeg (.int (z))) 16 ((aset (aset (aset M 13 (M.1 4 2).toNatClampNeg (.int (x))) 14 ((aset M 13 (M.1 4 2).toNatClampNeg (.int (x))).1 4 2).toNatClampNeg (.int (y))) 15 ((aset (aset M 13 (M.1 4 2).toNatClampNeg (.int (x))) 14 ((aset M 13 (M.1 4 2).toNatClampNeg (.int (x))).1 4 2).toNatClampNeg (.int (y))).1 4 2).toNatClampNeg (.int (z))).1 4 2).toNatClampNeg (.int (v))).1 8 (x).toNatClampNeg) ||| ((Int32.ofInt 1) <<< ((y) &&& 31))))) 4 2 (.int (((aset (aset (aset (aset (aset M 13 (M.1 4 2).toNatClampNeg (.int (x))) 14 ((aset M 13 (M.1 4 2).toNatClampNeg (.int (x))).1 4 2).toNatClampNeg (.int (y))) 15 ((aset (aset M 13 (M.1 4 2).toNatClampNeg (.int (x))) 14 ((aset M 13 (M.1 4 2).toNatClampNeg (.int (x))).1 4 2).toNatClampNeg (.int (y))).1 4 2).toNatClampNeg (.int (z))) 16 ((aset (aset (aset M 13 (M.1 4 2).toNatClampNeg (.int (x))) 14 ((aset M 13 (M.1 4 2).toNatClampNeg (.int (x))).1 4 2).toNatClampNeg (.int (y))) 15 ((aset (aset M 13 (M.1 4 2).toNatClampNeg (.int (x))) 14 ((aset M 13 (M.1 4 2).toNatClampNeg (.int (x))).1 4 2).toNatClampNeg (.int (y))).1 4 2).toNatClampNeg (.int (z))).1 4 2).toNatClampNeg (.int (v))) 8 (x).toNatClampNeg (.int (((aset (aset (aset (aset M 13 (M.1 4 2).toNatClampNeg (.int (x))) 14 ((aset M 13 (M.1 4 2).toNatClampNeg (.int (x))).1 4 2).toNatClampNeg (.int (y))) 15 ((aset (aset M 13 (M.1 4 2).toNatClampNeg (.int (x))) 14 ((aset M 13 (M.1 4 2).toNatClampNeg (.int (x))).1 4 2).toNatClampNeg (.int (y))).1 4 2).toNatClampNeg (.int (z))) 16 ((aset (aset (aset M 13 (M.1 4 2).toNatClampNeg (.int (x))) 14 ((aset M 13 (M.1 4 2).toNatClampNeg (.int (x))).1 4 2).toNatClampNeg (.int (y))) 15 ((aset (aset M 13 (M.1 4 2).toNatClampNeg (.int (x))) 14 ((aset M 13 (M.1 4 2).toNatClampNeg (.int (x))).1 4 2).toNatClampNeg (.int (y))).1 4 2).toNatClampNeg (.int (z))).1 4 2).toNatClampNeg (.int (v))).1 8 (x).toNatClampNeg) ||| ((Int32.ofInt 1) <<< ((y) &&& 31))))).1 4 2) + (Int32.ofInt 1))))) : AW l (pI pg 83) P kc ks 0 [(0, .ref 4), (1, .int (x)), (2, .int (y)), (3, .int (z)), (4, .int (v))] [] SHF M := by
  refine AW.aload_n (dq rfl) rfl rfl ?_
  show AW l (pI pg 83) P kc ks 1 _ _ SHF _
  refine fw_get (dq rfl) (pg_ok.2.1 83 _ _ _ _ rfl) rfl (v := .int (M.1 4 2)) rfl ?_
  show AW l (pI pg 83) P kc ks 4 _ _ SHF _
  refine AW.bipush (dq rfl) ?_
  show AW l (pI pg 83) P kc ks 6 _ _ SHF _
  refine AW.icmp_ge (dq rfl) (tgt := 88) (by decide) (fun h1 => ?_) (fun h1 => ?_)
  · have _ := h1
    refine AW.vret (dq rfl) rfl ?_
    exact r2 h1
  · have _ := h1
    refine AW.aload_n (dq rfl) rfl rfl ?_
    show AW l (pI pg 83) P kc ks 10 _ _ SHF _
    refine AW.iload_n (dq rfl) rfl ?_
    show AW l (pI pg 83) P kc ks 11 _ _ SHF _
    refine fw_callVI (as := [.int (x)]) (dq rfl) (pg_ok.2.2.1 83 _ _ _ _ rfl) rfl (by decide +kernel) rfl rfl (hpeA_c hl0 (fun e he => hJ e he)) (fun y3 M3 e3 q3 => ?_)
    obtain ⟨rfl, rfl⟩ := q3
    show AW l (pI pg 83) P kc ks 14 [(0, .ref 4), (1, .int (x)), (2, .int (y)), (3, .int (z)), (4, .int (v))] [.int (hpV (M.1 4 0) (x))] SHF _
    refine AW.if_eq (dq rfl) (tgt := 88) (by decide) (fun h4 => ?_) (fun h4 => ?_)
    · have _ := h4
      refine AW.vret (dq rfl) rfl ?_
      exact r5 h1 h4
    · have _ := h4
      refine AW.aload_n (dq rfl) rfl rfl ?_
      show AW l (pI pg 83) P kc ks 18 _ _ SHF _
      refine AW.iload_n (dq rfl) rfl ?_
      show AW l (pI pg 83) P kc ks 19 _ _ SHF _
      refine fw_callVI (as := [.int (y)]) (dq rfl) (pg_ok.2.2.1 83 _ _ _ _ rfl) rfl (by decide +kernel) rfl rfl (hwoA_c hl0 (fun e he => hJ e he)) (fun y6 M6 e6 q6 => ?_)
      obtain ⟨rfl, rfl⟩ := q6
      show AW l (pI pg 83) P kc ks 22 [(0, .ref 4), (1, .int (x)), (2, .int (y)), (3, .int (z)), (4, .int (v))] [.int (hpV (M.1 4 1) (y))] SHF _
      refine AW.if_eq (dq rfl) (tgt := 88) (by decide) (fun h7 => ?_) (fun h7 => ?_)
      · have _ := h7
        refine AW.vret (dq rfl) rfl ?_
        exact r8 h1 h4 h7
      · have _ := h7
        refine AW.aload_n (dq rfl) rfl rfl ?_
        show AW l (pI pg 83) P kc ks 26 _ _ SHF _
        refine fw_get (dq rfl) (pg_ok.2.1 83 _ _ _ _ rfl) rfl (v := .ref 13) (isTA_ok rfl (rgR_ok hJ rfl)) ?_
        show AW l (pI pg 83) P kc ks 29 _ _ SHF _
        refine AW.aload_n (dq rfl) rfl rfl ?_
        show AW l (pI pg 83) P kc ks 30 _ _ SHF _
        refine fw_get (dq rfl) (pg_ok.2.1 83 _ _ _ _ rfl) rfl (v := .int (M.1 4 2)) rfl ?_
        show AW l (pI pg 83) P kc ks 33 _ _ SHF _
        refine AW.iload_n (dq rfl) rfl ?_
        show AW l (pI pg 83) P kc ks 34 _ _ SHF _
        refine AW.iast (dq rfl) rfl (o9 h1 h4 h7) ?_
        show AW l (pI pg 83) P kc ks 35 _ _ SHF _
        refine AW.aload_n (dq rfl) rfl rfl ?_
        show AW l (pI pg 83) P kc ks 36 _ _ SHF _
        refine fw_get (dq rfl) (pg_ok.2.1 83 _ _ _ _ rfl) rfl (v := .ref 14) (isTA_ok rfl (rgR_ok hJ rfl)) ?_
        show AW l (pI pg 83) P kc ks 39 _ _ SHF _
        refine AW.aload_n (dq rfl) rfl rfl ?_
        show AW l (pI pg 83) P kc ks 40 _ _ SHF _
        refine fw_get (dq rfl) (pg_ok.2.1 83 _ _ _ _ rfl) rfl (v := .int ((aset M 13 (M.1 4 2).toNatClampNeg (.int (x))).1 4 2)) rfl ?_
        show AW l (pI pg 83) P kc ks 43 _ _ SHF _
        refine AW.iload_n (dq rfl) rfl ?_
        show AW l (pI pg 83) P kc ks 44 _ _ SHF _
        refine AW.iast (dq rfl) rfl (o10 h1 h4 h7) ?_
        show AW l (pI pg 83) P kc ks 45 _ _ SHF _
        refine AW.aload_n (dq rfl) rfl rfl ?_
        show AW l (pI pg 83) P kc ks 46 _ _ SHF _
        refine fw_get (dq rfl) (pg_ok.2.1 83 _ _ _ _ rfl) rfl (v := .ref 15) (isTA_ok rfl (rgR_ok hJ rfl)) ?_
        show AW l (pI pg 83) P kc ks 49 _ _ SHF _
        refine AW.aload_n (dq rfl) rfl rfl ?_
        show AW l (pI pg 83) P kc ks 50 _ _ SHF _
        refine fw_get (dq rfl) (pg_ok.2.1 83 _ _ _ _ rfl) rfl (v := .int ((aset (aset M 13 (M.1 4 2).toNatClampNeg (.int (x))) 14 ((aset M 13 (M.1 4 2).toNatClampNeg (.int (x))).1 4 2).toNatClampNeg (.int (y))).1 4 2)) rfl ?_
        show AW l (pI pg 83) P kc ks 53 _ _ SHF _
        refine AW.iload_n (dq rfl) rfl ?_
        show AW l (pI pg 83) P kc ks 54 _ _ SHF _
        refine AW.iast (dq rfl) rfl (o11 h1 h4 h7) ?_
        show AW l (pI pg 83) P kc ks 55 _ _ SHF _
        refine AW.aload_n (dq rfl) rfl rfl ?_
        show AW l (pI pg 83) P kc ks 56 _ _ SHF _
        refine fw_get (dq rfl) (pg_ok.2.1 83 _ _ _ _ rfl) rfl (v := .ref 16) (isTA_ok rfl (rgR_ok hJ rfl)) ?_
        show AW l (pI pg 83) P kc ks 59 _ _ SHF _
        refine AW.aload_n (dq rfl) rfl rfl ?_
        show AW l (pI pg 83) P kc ks 60 _ _ SHF _
        refine fw_get (dq rfl) (pg_ok.2.1 83 _ _ _ _ rfl) rfl (v := .int ((aset (aset (aset M 13 (M.1 4 2).toNatClampNeg (.int (x))) 14 ((aset M 13 (M.1 4 2).toNatClampNeg (.int (x))).1 4 2).toNatClampNeg (.int (y))) 15 ((aset (aset M 13 (M.1 4 2).toNatClampNeg (.int (x))) 14 ((aset M 13 (M.1 4 2).toNatClampNeg (.int (x))).1 4 2).toNatClampNeg (.int (y))).1 4 2).toNatClampNeg (.int (z))).1 4 2)) rfl ?_
        show AW l (pI pg 83) P kc ks 63 _ _ SHF _
        refine AW.iload (dq rfl) rfl ?_
        show AW l (pI pg 83) P kc ks 65 _ _ SHF _
        refine AW.iast (dq rfl) rfl (o12 h1 h4 h7) ?_
        show AW l (pI pg 83) P kc ks 66 _ _ SHF _
        refine AW.aload_n (dq rfl) rfl rfl ?_
        show AW l (pI pg 83) P kc ks 67 _ _ SHF _
        refine fw_get (dq rfl) (pg_ok.2.1 83 _ _ _ _ rfl) rfl (v := .ref 8) (isTA_ok rfl (rgR_ok hJ rfl)) ?_
        show AW l (pI pg 83) P kc ks 70 _ _ SHF _
        refine AW.iload_n (dq rfl) rfl ?_
        show AW l (pI pg 83) P kc ks 71 _ _ SHF _
        refine AW.dup2_11 (dq rfl) rfl rfl ?_
        show AW l (pI pg 83) P kc ks 72 _ _ SHF _
        refine AW.iald (dq rfl) rfl (o13 h1 h4 h7) ?_
        show AW l (pI pg 83) P kc ks 73 _ _ SHF _
        refine AW.iconst (dq rfl) ?_
        show AW l (pI pg 83) P kc ks 74 _ _ SHF _
        refine AW.iload_n (dq rfl) rfl ?_
        show AW l (pI pg 83) P kc ks 75 _ _ SHF _
        refine AW.ishl (dq rfl) ?_
        show AW l (pI pg 83) P kc ks 76 _ _ SHF _
        refine AW.ior (dq rfl) ?_
        show AW l (pI pg 83) P kc ks 77 _ _ SHF _
        refine AW.iast (dq rfl) rfl (o13 h1 h4 h7) ?_
        show AW l (pI pg 83) P kc ks 78 _ _ SHF _
        refine AW.aload_n (dq rfl) rfl rfl ?_
        show AW l (pI pg 83) P kc ks 79 _ _ SHF _
        refine AW.dup (dq rfl) rfl ?_
        show AW l (pI pg 83) P kc ks 80 _ _ SHF _
        refine fw_get (dq rfl) (pg_ok.2.1 83 _ _ _ _ rfl) rfl (v := .int ((aset (aset (aset (aset (aset M 13 (M.1 4 2).toNatClampNeg (.int (x))) 14 ((aset M 13 (M.1 4 2).toNatClampNeg (.int (x))).1 4 2).toNatClampNeg (.int (y))) 15 ((aset (aset M 13 (M.1 4 2).toNatClampNeg (.int (x))) 14 ((aset M 13 (M.1 4 2).toNatClampNeg (.int (x))).1 4 2).toNatClampNeg (.int (y))).1 4 2).toNatClampNeg (.int (z))) 16 ((aset (aset (aset M 13 (M.1 4 2).toNatClampNeg (.int (x))) 14 ((aset M 13 (M.1 4 2).toNatClampNeg (.int (x))).1 4 2).toNatClampNeg (.int (y))) 15 ((aset (aset M 13 (M.1 4 2).toNatClampNeg (.int (x))) 14 ((aset M 13 (M.1 4 2).toNatClampNeg (.int (x))).1 4 2).toNatClampNeg (.int (y))).1 4 2).toNatClampNeg (.int (z))).1 4 2).toNatClampNeg (.int (v))) 8 (x).toNatClampNeg (.int (((aset (aset (aset (aset M 13 (M.1 4 2).toNatClampNeg (.int (x))) 14 ((aset M 13 (M.1 4 2).toNatClampNeg (.int (x))).1 4 2).toNatClampNeg (.int (y))) 15 ((aset (aset M 13 (M.1 4 2).toNatClampNeg (.int (x))) 14 ((aset M 13 (M.1 4 2).toNatClampNeg (.int (x))).1 4 2).toNatClampNeg (.int (y))).1 4 2).toNatClampNeg (.int (z))) 16 ((aset (aset (aset M 13 (M.1 4 2).toNatClampNeg (.int (x))) 14 ((aset M 13 (M.1 4 2).toNatClampNeg (.int (x))).1 4 2).toNatClampNeg (.int (y))) 15 ((aset (aset M 13 (M.1 4 2).toNatClampNeg (.int (x))) 14 ((aset M 13 (M.1 4 2).toNatClampNeg (.int (x))).1 4 2).toNatClampNeg (.int (y))).1 4 2).toNatClampNeg (.int (z))).1 4 2).toNatClampNeg (.int (v))).1 8 (x).toNatClampNeg) ||| ((Int32.ofInt 1) <<< ((y) &&& 31))))).1 4 2)) rfl ?_
        show AW l (pI pg 83) P kc ks 83 _ _ SHF _
        refine AW.iconst (dq rfl) ?_
        show AW l (pI pg 83) P kc ks 84 _ _ SHF _
        refine AW.iadd (dq rfl) ?_
        show AW l (pI pg 83) P kc ks 85 _ _ SHF _
        refine fw_putI (dq rfl) (pg_ok.2.1 83 _ _ _ _ rfl) rfl rfl rfl ?_
        show AW l (pI pg 83) P kc ks 88 _ _ SHF _
        refine AW.vret (dq rfl) rfl ?_
        exact r14 h1 h4 h7

theorem rpeA_0 {l : aL} {P : aP} {kc ks : Nat} {M : aM} (hJ : ∀ e ∈ RK, M.2.2 e.1 e.2.1 = e.2.2) (hl0 : l.1.stackTraces = false) (Q2 : Int32 → aM → Prop) (c3 : ∀ (h1 : (M.1 4 0 : Int32) < ((Int8.ofInt 6).toInt32 : Int32)), AC l (pI pg 67) (fcI M Q2) 0 0 [.ref 1, .int (Int32.ofInt 0), .int ((Int8.ofInt 24).toInt32)] SHF M) (k5 : ∀ (h1 : (M.1 4 0 : Int32) < ((Int8.ofInt 6).toInt32 : Int32)), ∀ (y2 : Int32), ∀ (M2 : aM), ∀ (e2 : M2.2.2 = M.2.2), ∀ (q2 : Q2 y2 M2), ∀ (h4 : ¬ (y2 : Int32) = (Int32.ofInt (-1) : Int32)), AW l (pI pg 65) P kc ks 32 [(0, .ref 1), (1, .ref 4), (2, .int (y2)), (3, .int (Int32.ofInt 0))] [] SHF M2) (r6 : ∀ (h1 : (M.1 4 0 : Int32) < ((Int8.ofInt 6).toInt32 : Int32)), ∀ (y2 : Int32), ∀ (M2 : aM), ∀ (e2 : M2.2.2 = M.2.2), ∀ (q2 : Q2 y2 M2), ∀ (h4 : (y2 : Int32) = (Int32.ofInt (-1) : Int32)), P (.inl none) SHF M2) (r8 : ∀ (h1 : ¬ ((M.1 4 0 : Int32) < ((Int8.ofInt 6).toInt32 : Int32))), P (.inl none) SHF (rfM M (Int32.ofInt 2))) : AW l (pI pg 65) P kc ks 0 [(0, .ref 1), (1, .ref 4)] [] SHF M := by
  refine AW.aload_n (dq rfl) rfl rfl ?_
  show AW l (pI pg 65) P kc ks 1 _ _ SHF _
  refine fw_get (dq rfl) (pg_ok.2.1 65 _ _ _ _ rfl) rfl (v := .int (M.1 4 0)) rfl ?_
  show AW l (pI pg 65) P kc ks 4 _ _ SHF _
  refine AW.bipush (dq rfl) ?_
  show AW l (pI pg 65) P kc ks 6 _ _ SHF _
  refine AW.icmp_lt (dq rfl) (tgt := 16) (by decide) (fun h1 => ?_) (fun h1 => ?_)
  · have _ := h1
    refine AW.aload_n (dq rfl) rfl rfl ?_
    show AW l (pI pg 65) P kc ks 17 _ _ SHF _
    refine AW.iconst (dq rfl) ?_
    show AW l (pI pg 65) P kc ks 18 _ _ SHF _
    refine AW.bipush (dq rfl) ?_
    show AW l (pI pg 65) P kc ks 20 _ _ SHF _
    refine fw_callVI (as := [.int (Int32.ofInt 0), .int ((Int8.ofInt 24).toInt32)]) (dq rfl) (pg_ok.2.2.1 65 _ _ _ _ rfl) rfl (by decide +kernel) rfl rfl (c3 h1) (fun y2 M2 e2 q2 => ?_)
    have hJ2 : ∀ e ∈ RK, M2.2.2 e.1 e.2.1 = e.2.2 := fun e he => by rw [e2]; exact hJ e he
    show AW l (pI pg 65) P kc ks 23 [(0, .ref 1), (1, .ref 4)] [.int (y2)] SHF _
    refine AW.istore_n (dq rfl) (by decide +kernel) ?_
    show AW l (pI pg 65) P kc ks 24 [(2, .int (y2)), (0, .ref 1), (1, .ref 4)] [] SHF _
    refine AW.iload_n (dq rfl) rfl ?_
    show AW l (pI pg 65) P kc ks 25 _ _ SHF _
    refine AW.iconst (dq rfl) ?_
    show AW l (pI pg 65) P kc ks 26 _ _ SHF _
    refine AW.icmp_ne (dq rfl) (tgt := 30) (by decide) (fun h4 => ?_) (fun h4 => ?_)
    · have _ := h4
      refine AW.iconst (dq rfl) ?_
      show AW l (pI pg 65) P kc ks 31 _ _ SHF _
      refine AW.istore_n (dq rfl) (by decide +kernel) ?_
      show AW l (pI pg 65) P kc ks 32 [(3, .int (Int32.ofInt 0)), (2, .int (y2)), (0, .ref 1), (1, .ref 4)] [] SHF _
      refine AW.drop (lv' := [(0, .ref 1), (1, .ref 4), (2, .int (y2)), (3, .int (Int32.ofInt 0))]) (List.forall_mem_cons.mpr ⟨List.mem_of_getElem? (i := 2) rfl, List.forall_mem_cons.mpr ⟨List.mem_of_getElem? (i := 3) rfl, List.forall_mem_cons.mpr ⟨List.mem_of_getElem? (i := 1) rfl, List.forall_mem_cons.mpr ⟨List.mem_of_getElem? (i := 0) rfl, fun _ h => absurd h List.not_mem_nil⟩⟩⟩⟩) ?_
      exact k5 h1 y2 M2 e2 q2 h4
    · have _ := h4
      refine AW.vret (dq rfl) rfl ?_
      exact r6 h1 y2 M2 e2 q2 h4
  · have _ := h1
    refine AW.aload_n (dq rfl) rfl rfl ?_
    show AW l (pI pg 65) P kc ks 10 _ _ SHF _
    refine AW.iconst (dq rfl) ?_
    show AW l (pI pg 65) P kc ks 11 _ _ SHF _
    refine fw_callVI (as := [.int (Int32.ofInt 2)]) (dq rfl) (pg_ok.2.2.1 65 _ _ _ _ rfl) rfl (by decide +kernel) rfl rfl (ref_c hl0 (fun e he => hJ e he)) (fun y7 M7 e7 q7 => ?_)
    obtain ⟨rfl, rfl⟩ := q7
    show AW l (pI pg 65) P kc ks 14 [(0, .ref 1), (1, .ref 4)] [.int (Int32.ofInt (-1))] SHF _
    refine AW.pop (dq rfl) rfl ?_
    show AW l (pI pg 65) P kc ks 15 _ _ SHF _
    refine AW.vret (dq rfl) rfl ?_
    exact r8 h1

theorem rpeA_32 {l : aL} {P : aP} {kc ks : Nat} {a b : Int32} {M : aM} (hJ : ∀ e ∈ RK, M.2.2 e.1 e.2.1 = e.2.2) (hl0 : l.1.stackTraces = false) (Q1 : aM → Prop) (c2 : AC l (pI pg 48) (fcV M Q1) 0 0 [.ref 2] SHF M) (Q3 : aM → Int32 → aM → Prop) (c4 : ∀ (M1 : aM), ∀ (e1 : M1.2.2 = M.2.2), ∀ (q1 : Q1 M1), AC l (pI pg 53) (fcI M1 (Q3 M1)) 0 0 [.ref 2, .retAddr 3] SHF M1) (k6 : ∀ (M1 : aM), ∀ (e1 : M1.2.2 = M.2.2), ∀ (q1 : Q1 M1), ∀ (y3 : Int32), ∀ (M3 : aM), ∀ (e3 : M3.2.2 = M1.2.2), ∀ (q3 : (Q3 M1) y3 M3), ∀ (h5 : (y3 : Int32) = 0), AW l (pI pg 65) P kc ks 70 [(0, .ref 1), (1, .ref 4), (2, .int (a)), (3, .int (b))] [] SHF M3) (Q7 : aM → Int32 → aM → Int32 → aM → Prop) (c8 : ∀ (M1 : aM), ∀ (e1 : M1.2.2 = M.2.2), ∀ (q1 : Q1 M1), ∀ (y3 : Int32), ∀ (M3 : aM), ∀ (e3 : M3.2.2 = M1.2.2), ∀ (q3 : (Q3 M1) y3 M3), ∀ (h5 : ¬ ((y3 : Int32) = 0)), AC l (pI pg 70) (fcI M3 (Q7 M1 y3 M3)) 0 0 [.ref 1, .ref 4] SHF M3) (Q10 : aM → Int32 → aM → Int32 → aM → aM → Prop) (c11 : ∀ (M1 : aM), ∀ (e1 : M1.2.2 = M.2.2), ∀ (q1 : Q1 M1), ∀ (y3 : Int32), ∀ (M3 : aM), ∀ (e3 : M3.2.2 = M1.2.2), ∀ (q3 : (Q3 M1) y3 M3), ∀ (h5 : ¬ ((y3 : Int32) = 0)), ∀ (y7 : Int32), ∀ (M7 : aM), ∀ (e7 : M7.2.2 = M3.2.2), ∀ (q7 : (Q7 M1 y3 M3) y7 M7), ∀ (h9 : ¬ (y7 : Int32) = (Int32.ofInt (-1) : Int32)), AC l (pI pg 48) (fcV M7 (Q10 M1 y3 M3 y7 M7)) 0 0 [.ref 2] SHF M7) (k12 : ∀ (M1 : aM), ∀ (e1 : M1.2.2 = M.2.2), ∀ (q1 : Q1 M1), ∀ (y3 : Int32), ∀ (M3 : aM), ∀ (e3 : M3.2.2 = M1.2.2), ∀ (q3 : (Q3 M1) y3 M3), ∀ (h5 : ¬ ((y3 : Int32) = 0)), ∀ (y7 : Int32), ∀ (M7 : aM), ∀ (e7 : M7.2.2 = M3.2.2), ∀ (q7 : (Q7 M1 y3 M3) y7 M7), ∀ (h9 : ¬ (y7 : Int32) = (Int32.ofInt (-1) : Int32)), ∀ (M10 : aM), ∀ (e10 : M10.2.2 = M7.2.2), ∀ (q10 : (Q10 M1 y3 M3 y7 M7) M10), AW l (pI pg 65) P kc ks 70 [(0, .ref 1), (1, .ref 4), (2, .int (a)), (3, .int (y7))] [] SHF M10) (r13 : ∀ (M1 : aM), ∀ (e1 : M1.2.2 = M.2.2), ∀ (q1 : Q1 M1), ∀ (y3 : Int32), ∀ (M3 : aM), ∀ (e3 : M3.2.2 = M1.2.2), ∀ (q3 : (Q3 M1) y3 M3), ∀ (h5 : ¬ ((y3 : Int32) = 0)), ∀ (y7 : Int32), ∀ (M7 : aM), ∀ (e7 : M7.2.2 = M3.2.2), ∀ (q7 : (Q7 M1 y3 M3) y7 M7), ∀ (h9 : (y7 : Int32) = (Int32.ofInt (-1) : Int32)), P (.inl none) SHF M7) : AW l (pI pg 65) P kc ks 32 [(0, .ref 1), (1, .ref 4), (2, .int (a)), (3, .int (b))] [] SHF M := by
  refine AW.aload_n (dq rfl) rfl rfl ?_
  show AW l (pI pg 65) P kc ks 33 _ _ SHF _
  refine fw_get (dq rfl) (pg_ok.2.1 65 _ _ _ _ rfl) rfl (v := .ref 2) (isTA_ok rfl (rgR_ok hJ rfl)) ?_
  show AW l (pI pg 65) P kc ks 36 _ _ SHF _
  refine fw_callVV (as := []) (dq rfl) (pg_ok.2.2.1 65 _ _ _ _ rfl) rfl (by decide +kernel) rfl rfl (c2) (fun M1 e1 q1 => ?_)
  have hJ1 : ∀ e ∈ RK, M1.2.2 e.1 e.2.1 = e.2.2 := fun e he => by rw [e1]; exact hJ e he
  show AW l (pI pg 65) P kc ks 39 [(0, .ref 1), (1, .ref 4), (2, .int (a)), (3, .int (b))] [] SHF _
  refine AW.aload_n (dq rfl) rfl rfl ?_
  show AW l (pI pg 65) P kc ks 40 _ _ SHF _
  refine fw_get (dq rfl) (pg_ok.2.1 65 _ _ _ _ rfl) rfl (v := .ref 2) (isTA_ok rfl (rgR_ok hJ1 rfl)) ?_
  show AW l (pI pg 65) P kc ks 43 _ _ SHF _
  refine AW.ldcS (dq rfl) (List.mem_of_getElem? (i := 2) rfl) ?_
  show AW l (pI pg 65) P kc ks 45 _ _ SHF _
  refine fw_callVI (as := [.retAddr 3]) (dq rfl) (pg_ok.2.2.1 65 _ _ _ _ rfl) rfl (by decide +kernel) rfl rfl (c4 M1 e1 q1) (fun y3 M3 e3 q3 => ?_)
  have hJ3 : ∀ e ∈ RK, M3.2.2 e.1 e.2.1 = e.2.2 := fun e he => by rw [e3]; exact hJ1 e he
  show AW l (pI pg 65) P kc ks 48 [(0, .ref 1), (1, .ref 4), (2, .int (a)), (3, .int (b))] [.int (y3)] SHF _
  refine AW.if_eq (dq rfl) (tgt := 70) (by decide) (fun h5 => ?_) (fun h5 => ?_)
  · have _ := h5
    refine AW.drop (lv' := [(0, .ref 1), (1, .ref 4), (2, .int (a)), (3, .int (b))]) (List.forall_mem_cons.mpr ⟨List.mem_of_getElem? (i := 0) rfl, List.forall_mem_cons.mpr ⟨List.mem_of_getElem? (i := 1) rfl, List.forall_mem_cons.mpr ⟨List.mem_of_getElem? (i := 2) rfl, List.forall_mem_cons.mpr ⟨List.mem_of_getElem? (i := 3) rfl, fun _ h => absurd h List.not_mem_nil⟩⟩⟩⟩) ?_
    exact k6 M1 e1 q1 y3 M3 e3 q3 h5
  · have _ := h5
    refine AW.aload_n (dq rfl) rfl rfl ?_
    show AW l (pI pg 65) P kc ks 52 _ _ SHF _
    refine AW.aload_n (dq rfl) rfl rfl ?_
    show AW l (pI pg 65) P kc ks 53 _ _ SHF _
    refine fw_callVI (as := [.ref 4]) (dq rfl) (pg_ok.2.2.1 65 _ _ _ _ rfl) rfl (by decide +kernel) rfl rfl (c8 M1 e1 q1 y3 M3 e3 q3 h5) (fun y7 M7 e7 q7 => ?_)
    have hJ7 : ∀ e ∈ RK, M7.2.2 e.1 e.2.1 = e.2.2 := fun e he => by rw [e7]; exact hJ3 e he
    show AW l (pI pg 65) P kc ks 56 [(0, .ref 1), (1, .ref 4), (2, .int (a)), (3, .int (b))] [.int (y7)] SHF _
    refine AW.istore_n (dq rfl) (by decide +kernel) ?_
    show AW l (pI pg 65) P kc ks 57 [(3, .int (y7)), (0, .ref 1), (1, .ref 4), (2, .int (a))] [] SHF _
    refine AW.iload_n (dq rfl) rfl ?_
    show AW l (pI pg 65) P kc ks 58 _ _ SHF _
    refine AW.iconst (dq rfl) ?_
    show AW l (pI pg 65) P kc ks 59 _ _ SHF _
    refine AW.icmp_ne (dq rfl) (tgt := 63) (by decide) (fun h9 => ?_) (fun h9 => ?_)
    · have _ := h9
      refine AW.aload_n (dq rfl) rfl rfl ?_
      show AW l (pI pg 65) P kc ks 64 _ _ SHF _
      refine fw_get (dq rfl) (pg_ok.2.1 65 _ _ _ _ rfl) rfl (v := .ref 2) (isTA_ok rfl (rgR_ok hJ7 rfl)) ?_
      show AW l (pI pg 65) P kc ks 67 _ _ SHF _
      refine fw_callVV (as := []) (dq rfl) (pg_ok.2.2.1 65 _ _ _ _ rfl) rfl (by decide +kernel) rfl rfl (c11 M1 e1 q1 y3 M3 e3 q3 h5 y7 M7 e7 q7 h9) (fun M10 e10 q10 => ?_)
      have hJ10 : ∀ e ∈ RK, M10.2.2 e.1 e.2.1 = e.2.2 := fun e he => by rw [e10]; exact hJ7 e he
      show AW l (pI pg 65) P kc ks 70 [(3, .int (y7)), (0, .ref 1), (1, .ref 4), (2, .int (a))] [] SHF _
      refine AW.drop (lv' := [(0, .ref 1), (1, .ref 4), (2, .int (a)), (3, .int (y7))]) (List.forall_mem_cons.mpr ⟨List.mem_of_getElem? (i := 1) rfl, List.forall_mem_cons.mpr ⟨List.mem_of_getElem? (i := 2) rfl, List.forall_mem_cons.mpr ⟨List.mem_of_getElem? (i := 3) rfl, List.forall_mem_cons.mpr ⟨List.mem_of_getElem? (i := 0) rfl, fun _ h => absurd h List.not_mem_nil⟩⟩⟩⟩) ?_
      exact k12 M1 e1 q1 y3 M3 e3 q3 h5 y7 M7 e7 q7 h9 M10 e10 q10
    · have _ := h9
      refine AW.vret (dq rfl) rfl ?_
      exact r13 M1 e1 q1 y3 M3 e3 q3 h5 y7 M7 e7 q7 h9

theorem rpeA_70 {l : aL} {P : aP} {kc ks : Nat} {a b : Int32} {M : aM} (hJ : ∀ e ∈ RK, M.2.2 e.1 e.2.1 = e.2.2) (hl0 : l.1.stackTraces = false) (Q1 : Int32 → aM → Prop) (c2 : AC l (pI pg 72) (fcI M Q1) 0 0 [.ref 1] SHF M) (r4 : ∀ (y1 : Int32), ∀ (M1 : aM), ∀ (e1 : M1.2.2 = M.2.2), ∀ (q1 : Q1 y1 M1), ∀ (h3 : (y1 : Int32) = 0), P (.inl none) SHF M1) (Q5 : Int32 → aM → aM → Prop) (c6 : ∀ (y1 : Int32), ∀ (M1 : aM), ∀ (e1 : M1.2.2 = M.2.2), ∀ (q1 : Q1 y1 M1), ∀ (h3 : ¬ ((y1 : Int32) = 0)), AC l (pI pg 73) (fcV M1 (Q5 y1 M1)) 0 0 [.ref 4, .int (a), .int (b)] SHF M1) (r7 : ∀ (y1 : Int32), ∀ (M1 : aM), ∀ (e1 : M1.2.2 = M.2.2), ∀ (q1 : Q1 y1 M1), ∀ (h3 : ¬ ((y1 : Int32) = 0)), ∀ (M5 : aM), ∀ (e5 : M5.2.2 = M1.2.2), ∀ (q5 : (Q5 y1 M1) M5), P (.inl none) SHF M5) : AW l (pI pg 65) P kc ks 70 [(0, .ref 1), (1, .ref 4), (2, .int (a)), (3, .int (b))] [] SHF M := by
  refine AW.aload_n (dq rfl) rfl rfl ?_
  show AW l (pI pg 65) P kc ks 71 _ _ SHF _
  refine fw_callVI (as := []) (dq rfl) (pg_ok.2.2.1 65 _ _ _ _ rfl) rfl (by decide +kernel) rfl rfl (c2) (fun y1 M1 e1 q1 => ?_)
  have hJ1 : ∀ e ∈ RK, M1.2.2 e.1 e.2.1 = e.2.2 := fun e he => by rw [e1]; exact hJ e he
  show AW l (pI pg 65) P kc ks 74 [(0, .ref 1), (1, .ref 4), (2, .int (a)), (3, .int (b))] [.int (y1)] SHF _
  refine AW.if_eq (dq rfl) (tgt := 83) (by decide) (fun h3 => ?_) (fun h3 => ?_)
  · have _ := h3
    refine AW.vret (dq rfl) rfl ?_
    exact r4 y1 M1 e1 q1 h3
  · have _ := h3
    refine AW.aload_n (dq rfl) rfl rfl ?_
    show AW l (pI pg 65) P kc ks 78 _ _ SHF _
    refine AW.iload_n (dq rfl) rfl ?_
    show AW l (pI pg 65) P kc ks 79 _ _ SHF _
    refine AW.iload_n (dq rfl) rfl ?_
    show AW l (pI pg 65) P kc ks 80 _ _ SHF _
    refine fw_callVV (as := [.int (a), .int (b)]) (dq rfl) (pg_ok.2.2.1 65 _ _ _ _ rfl) rfl (by decide +kernel) rfl rfl (c6 y1 M1 e1 q1 h3) (fun M5 e5 q5 => ?_)
    have hJ5 : ∀ e ∈ RK, M5.2.2 e.1 e.2.1 = e.2.2 := fun e he => by rw [e5]; exact hJ1 e he
    show AW l (pI pg 65) P kc ks 83 [(0, .ref 1), (1, .ref 4), (2, .int (a)), (3, .int (b))] [] SHF _
    refine AW.vret (dq rfl) rfl ?_
    exact r7 y1 M1 e1 q1 h3 M5 e5 q5

theorem rwoA_0 {l : aL} {P : aP} {kc ks : Nat} {M : aM} (hJ : ∀ e ∈ RK, M.2.2 e.1 e.2.1 = e.2.2) (hl0 : l.1.stackTraces = false) (Q2 : Int32 → aM → Prop) (c3 : ∀ (h1 : (M.1 4 1 : Int32) < ((Int8.ofInt 8).toInt32 : Int32)), AC l (pI pg 67) (fcI M Q2) 0 0 [.ref 1, .int (Int32.ofInt 0), .int ((Int8.ofInt 23).toInt32)] SHF M) (k5 : ∀ (h1 : (M.1 4 1 : Int32) < ((Int8.ofInt 8).toInt32 : Int32)), ∀ (y2 : Int32), ∀ (M2 : aM), ∀ (e2 : M2.2.2 = M.2.2), ∀ (q2 : Q2 y2 M2), ∀ (h4 : ¬ (y2 : Int32) = (Int32.ofInt (-1) : Int32)), AW l (pI pg 74) P kc ks 30 [(0, .ref 1), (1, .ref 4), (2, .int (y2))] [] SHF M2) (r6 : ∀ (h1 : (M.1 4 1 : Int32) < ((Int8.ofInt 8).toInt32 : Int32)), ∀ (y2 : Int32), ∀ (M2 : aM), ∀ (e2 : M2.2.2 = M.2.2), ∀ (q2 : Q2 y2 M2), ∀ (h4 : (y2 : Int32) = (Int32.ofInt (-1) : Int32)), P (.inl none) SHF M2) (r8 : ∀ (h1 : ¬ ((M.1 4 1 : Int32) < ((Int8.ofInt 8).toInt32 : Int32))), P (.inl none) SHF (rfM M (Int32.ofInt 2))) : AW l (pI pg 74) P kc ks 0 [(0, .ref 1), (1, .ref 4)] [] SHF M := by
  refine AW.aload_n (dq rfl) rfl rfl ?_
  show AW l (pI pg 74) P kc ks 1 _ _ SHF _
  refine fw_get (dq rfl) (pg_ok.2.1 74 _ _ _ _ rfl) rfl (v := .int (M.1 4 1)) rfl ?_
  show AW l (pI pg 74) P kc ks 4 _ _ SHF _
  refine AW.bipush (dq rfl) ?_
  show AW l (pI pg 74) P kc ks 6 _ _ SHF _
  refine AW.icmp_lt (dq rfl) (tgt := 16) (by decide) (fun h1 => ?_) (fun h1 => ?_)
  · have _ := h1
    refine AW.aload_n (dq rfl) rfl rfl ?_
    show AW l (pI pg 74) P kc ks 17 _ _ SHF _
    refine AW.iconst (dq rfl) ?_
    show AW l (pI pg 74) P kc ks 18 _ _ SHF _
    refine AW.bipush (dq rfl) ?_
    show AW l (pI pg 74) P kc ks 20 _ _ SHF _
    refine fw_callVI (as := [.int (Int32.ofInt 0), .int ((Int8.ofInt 23).toInt32)]) (dq rfl) (pg_ok.2.2.1 74 _ _ _ _ rfl) rfl (by decide +kernel) rfl rfl (c3 h1) (fun y2 M2 e2 q2 => ?_)
    have hJ2 : ∀ e ∈ RK, M2.2.2 e.1 e.2.1 = e.2.2 := fun e he => by rw [e2]; exact hJ e he
    show AW l (pI pg 74) P kc ks 23 [(0, .ref 1), (1, .ref 4)] [.int (y2)] SHF _
    refine AW.istore_n (dq rfl) (by decide +kernel) ?_
    show AW l (pI pg 74) P kc ks 24 [(2, .int (y2)), (0, .ref 1), (1, .ref 4)] [] SHF _
    refine AW.iload_n (dq rfl) rfl ?_
    show AW l (pI pg 74) P kc ks 25 _ _ SHF _
    refine AW.iconst (dq rfl) ?_
    show AW l (pI pg 74) P kc ks 26 _ _ SHF _
    refine AW.icmp_ne (dq rfl) (tgt := 30) (by decide) (fun h4 => ?_) (fun h4 => ?_)
    · have _ := h4
      refine AW.drop (lv' := [(0, .ref 1), (1, .ref 4), (2, .int (y2))]) (List.forall_mem_cons.mpr ⟨List.mem_of_getElem? (i := 1) rfl, List.forall_mem_cons.mpr ⟨List.mem_of_getElem? (i := 2) rfl, List.forall_mem_cons.mpr ⟨List.mem_of_getElem? (i := 0) rfl, fun _ h => absurd h List.not_mem_nil⟩⟩⟩) ?_
      exact k5 h1 y2 M2 e2 q2 h4
    · have _ := h4
      refine AW.vret (dq rfl) rfl ?_
      exact r6 h1 y2 M2 e2 q2 h4
  · have _ := h1
    refine AW.aload_n (dq rfl) rfl rfl ?_
    show AW l (pI pg 74) P kc ks 10 _ _ SHF _
    refine AW.iconst (dq rfl) ?_
    show AW l (pI pg 74) P kc ks 11 _ _ SHF _
    refine fw_callVI (as := [.int (Int32.ofInt 2)]) (dq rfl) (pg_ok.2.2.1 74 _ _ _ _ rfl) rfl (by decide +kernel) rfl rfl (ref_c hl0 (fun e he => hJ e he)) (fun y7 M7 e7 q7 => ?_)
    obtain ⟨rfl, rfl⟩ := q7
    show AW l (pI pg 74) P kc ks 14 [(0, .ref 1), (1, .ref 4)] [.int (Int32.ofInt (-1))] SHF _
    refine AW.pop (dq rfl) rfl ?_
    show AW l (pI pg 74) P kc ks 15 _ _ SHF _
    refine AW.vret (dq rfl) rfl ?_
    exact r8 h1

theorem rwoA_30 {l : aL} {P : aP} {kc ks : Nat} {a : Int32} {M : aM} (hJ : ∀ e ∈ RK, M.2.2 e.1 e.2.1 = e.2.2) (hl0 : l.1.stackTraces = false) (Q1 : Int32 → aM → Prop) (c2 : AC l (pI pg 67) (fcI M Q1) 0 0 [.ref 1, .int (Int32.ofInt 1), .int (miV ((Int8.ofInt 8).toInt32) (((Int8.ofInt 24).toInt32) - (a)))] SHF M) (r4 : ∀ (y1 : Int32), ∀ (M1 : aM), ∀ (e1 : M1.2.2 = M.2.2), ∀ (q1 : Q1 y1 M1), ∀ (h3 : (y1 : Int32) = (Int32.ofInt (-1) : Int32)), P (.inl none) SHF M1) (k5 : ∀ (y1 : Int32), ∀ (M1 : aM), ∀ (e1 : M1.2.2 = M.2.2), ∀ (q1 : Q1 y1 M1), ∀ (h3 : ¬ ((y1 : Int32) = (Int32.ofInt (-1) : Int32))), AW l (pI pg 74) P kc ks 50 [(0, .ref 1), (1, .ref 4), (2, .int (a)), (3, .int (y1))] [] SHF M1) : AW l (pI pg 74) P kc ks 30 [(0, .ref 1), (1, .ref 4), (2, .int (a))] [] SHF M := by
  refine AW.aload_n (dq rfl) rfl rfl ?_
  show AW l (pI pg 74) P kc ks 31 _ _ SHF _
  refine AW.iconst (dq rfl) ?_
  show AW l (pI pg 74) P kc ks 32 _ _ SHF _
  refine AW.bipush (dq rfl) ?_
  show AW l (pI pg 74) P kc ks 34 _ _ SHF _
  refine AW.bipush (dq rfl) ?_
  show AW l (pI pg 74) P kc ks 36 _ _ SHF _
  refine AW.iload_n (dq rfl) rfl ?_
  show AW l (pI pg 74) P kc ks 37 _ _ SHF _
  refine AW.isub (dq rfl) ?_
  show AW l (pI pg 74) P kc ks 38 _ _ SHF _
  refine AW.mmin (dq rfl) (mt_0 74 rfl) (by decide +kernel) (by decide +kernel) ?_
  show AW l (pI pg 74) P kc ks 41 [(0, .ref 1), (1, .ref 4), (2, .int (a))] [.int (miV ((Int8.ofInt 8).toInt32) (((Int8.ofInt 24).toInt32) - (a))), .int (Int32.ofInt 1), .ref 1] SHF _
  refine fw_callVI (as := [.int (Int32.ofInt 1), .int (miV ((Int8.ofInt 8).toInt32) (((Int8.ofInt 24).toInt32) - (a)))]) (dq rfl) (pg_ok.2.2.1 74 _ _ _ _ rfl) rfl (by decide +kernel) rfl rfl (c2) (fun y1 M1 e1 q1 => ?_)
  have hJ1 : ∀ e ∈ RK, M1.2.2 e.1 e.2.1 = e.2.2 := fun e he => by rw [e1]; exact hJ e he
  show AW l (pI pg 74) P kc ks 44 [(0, .ref 1), (1, .ref 4), (2, .int (a))] [.int (y1)] SHF _
  refine AW.istore_n (dq rfl) (by decide +kernel) ?_
  show AW l (pI pg 74) P kc ks 45 [(3, .int (y1)), (0, .ref 1), (1, .ref 4), (2, .int (a))] [] SHF _
  refine AW.iload_n (dq rfl) rfl ?_
  show AW l (pI pg 74) P kc ks 46 _ _ SHF _
  refine AW.iconst (dq rfl) ?_
  show AW l (pI pg 74) P kc ks 47 _ _ SHF _
  refine AW.icmp_eq (dq rfl) (tgt := 63) (by decide) (fun h3 => ?_) (fun h3 => ?_)
  · have _ := h3
    refine AW.vret (dq rfl) rfl ?_
    exact r4 y1 M1 e1 q1 h3
  · have _ := h3
    refine AW.drop (lv' := [(0, .ref 1), (1, .ref 4), (2, .int (a)), (3, .int (y1))]) (List.forall_mem_cons.mpr ⟨List.mem_of_getElem? (i := 1) rfl, List.forall_mem_cons.mpr ⟨List.mem_of_getElem? (i := 2) rfl, List.forall_mem_cons.mpr ⟨List.mem_of_getElem? (i := 3) rfl, List.forall_mem_cons.mpr ⟨List.mem_of_getElem? (i := 0) rfl, fun _ h => absurd h List.not_mem_nil⟩⟩⟩⟩) ?_
    exact k5 y1 M1 e1 q1 h3

theorem rwoA_50 {l : aL} {P : aP} {kc ks : Nat} {a b : Int32} {M : aM} (hJ : ∀ e ∈ RK, M.2.2 e.1 e.2.1 = e.2.2) (hl0 : l.1.stackTraces = false) (Q1 : Int32 → aM → Prop) (c2 : AC l (pI pg 76) (fcI M Q1) 0 0 [.ref 1] SHF M) (r4 : ∀ (y1 : Int32), ∀ (M1 : aM), ∀ (e1 : M1.2.2 = M.2.2), ∀ (q1 : Q1 y1 M1), ∀ (h3 : (y1 : Int32) = 0), P (.inl none) SHF M1) (Q5 : Int32 → aM → aM → Prop) (c6 : ∀ (y1 : Int32), ∀ (M1 : aM), ∀ (e1 : M1.2.2 = M.2.2), ∀ (q1 : Q1 y1 M1), ∀ (h3 : ¬ ((y1 : Int32) = 0)), AC l (pI pg 77) (fcV M1 (Q5 y1 M1)) 0 0 [.ref 4, .int (a), .int (b)] SHF M1) (r7 : ∀ (y1 : Int32), ∀ (M1 : aM), ∀ (e1 : M1.2.2 = M.2.2), ∀ (q1 : Q1 y1 M1), ∀ (h3 : ¬ ((y1 : Int32) = 0)), ∀ (M5 : aM), ∀ (e5 : M5.2.2 = M1.2.2), ∀ (q5 : (Q5 y1 M1) M5), P (.inl none) SHF M5) : AW l (pI pg 74) P kc ks 50 [(0, .ref 1), (1, .ref 4), (2, .int (a)), (3, .int (b))] [] SHF M := by
  refine AW.aload_n (dq rfl) rfl rfl ?_
  show AW l (pI pg 74) P kc ks 51 _ _ SHF _
  refine fw_callVI (as := []) (dq rfl) (pg_ok.2.2.1 74 _ _ _ _ rfl) rfl (by decide +kernel) rfl rfl (c2) (fun y1 M1 e1 q1 => ?_)
  have hJ1 : ∀ e ∈ RK, M1.2.2 e.1 e.2.1 = e.2.2 := fun e he => by rw [e1]; exact hJ e he
  show AW l (pI pg 74) P kc ks 54 [(0, .ref 1), (1, .ref 4), (2, .int (a)), (3, .int (b))] [.int (y1)] SHF _
  refine AW.if_eq (dq rfl) (tgt := 63) (by decide) (fun h3 => ?_) (fun h3 => ?_)
  · have _ := h3
    refine AW.vret (dq rfl) rfl ?_
    exact r4 y1 M1 e1 q1 h3
  · have _ := h3
    refine AW.aload_n (dq rfl) rfl rfl ?_
    show AW l (pI pg 74) P kc ks 58 _ _ SHF _
    refine AW.iload_n (dq rfl) rfl ?_
    show AW l (pI pg 74) P kc ks 59 _ _ SHF _
    refine AW.iload_n (dq rfl) rfl ?_
    show AW l (pI pg 74) P kc ks 60 _ _ SHF _
    refine fw_callVV (as := [.int (a), .int (b)]) (dq rfl) (pg_ok.2.2.1 74 _ _ _ _ rfl) rfl (by decide +kernel) rfl rfl (c6 y1 M1 e1 q1 h3) (fun M5 e5 q5 => ?_)
    have hJ5 : ∀ e ∈ RK, M5.2.2 e.1 e.2.1 = e.2.2 := fun e he => by rw [e5]; exact hJ1 e he
    show AW l (pI pg 74) P kc ks 63 [(0, .ref 1), (1, .ref 4), (2, .int (a)), (3, .int (b))] [] SHF _
    refine AW.vret (dq rfl) rfl ?_
    exact r7 y1 M1 e1 q1 h3 M5 e5 q5

theorem rcaA_0 {l : aL} {P : aP} {kc ks : Nat} {M : aM} (hJ : ∀ e ∈ RK, M.2.2 e.1 e.2.1 = e.2.2) (hl0 : l.1.stackTraces = false) (Q1 : Int32 → aM → Prop) (c2 : AC l (pI pg 79) (fcI M Q1) 0 0 [.ref 1, .ref 4] SHF M) (k4 : ∀ (y1 : Int32), ∀ (M1 : aM), ∀ (e1 : M1.2.2 = M.2.2), ∀ (q1 : Q1 y1 M1), ∀ (h3 : ¬ (y1 : Int32) = (Int32.ofInt (-1) : Int32)), AW l (pI pg 78) P kc ks 12 [(0, .ref 1), (1, .ref 4), (2, .int (y1))] [] SHF M1) (r5 : ∀ (y1 : Int32), ∀ (M1 : aM), ∀ (e1 : M1.2.2 = M.2.2), ∀ (q1 : Q1 y1 M1), ∀ (h3 : (y1 : Int32) = (Int32.ofInt (-1) : Int32)), P (.inl none) SHF M1) : AW l (pI pg 78) P kc ks 0 [(0, .ref 1), (1, .ref 4)] [] SHF M := by
  refine AW.aload_n (dq rfl) rfl rfl ?_
  show AW l (pI pg 78) P kc ks 1 _ _ SHF _
  refine AW.aload_n (dq rfl) rfl rfl ?_
  show AW l (pI pg 78) P kc ks 2 _ _ SHF _
  refine fw_callVI (as := [.ref 4]) (dq rfl) (pg_ok.2.2.1 78 _ _ _ _ rfl) rfl (by decide +kernel) rfl rfl (c2) (fun y1 M1 e1 q1 => ?_)
  have hJ1 : ∀ e ∈ RK, M1.2.2 e.1 e.2.1 = e.2.2 := fun e he => by rw [e1]; exact hJ e he
  show AW l (pI pg 78) P kc ks 5 [(0, .ref 1), (1, .ref 4)] [.int (y1)] SHF _
  refine AW.istore_n (dq rfl) (by decide +kernel) ?_
  show AW l (pI pg 78) P kc ks 6 [(2, .int (y1)), (0, .ref 1), (1, .ref 4)] [] SHF _
  refine AW.iload_n (dq rfl) rfl ?_
  show AW l (pI pg 78) P kc ks 7 _ _ SHF _
  refine AW.iconst (dq rfl) ?_
  show AW l (pI pg 78) P kc ks 8 _ _ SHF _
  refine AW.icmp_ne (dq rfl) (tgt := 12) (by decide) (fun h3 => ?_) (fun h3 => ?_)
  · have _ := h3
    refine AW.drop (lv' := [(0, .ref 1), (1, .ref 4), (2, .int (y1))]) (List.forall_mem_cons.mpr ⟨List.mem_of_getElem? (i := 1) rfl, List.forall_mem_cons.mpr ⟨List.mem_of_getElem? (i := 2) rfl, List.forall_mem_cons.mpr ⟨List.mem_of_getElem? (i := 0) rfl, fun _ h => absurd h List.not_mem_nil⟩⟩⟩) ?_
    exact k4 y1 M1 e1 q1 h3
  · have _ := h3
    refine AW.vret (dq rfl) rfl ?_
    exact r5 y1 M1 e1 q1 h3

theorem rcaA_12 {l : aL} {P : aP} {kc ks : Nat} {a : Int32} {M : aM} (hJ : ∀ e ∈ RK, M.2.2 e.1 e.2.1 = e.2.2) (hl0 : l.1.stackTraces = false) (Q1 : Int32 → aM → Prop) (c2 : AC l (pI pg 80) (fcI M Q1) 0 0 [.ref 1, .ref 4, .int (a)] SHF M) (k4 : ∀ (y1 : Int32), ∀ (M1 : aM), ∀ (e1 : M1.2.2 = M.2.2), ∀ (q1 : Q1 y1 M1), ∀ (h3 : ¬ (y1 : Int32) = (Int32.ofInt (-1) : Int32)), AW l (pI pg 78) P kc ks 25 [(0, .ref 1), (1, .ref 4), (2, .int (a)), (3, .int (y1))] [] SHF M1) (r5 : ∀ (y1 : Int32), ∀ (M1 : aM), ∀ (e1 : M1.2.2 = M.2.2), ∀ (q1 : Q1 y1 M1), ∀ (h3 : (y1 : Int32) = (Int32.ofInt (-1) : Int32)), P (.inl none) SHF M1) : AW l (pI pg 78) P kc ks 12 [(0, .ref 1), (1, .ref 4), (2, .int (a))] [] SHF M := by
  refine AW.aload_n (dq rfl) rfl rfl ?_
  show AW l (pI pg 78) P kc ks 13 _ _ SHF _
  refine AW.aload_n (dq rfl) rfl rfl ?_
  show AW l (pI pg 78) P kc ks 14 _ _ SHF _
  refine AW.iload_n (dq rfl) rfl ?_
  show AW l (pI pg 78) P kc ks 15 _ _ SHF _
  refine fw_callVI (as := [.ref 4, .int (a)]) (dq rfl) (pg_ok.2.2.1 78 _ _ _ _ rfl) rfl (by decide +kernel) rfl rfl (c2) (fun y1 M1 e1 q1 => ?_)
  have hJ1 : ∀ e ∈ RK, M1.2.2 e.1 e.2.1 = e.2.2 := fun e he => by rw [e1]; exact hJ e he
  show AW l (pI pg 78) P kc ks 18 [(0, .ref 1), (1, .ref 4), (2, .int (a))] [.int (y1)] SHF _
  refine AW.istore_n (dq rfl) (by decide +kernel) ?_
  show AW l (pI pg 78) P kc ks 19 [(3, .int (y1)), (0, .ref 1), (1, .ref 4), (2, .int (a))] [] SHF _
  refine AW.iload_n (dq rfl) rfl ?_
  show AW l (pI pg 78) P kc ks 20 _ _ SHF _
  refine AW.iconst (dq rfl) ?_
  show AW l (pI pg 78) P kc ks 21 _ _ SHF _
  refine AW.icmp_ne (dq rfl) (tgt := 25) (by decide) (fun h3 => ?_) (fun h3 => ?_)
  · have _ := h3
    refine AW.drop (lv' := [(0, .ref 1), (1, .ref 4), (2, .int (a)), (3, .int (y1))]) (List.forall_mem_cons.mpr ⟨List.mem_of_getElem? (i := 1) rfl, List.forall_mem_cons.mpr ⟨List.mem_of_getElem? (i := 2) rfl, List.forall_mem_cons.mpr ⟨List.mem_of_getElem? (i := 3) rfl, List.forall_mem_cons.mpr ⟨List.mem_of_getElem? (i := 0) rfl, fun _ h => absurd h List.not_mem_nil⟩⟩⟩⟩) ?_
    exact k4 y1 M1 e1 q1 h3
  · have _ := h3
    refine AW.vret (dq rfl) rfl ?_
    exact r5 y1 M1 e1 q1 h3

theorem rcaA_25 {l : aL} {P : aP} {kc ks : Nat} {a b : Int32} {M : aM} (hJ : ∀ e ∈ RK, M.2.2 e.1 e.2.1 = e.2.2) (hl0 : l.1.stackTraces = false) (Q1 : Int32 → aM → Prop) (c2 : AC l (pI pg 67) (fcI M Q1) 0 0 [.ref 1, .int (Int32.ofInt 1), .int ((Int8.ofInt 9).toInt32)] SHF M) (r4 : ∀ (y1 : Int32), ∀ (M1 : aM), ∀ (e1 : M1.2.2 = M.2.2), ∀ (q1 : Q1 y1 M1), ∀ (h3 : (y1 : Int32) = (Int32.ofInt (-1) : Int32)), P (.inl none) SHF M1) (k5 : ∀ (y1 : Int32), ∀ (M1 : aM), ∀ (e1 : M1.2.2 = M.2.2), ∀ (q1 : Q1 y1 M1), ∀ (h3 : ¬ ((y1 : Int32) = (Int32.ofInt (-1) : Int32))), AW l (pI pg 78) P kc ks 40 [(0, .ref 1), (1, .ref 4), (2, .int (a)), (3, .int (b)), (4, .int (y1))] [] SHF M1) : AW l (pI pg 78) P kc ks 25 [(0, .ref 1), (1, .ref 4), (2, .int (a)), (3, .int (b))] [] SHF M := by
  refine AW.aload_n (dq rfl) rfl rfl ?_
  show AW l (pI pg 78) P kc ks 26 _ _ SHF _
  refine AW.iconst (dq rfl) ?_
  show AW l (pI pg 78) P kc ks 27 _ _ SHF _
  refine AW.bipush (dq rfl) ?_
  show AW l (pI pg 78) P kc ks 29 _ _ SHF _
  refine fw_callVI (as := [.int (Int32.ofInt 1), .int ((Int8.ofInt 9).toInt32)]) (dq rfl) (pg_ok.2.2.1 78 _ _ _ _ rfl) rfl (by decide +kernel) rfl rfl (c2) (fun y1 M1 e1 q1 => ?_)
  have hJ1 : ∀ e ∈ RK, M1.2.2 e.1 e.2.1 = e.2.2 := fun e he => by rw [e1]; exact hJ e he
  show AW l (pI pg 78) P kc ks 32 [(0, .ref 1), (1, .ref 4), (2, .int (a)), (3, .int (b))] [.int (y1)] SHF _
  refine AW.istore (dq rfl) (by decide +kernel) ?_
  show AW l (pI pg 78) P kc ks 34 [(4, .int (y1)), (0, .ref 1), (1, .ref 4), (2, .int (a)), (3, .int (b))] [] SHF _
  refine AW.iload (dq rfl) rfl ?_
  show AW l (pI pg 78) P kc ks 36 _ _ SHF _
  refine AW.iconst (dq rfl) ?_
  show AW l (pI pg 78) P kc ks 37 _ _ SHF _
  refine AW.icmp_eq (dq rfl) (tgt := 55) (by decide) (fun h3 => ?_) (fun h3 => ?_)
  · have _ := h3
    refine AW.vret (dq rfl) rfl ?_
    exact r4 y1 M1 e1 q1 h3
  · have _ := h3
    refine AW.drop (lv' := [(0, .ref 1), (1, .ref 4), (2, .int (a)), (3, .int (b)), (4, .int (y1))]) (List.forall_mem_cons.mpr ⟨List.mem_of_getElem? (i := 1) rfl, List.forall_mem_cons.mpr ⟨List.mem_of_getElem? (i := 2) rfl, List.forall_mem_cons.mpr ⟨List.mem_of_getElem? (i := 3) rfl, List.forall_mem_cons.mpr ⟨List.mem_of_getElem? (i := 4) rfl, List.forall_mem_cons.mpr ⟨List.mem_of_getElem? (i := 0) rfl, fun _ h => absurd h List.not_mem_nil⟩⟩⟩⟩⟩) ?_
    exact k5 y1 M1 e1 q1 h3

theorem rcaA_40 {l : aL} {P : aP} {kc ks : Nat} {a b c : Int32} {M : aM} (hJ : ∀ e ∈ RK, M.2.2 e.1 e.2.1 = e.2.2) (hl0 : l.1.stackTraces = false) (Q1 : Int32 → aM → Prop) (c2 : AC l (pI pg 76) (fcI M Q1) 0 0 [.ref 1] SHF M) (r4 : ∀ (y1 : Int32), ∀ (M1 : aM), ∀ (e1 : M1.2.2 = M.2.2), ∀ (q1 : Q1 y1 M1), ∀ (h3 : (y1 : Int32) = 0), P (.inl none) SHF M1) (Q5 : Int32 → aM → aM → Prop) (c6 : ∀ (y1 : Int32), ∀ (M1 : aM), ∀ (e1 : M1.2.2 = M.2.2), ∀ (q1 : Q1 y1 M1), ∀ (h3 : ¬ ((y1 : Int32) = 0)), AC l (pI pg 81) (fcV M1 (Q5 y1 M1)) 0 0 [.ref 4, .int (a), .int (b), .int (c)] SHF M1) (r7 : ∀ (y1 : Int32), ∀ (M1 : aM), ∀ (e1 : M1.2.2 = M.2.2), ∀ (q1 : Q1 y1 M1), ∀ (h3 : ¬ ((y1 : Int32) = 0)), ∀ (M5 : aM), ∀ (e5 : M5.2.2 = M1.2.2), ∀ (q5 : (Q5 y1 M1) M5), P (.inl none) SHF M5) : AW l (pI pg 78) P kc ks 40 [(0, .ref 1), (1, .ref 4), (2, .int (a)), (3, .int (b)), (4, .int (c))] [] SHF M := by
  refine AW.aload_n (dq rfl) rfl rfl ?_
  show AW l (pI pg 78) P kc ks 41 _ _ SHF _
  refine fw_callVI (as := []) (dq rfl) (pg_ok.2.2.1 78 _ _ _ _ rfl) rfl (by decide +kernel) rfl rfl (c2) (fun y1 M1 e1 q1 => ?_)
  have hJ1 : ∀ e ∈ RK, M1.2.2 e.1 e.2.1 = e.2.2 := fun e he => by rw [e1]; exact hJ e he
  show AW l (pI pg 78) P kc ks 44 [(0, .ref 1), (1, .ref 4), (2, .int (a)), (3, .int (b)), (4, .int (c))] [.int (y1)] SHF _
  refine AW.if_eq (dq rfl) (tgt := 55) (by decide) (fun h3 => ?_) (fun h3 => ?_)
  · have _ := h3
    refine AW.vret (dq rfl) rfl ?_
    exact r4 y1 M1 e1 q1 h3
  · have _ := h3
    refine AW.aload_n (dq rfl) rfl rfl ?_
    show AW l (pI pg 78) P kc ks 48 _ _ SHF _
    refine AW.iload_n (dq rfl) rfl ?_
    show AW l (pI pg 78) P kc ks 49 _ _ SHF _
    refine AW.iload_n (dq rfl) rfl ?_
    show AW l (pI pg 78) P kc ks 50 _ _ SHF _
    refine AW.iload (dq rfl) rfl ?_
    show AW l (pI pg 78) P kc ks 52 _ _ SHF _
    refine fw_callVV (as := [.int (a), .int (b), .int (c)]) (dq rfl) (pg_ok.2.2.1 78 _ _ _ _ rfl) rfl (by decide +kernel) rfl rfl (c6 y1 M1 e1 q1 h3) (fun M5 e5 q5 => ?_)
    have hJ5 : ∀ e ∈ RK, M5.2.2 e.1 e.2.1 = e.2.2 := fun e he => by rw [e5]; exact hJ1 e he
    show AW l (pI pg 78) P kc ks 55 [(0, .ref 1), (1, .ref 4), (2, .int (a)), (3, .int (b)), (4, .int (c))] [] SHF _
    refine AW.vret (dq rfl) rfl ?_
    exact r7 y1 M1 e1 q1 h3 M5 e5 q5

theorem rlrA_0 {l : aL} {P : aP} {kc ks : Nat} {M : aM} (hJ : ∀ e ∈ RK, M.2.2 e.1 e.2.1 = e.2.2) (hl0 : l.1.stackTraces = false) (Q2 : Int32 → aM → Prop) (c3 : ∀ (h1 : (M.1 4 2 : Int32) < ((Int8.ofInt 8).toInt32 : Int32)), AC l (pI pg 79) (fcI M Q2) 0 0 [.ref 1, .ref 4] SHF M) (k5 : ∀ (h1 : (M.1 4 2 : Int32) < ((Int8.ofInt 8).toInt32 : Int32)), ∀ (y2 : Int32), ∀ (M2 : aM), ∀ (e2 : M2.2.2 = M.2.2), ∀ (q2 : Q2 y2 M2), ∀ (h4 : ¬ (y2 : Int32) = (Int32.ofInt (-1) : Int32)), AW l (pI pg 82) P kc ks 28 [(0, .ref 1), (1, .ref 4), (2, .int (y2))] [] SHF M2) (r6 : ∀ (h1 : (M.1 4 2 : Int32) < ((Int8.ofInt 8).toInt32 : Int32)), ∀ (y2 : Int32), ∀ (M2 : aM), ∀ (e2 : M2.2.2 = M.2.2), ∀ (q2 : Q2 y2 M2), ∀ (h4 : (y2 : Int32) = (Int32.ofInt (-1) : Int32)), P (.inl none) SHF M2) (r8 : ∀ (h1 : ¬ ((M.1 4 2 : Int32) < ((Int8.ofInt 8).toInt32 : Int32))), P (.inl none) SHF (rfM M (Int32.ofInt 2))) : AW l (pI pg 82) P kc ks 0 [(0, .ref 1), (1, .ref 4)] [] SHF M := by
  refine AW.aload_n (dq rfl) rfl rfl ?_
  show AW l (pI pg 82) P kc ks 1 _ _ SHF _
  refine fw_get (dq rfl) (pg_ok.2.1 82 _ _ _ _ rfl) rfl (v := .int (M.1 4 2)) rfl ?_
  show AW l (pI pg 82) P kc ks 4 _ _ SHF _
  refine AW.bipush (dq rfl) ?_
  show AW l (pI pg 82) P kc ks 6 _ _ SHF _
  refine AW.icmp_lt (dq rfl) (tgt := 16) (by decide) (fun h1 => ?_) (fun h1 => ?_)
  · have _ := h1
    refine AW.aload_n (dq rfl) rfl rfl ?_
    show AW l (pI pg 82) P kc ks 17 _ _ SHF _
    refine AW.aload_n (dq rfl) rfl rfl ?_
    show AW l (pI pg 82) P kc ks 18 _ _ SHF _
    refine fw_callVI (as := [.ref 4]) (dq rfl) (pg_ok.2.2.1 82 _ _ _ _ rfl) rfl (by decide +kernel) rfl rfl (c3 h1) (fun y2 M2 e2 q2 => ?_)
    have hJ2 : ∀ e ∈ RK, M2.2.2 e.1 e.2.1 = e.2.2 := fun e he => by rw [e2]; exact hJ e he
    show AW l (pI pg 82) P kc ks 21 [(0, .ref 1), (1, .ref 4)] [.int (y2)] SHF _
    refine AW.istore_n (dq rfl) (by decide +kernel) ?_
    show AW l (pI pg 82) P kc ks 22 [(2, .int (y2)), (0, .ref 1), (1, .ref 4)] [] SHF _
    refine AW.iload_n (dq rfl) rfl ?_
    show AW l (pI pg 82) P kc ks 23 _ _ SHF _
    refine AW.iconst (dq rfl) ?_
    show AW l (pI pg 82) P kc ks 24 _ _ SHF _
    refine AW.icmp_ne (dq rfl) (tgt := 28) (by decide) (fun h4 => ?_) (fun h4 => ?_)
    · have _ := h4
      refine AW.drop (lv' := [(0, .ref 1), (1, .ref 4), (2, .int (y2))]) (List.forall_mem_cons.mpr ⟨List.mem_of_getElem? (i := 1) rfl, List.forall_mem_cons.mpr ⟨List.mem_of_getElem? (i := 2) rfl, List.forall_mem_cons.mpr ⟨List.mem_of_getElem? (i := 0) rfl, fun _ h => absurd h List.not_mem_nil⟩⟩⟩) ?_
      exact k5 h1 y2 M2 e2 q2 h4
    · have _ := h4
      refine AW.vret (dq rfl) rfl ?_
      exact r6 h1 y2 M2 e2 q2 h4
  · have _ := h1
    refine AW.aload_n (dq rfl) rfl rfl ?_
    show AW l (pI pg 82) P kc ks 10 _ _ SHF _
    refine AW.iconst (dq rfl) ?_
    show AW l (pI pg 82) P kc ks 11 _ _ SHF _
    refine fw_callVI (as := [.int (Int32.ofInt 2)]) (dq rfl) (pg_ok.2.2.1 82 _ _ _ _ rfl) rfl (by decide +kernel) rfl rfl (ref_c hl0 (fun e he => hJ e he)) (fun y7 M7 e7 q7 => ?_)
    obtain ⟨rfl, rfl⟩ := q7
    show AW l (pI pg 82) P kc ks 14 [(0, .ref 1), (1, .ref 4)] [.int (Int32.ofInt (-1))] SHF _
    refine AW.pop (dq rfl) rfl ?_
    show AW l (pI pg 82) P kc ks 15 _ _ SHF _
    refine AW.vret (dq rfl) rfl ?_
    exact r8 h1

theorem rlrA_28 {l : aL} {P : aP} {kc ks : Nat} {a : Int32} {M : aM} (hJ : ∀ e ∈ RK, M.2.2 e.1 e.2.1 = e.2.2) (hl0 : l.1.stackTraces = false) (Q1 : Int32 → aM → Prop) (c2 : AC l (pI pg 80) (fcI M Q1) 0 0 [.ref 1, .ref 4, .int (a)] SHF M) (k4 : ∀ (y1 : Int32), ∀ (M1 : aM), ∀ (e1 : M1.2.2 = M.2.2), ∀ (q1 : Q1 y1 M1), ∀ (h3 : ¬ (y1 : Int32) = (Int32.ofInt (-1) : Int32)), AW l (pI pg 82) P kc ks 41 [(0, .ref 1), (1, .ref 4), (2, .int (a)), (3, .int (y1))] [] SHF M1) (r5 : ∀ (y1 : Int32), ∀ (M1 : aM), ∀ (e1 : M1.2.2 = M.2.2), ∀ (q1 : Q1 y1 M1), ∀ (h3 : (y1 : Int32) = (Int32.ofInt (-1) : Int32)), P (.inl none) SHF M1) : AW l (pI pg 82) P kc ks 28 [(0, .ref 1), (1, .ref 4), (2, .int (a))] [] SHF M := by
  refine AW.aload_n (dq rfl) rfl rfl ?_
  show AW l (pI pg 82) P kc ks 29 _ _ SHF _
  refine AW.aload_n (dq rfl) rfl rfl ?_
  show AW l (pI pg 82) P kc ks 30 _ _ SHF _
  refine AW.iload_n (dq rfl) rfl ?_
  show AW l (pI pg 82) P kc ks 31 _ _ SHF _
  refine fw_callVI (as := [.ref 4, .int (a)]) (dq rfl) (pg_ok.2.2.1 82 _ _ _ _ rfl) rfl (by decide +kernel) rfl rfl (c2) (fun y1 M1 e1 q1 => ?_)
  have hJ1 : ∀ e ∈ RK, M1.2.2 e.1 e.2.1 = e.2.2 := fun e he => by rw [e1]; exact hJ e he
  show AW l (pI pg 82) P kc ks 34 [(0, .ref 1), (1, .ref 4), (2, .int (a))] [.int (y1)] SHF _
  refine AW.istore_n (dq rfl) (by decide +kernel) ?_
  show AW l (pI pg 82) P kc ks 35 [(3, .int (y1)), (0, .ref 1), (1, .ref 4), (2, .int (a))] [] SHF _
  refine AW.iload_n (dq rfl) rfl ?_
  show AW l (pI pg 82) P kc ks 36 _ _ SHF _
  refine AW.iconst (dq rfl) ?_
  show AW l (pI pg 82) P kc ks 37 _ _ SHF _
  refine AW.icmp_ne (dq rfl) (tgt := 41) (by decide) (fun h3 => ?_) (fun h3 => ?_)
  · have _ := h3
    refine AW.drop (lv' := [(0, .ref 1), (1, .ref 4), (2, .int (a)), (3, .int (y1))]) (List.forall_mem_cons.mpr ⟨List.mem_of_getElem? (i := 1) rfl, List.forall_mem_cons.mpr ⟨List.mem_of_getElem? (i := 2) rfl, List.forall_mem_cons.mpr ⟨List.mem_of_getElem? (i := 3) rfl, List.forall_mem_cons.mpr ⟨List.mem_of_getElem? (i := 0) rfl, fun _ h => absurd h List.not_mem_nil⟩⟩⟩⟩) ?_
    exact k4 y1 M1 e1 q1 h3
  · have _ := h3
    refine AW.vret (dq rfl) rfl ?_
    exact r5 y1 M1 e1 q1 h3

theorem rlrA_41 {l : aL} {P : aP} {kc ks : Nat} {a b : Int32} {M : aM} (hJ : ∀ e ∈ RK, M.2.2 e.1 e.2.1 = e.2.2) (hl0 : l.1.stackTraces = false) (Q1 : Int32 → aM → Prop) (c2 : AC l (pI pg 67) (fcI M Q1) 0 0 [.ref 1, .int (Int32.ofInt 1), .int ((Int8.ofInt 9).toInt32)] SHF M) (k4 : ∀ (y1 : Int32), ∀ (M1 : aM), ∀ (e1 : M1.2.2 = M.2.2), ∀ (q1 : Q1 y1 M1), ∀ (h3 : ¬ (y1 : Int32) = (Int32.ofInt (-1) : Int32)), AW l (pI pg 82) P kc ks 57 [(0, .ref 1), (1, .ref 4), (2, .int (a)), (3, .int (b)), (4, .int (y1))] [] SHF M1) (r5 : ∀ (y1 : Int32), ∀ (M1 : aM), ∀ (e1 : M1.2.2 = M.2.2), ∀ (q1 : Q1 y1 M1), ∀ (h3 : (y1 : Int32) = (Int32.ofInt (-1) : Int32)), P (.inl none) SHF M1) : AW l (pI pg 82) P kc ks 41 [(0, .ref 1), (1, .ref 4), (2, .int (a)), (3, .int (b))] [] SHF M := by
  refine AW.aload_n (dq rfl) rfl rfl ?_
  show AW l (pI pg 82) P kc ks 42 _ _ SHF _
  refine AW.iconst (dq rfl) ?_
  show AW l (pI pg 82) P kc ks 43 _ _ SHF _
  refine AW.bipush (dq rfl) ?_
  show AW l (pI pg 82) P kc ks 45 _ _ SHF _
  refine fw_callVI (as := [.int (Int32.ofInt 1), .int ((Int8.ofInt 9).toInt32)]) (dq rfl) (pg_ok.2.2.1 82 _ _ _ _ rfl) rfl (by decide +kernel) rfl rfl (c2) (fun y1 M1 e1 q1 => ?_)
  have hJ1 : ∀ e ∈ RK, M1.2.2 e.1 e.2.1 = e.2.2 := fun e he => by rw [e1]; exact hJ e he
  show AW l (pI pg 82) P kc ks 48 [(0, .ref 1), (1, .ref 4), (2, .int (a)), (3, .int (b))] [.int (y1)] SHF _
  refine AW.istore (dq rfl) (by decide +kernel) ?_
  show AW l (pI pg 82) P kc ks 50 [(4, .int (y1)), (0, .ref 1), (1, .ref 4), (2, .int (a)), (3, .int (b))] [] SHF _
  refine AW.iload (dq rfl) rfl ?_
  show AW l (pI pg 82) P kc ks 52 _ _ SHF _
  refine AW.iconst (dq rfl) ?_
  show AW l (pI pg 82) P kc ks 53 _ _ SHF _
  refine AW.icmp_ne (dq rfl) (tgt := 57) (by decide) (fun h3 => ?_) (fun h3 => ?_)
  · have _ := h3
    refine AW.drop (lv' := [(0, .ref 1), (1, .ref 4), (2, .int (a)), (3, .int (b)), (4, .int (y1))]) (List.forall_mem_cons.mpr ⟨List.mem_of_getElem? (i := 1) rfl, List.forall_mem_cons.mpr ⟨List.mem_of_getElem? (i := 2) rfl, List.forall_mem_cons.mpr ⟨List.mem_of_getElem? (i := 3) rfl, List.forall_mem_cons.mpr ⟨List.mem_of_getElem? (i := 4) rfl, List.forall_mem_cons.mpr ⟨List.mem_of_getElem? (i := 0) rfl, fun _ h => absurd h List.not_mem_nil⟩⟩⟩⟩⟩) ?_
    exact k4 y1 M1 e1 q1 h3
  · have _ := h3
    refine AW.vret (dq rfl) rfl ?_
    exact r5 y1 M1 e1 q1 h3

theorem rlrA_57 {l : aL} {P : aP} {kc ks : Nat} {a b c : Int32} {M : aM} (hJ : ∀ e ∈ RK, M.2.2 e.1 e.2.1 = e.2.2) (hl0 : l.1.stackTraces = false) (Q1 : Int32 → aM → Prop) (c2 : AC l (pI pg 67) (fcI M Q1) 0 0 [.ref 1, .int (Int32.ofInt 1), .int ((Int8.ofInt 99).toInt32)] SHF M) (r4 : ∀ (y1 : Int32), ∀ (M1 : aM), ∀ (e1 : M1.2.2 = M.2.2), ∀ (q1 : Q1 y1 M1), ∀ (h3 : (y1 : Int32) = (Int32.ofInt (-1) : Int32)), P (.inl none) SHF M1) (k5 : ∀ (y1 : Int32), ∀ (M1 : aM), ∀ (e1 : M1.2.2 = M.2.2), ∀ (q1 : Q1 y1 M1), ∀ (h3 : ¬ ((y1 : Int32) = (Int32.ofInt (-1) : Int32))), AW l (pI pg 82) P kc ks 72 [(0, .ref 1), (1, .ref 4), (2, .int (a)), (3, .int (b)), (4, .int (c)), (5, .int (y1))] [] SHF M1) : AW l (pI pg 82) P kc ks 57 [(0, .ref 1), (1, .ref 4), (2, .int (a)), (3, .int (b)), (4, .int (c))] [] SHF M := by
  refine AW.aload_n (dq rfl) rfl rfl ?_
  show AW l (pI pg 82) P kc ks 58 _ _ SHF _
  refine AW.iconst (dq rfl) ?_
  show AW l (pI pg 82) P kc ks 59 _ _ SHF _
  refine AW.bipush (dq rfl) ?_
  show AW l (pI pg 82) P kc ks 61 _ _ SHF _
  refine fw_callVI (as := [.int (Int32.ofInt 1), .int ((Int8.ofInt 99).toInt32)]) (dq rfl) (pg_ok.2.2.1 82 _ _ _ _ rfl) rfl (by decide +kernel) rfl rfl (c2) (fun y1 M1 e1 q1 => ?_)
  have hJ1 : ∀ e ∈ RK, M1.2.2 e.1 e.2.1 = e.2.2 := fun e he => by rw [e1]; exact hJ e he
  show AW l (pI pg 82) P kc ks 64 [(0, .ref 1), (1, .ref 4), (2, .int (a)), (3, .int (b)), (4, .int (c))] [.int (y1)] SHF _
  refine AW.istore (dq rfl) (by decide +kernel) ?_
  show AW l (pI pg 82) P kc ks 66 [(5, .int (y1)), (0, .ref 1), (1, .ref 4), (2, .int (a)), (3, .int (b)), (4, .int (c))] [] SHF _
  refine AW.iload (dq rfl) rfl ?_
  show AW l (pI pg 82) P kc ks 68 _ _ SHF _
  refine AW.iconst (dq rfl) ?_
  show AW l (pI pg 82) P kc ks 69 _ _ SHF _
  refine AW.icmp_eq (dq rfl) (tgt := 89) (by decide) (fun h3 => ?_) (fun h3 => ?_)
  · have _ := h3
    refine AW.vret (dq rfl) rfl ?_
    exact r4 y1 M1 e1 q1 h3
  · have _ := h3
    refine AW.drop (lv' := [(0, .ref 1), (1, .ref 4), (2, .int (a)), (3, .int (b)), (4, .int (c)), (5, .int (y1))]) (List.forall_mem_cons.mpr ⟨List.mem_of_getElem? (i := 1) rfl, List.forall_mem_cons.mpr ⟨List.mem_of_getElem? (i := 2) rfl, List.forall_mem_cons.mpr ⟨List.mem_of_getElem? (i := 3) rfl, List.forall_mem_cons.mpr ⟨List.mem_of_getElem? (i := 4) rfl, List.forall_mem_cons.mpr ⟨List.mem_of_getElem? (i := 5) rfl, List.forall_mem_cons.mpr ⟨List.mem_of_getElem? (i := 0) rfl, fun _ h => absurd h List.not_mem_nil⟩⟩⟩⟩⟩⟩) ?_
    exact k5 y1 M1 e1 q1 h3

theorem rlrA_72 {l : aL} {P : aP} {kc ks : Nat} {a b c d : Int32} {M : aM} (hJ : ∀ e ∈ RK, M.2.2 e.1 e.2.1 = e.2.2) (hl0 : l.1.stackTraces = false) (Q1 : Int32 → aM → Prop) (c2 : AC l (pI pg 76) (fcI M Q1) 0 0 [.ref 1] SHF M) (r4 : ∀ (y1 : Int32), ∀ (M1 : aM), ∀ (e1 : M1.2.2 = M.2.2), ∀ (q1 : Q1 y1 M1), ∀ (h3 : (y1 : Int32) = 0), P (.inl none) SHF M1) (Q5 : Int32 → aM → aM → Prop) (c6 : ∀ (y1 : Int32), ∀ (M1 : aM), ∀ (e1 : M1.2.2 = M.2.2), ∀ (q1 : Q1 y1 M1), ∀ (h3 : ¬ ((y1 : Int32) = 0)), AC l (pI pg 83) (fcV M1 (Q5 y1 M1)) 0 0 [.ref 4, .int (a), .int (b), .int (c), .int (d)] SHF M1) (r7 : ∀ (y1 : Int32), ∀ (M1 : aM), ∀ (e1 : M1.2.2 = M.2.2), ∀ (q1 : Q1 y1 M1), ∀ (h3 : ¬ ((y1 : Int32) = 0)), ∀ (M5 : aM), ∀ (e5 : M5.2.2 = M1.2.2), ∀ (q5 : (Q5 y1 M1) M5), P (.inl none) SHF M5) : AW l (pI pg 82) P kc ks 72 [(0, .ref 1), (1, .ref 4), (2, .int (a)), (3, .int (b)), (4, .int (c)), (5, .int (d))] [] SHF M := by
  refine AW.aload_n (dq rfl) rfl rfl ?_
  show AW l (pI pg 82) P kc ks 73 _ _ SHF _
  refine fw_callVI (as := []) (dq rfl) (pg_ok.2.2.1 82 _ _ _ _ rfl) rfl (by decide +kernel) rfl rfl (c2) (fun y1 M1 e1 q1 => ?_)
  have hJ1 : ∀ e ∈ RK, M1.2.2 e.1 e.2.1 = e.2.2 := fun e he => by rw [e1]; exact hJ e he
  show AW l (pI pg 82) P kc ks 76 [(0, .ref 1), (1, .ref 4), (2, .int (a)), (3, .int (b)), (4, .int (c)), (5, .int (d))] [.int (y1)] SHF _
  refine AW.if_eq (dq rfl) (tgt := 89) (by decide) (fun h3 => ?_) (fun h3 => ?_)
  · have _ := h3
    refine AW.vret (dq rfl) rfl ?_
    exact r4 y1 M1 e1 q1 h3
  · have _ := h3
    refine AW.aload_n (dq rfl) rfl rfl ?_
    show AW l (pI pg 82) P kc ks 80 _ _ SHF _
    refine AW.iload_n (dq rfl) rfl ?_
    show AW l (pI pg 82) P kc ks 81 _ _ SHF _
    refine AW.iload_n (dq rfl) rfl ?_
    show AW l (pI pg 82) P kc ks 82 _ _ SHF _
    refine AW.iload (dq rfl) rfl ?_
    show AW l (pI pg 82) P kc ks 84 _ _ SHF _
    refine AW.iload (dq rfl) rfl ?_
    show AW l (pI pg 82) P kc ks 86 _ _ SHF _
    refine fw_callVV (as := [.int (a), .int (b), .int (c), .int (d)]) (dq rfl) (pg_ok.2.2.1 82 _ _ _ _ rfl) rfl (by decide +kernel) rfl rfl (c6 y1 M1 e1 q1 h3) (fun M5 e5 q5 => ?_)
    have hJ5 : ∀ e ∈ RK, M5.2.2 e.1 e.2.1 = e.2.2 := fun e he => by rw [e5]; exact hJ1 e he
    show AW l (pI pg 82) P kc ks 89 [(0, .ref 1), (1, .ref 4), (2, .int (a)), (3, .int (b)), (4, .int (c)), (5, .int (d))] [] SHF _
    refine AW.vret (dq rfl) rfl ?_
    exact r7 y1 M1 e1 q1 h3 M5 e5 q5

theorem rfoA_0 {l : aL} {P : aP} {kc ks : Nat} {M : aM} (hJ : ∀ e ∈ RK, M.2.2 e.1 e.2.1 = e.2.2) (hl0 : l.1.stackTraces = false) (Q2 : Int32 → aM → Prop) (c3 : ∀ (h1 : (M.1 4 3 : Int32) = 0), AC l (pI pg 67) (fcI M Q2) 0 0 [.ref 1, .int (Int32.ofInt 1), .int ((Int8.ofInt 50).toInt32)] SHF M) (r5 : ∀ (h1 : (M.1 4 3 : Int32) = 0), ∀ (y2 : Int32), ∀ (M2 : aM), ∀ (e2 : M2.2.2 = M.2.2), ∀ (q2 : Q2 y2 M2), ∀ (h4 : (y2 : Int32) = (Int32.ofInt (-1) : Int32)), P (.inl none) SHF M2) (k6 : ∀ (h1 : (M.1 4 3 : Int32) = 0), ∀ (y2 : Int32), ∀ (M2 : aM), ∀ (e2 : M2.2.2 = M.2.2), ∀ (q2 : Q2 y2 M2), ∀ (h4 : ¬ ((y2 : Int32) = (Int32.ofInt (-1) : Int32))), AW l (pI pg 84) P kc ks 27 [(0, .ref 1), (1, .ref 4), (2, .int (y2))] [] SHF M2) (r8 : ∀ (h1 : ¬ ((M.1 4 3 : Int32) = 0)), P (.inl none) SHF (rfM M (Int32.ofInt 5))) : AW l (pI pg 84) P kc ks 0 [(0, .ref 1), (1, .ref 4)] [] SHF M := by
  refine AW.aload_n (dq rfl) rfl rfl ?_
  show AW l (pI pg 84) P kc ks 1 _ _ SHF _
  refine fw_get (dq rfl) (pg_ok.2.1 84 _ _ _ _ rfl) rfl (v := .int (M.1 4 3)) rfl ?_
  show AW l (pI pg 84) P kc ks 4 _ _ SHF _
  refine AW.if_eq (dq rfl) (tgt := 14) (by decide) (fun h1 => ?_) (fun h1 => ?_)
  · have _ := h1
    refine AW.aload_n (dq rfl) rfl rfl ?_
    show AW l (pI pg 84) P kc ks 15 _ _ SHF _
    refine AW.iconst (dq rfl) ?_
    show AW l (pI pg 84) P kc ks 16 _ _ SHF _
    refine AW.bipush (dq rfl) ?_
    show AW l (pI pg 84) P kc ks 18 _ _ SHF _
    refine fw_callVI (as := [.int (Int32.ofInt 1), .int ((Int8.ofInt 50).toInt32)]) (dq rfl) (pg_ok.2.2.1 84 _ _ _ _ rfl) rfl (by decide +kernel) rfl rfl (c3 h1) (fun y2 M2 e2 q2 => ?_)
    have hJ2 : ∀ e ∈ RK, M2.2.2 e.1 e.2.1 = e.2.2 := fun e he => by rw [e2]; exact hJ e he
    show AW l (pI pg 84) P kc ks 21 [(0, .ref 1), (1, .ref 4)] [.int (y2)] SHF _
    refine AW.istore_n (dq rfl) (by decide +kernel) ?_
    show AW l (pI pg 84) P kc ks 22 [(2, .int (y2)), (0, .ref 1), (1, .ref 4)] [] SHF _
    refine AW.iload_n (dq rfl) rfl ?_
    show AW l (pI pg 84) P kc ks 23 _ _ SHF _
    refine AW.iconst (dq rfl) ?_
    show AW l (pI pg 84) P kc ks 24 _ _ SHF _
    refine AW.icmp_eq (dq rfl) (tgt := 39) (by decide) (fun h4 => ?_) (fun h4 => ?_)
    · have _ := h4
      refine AW.vret (dq rfl) rfl ?_
      exact r5 h1 y2 M2 e2 q2 h4
    · have _ := h4
      refine AW.drop (lv' := [(0, .ref 1), (1, .ref 4), (2, .int (y2))]) (List.forall_mem_cons.mpr ⟨List.mem_of_getElem? (i := 1) rfl, List.forall_mem_cons.mpr ⟨List.mem_of_getElem? (i := 2) rfl, List.forall_mem_cons.mpr ⟨List.mem_of_getElem? (i := 0) rfl, fun _ h => absurd h List.not_mem_nil⟩⟩⟩) ?_
      exact k6 h1 y2 M2 e2 q2 h4
  · have _ := h1
    refine AW.aload_n (dq rfl) rfl rfl ?_
    show AW l (pI pg 84) P kc ks 8 _ _ SHF _
    refine AW.iconst (dq rfl) ?_
    show AW l (pI pg 84) P kc ks 9 _ _ SHF _
    refine fw_callVI (as := [.int (Int32.ofInt 5)]) (dq rfl) (pg_ok.2.2.1 84 _ _ _ _ rfl) rfl (by decide +kernel) rfl rfl (ref_c hl0 (fun e he => hJ e he)) (fun y7 M7 e7 q7 => ?_)
    obtain ⟨rfl, rfl⟩ := q7
    show AW l (pI pg 84) P kc ks 12 [(0, .ref 1), (1, .ref 4)] [.int (Int32.ofInt (-1))] SHF _
    refine AW.pop (dq rfl) rfl ?_
    show AW l (pI pg 84) P kc ks 13 _ _ SHF _
    refine AW.vret (dq rfl) rfl ?_
    exact r8 h1

theorem rfoA_27 {l : aL} {P : aP} {kc ks : Nat} {a : Int32} {M : aM} (hJ : ∀ e ∈ RK, M.2.2 e.1 e.2.1 = e.2.2) (hl0 : l.1.stackTraces = false) (Q1 : Int32 → aM → Prop) (c2 : AC l (pI pg 76) (fcI M Q1) 0 0 [.ref 1] SHF M) (r4 : ∀ (y1 : Int32), ∀ (M1 : aM), ∀ (e1 : M1.2.2 = M.2.2), ∀ (q1 : Q1 y1 M1), ∀ (h3 : (y1 : Int32) = 0), P (.inl none) SHF M1) (r5 : ∀ (y1 : Int32), ∀ (M1 : aM), ∀ (e1 : M1.2.2 = M.2.2), ∀ (q1 : Q1 y1 M1), ∀ (h3 : ¬ ((y1 : Int32) = 0)), P (.inl none) SHF (aset M1 4 3 (.int (a)))) : AW l (pI pg 84) P kc ks 27 [(0, .ref 1), (1, .ref 4), (2, .int (a))] [] SHF M := by
  refine AW.aload_n (dq rfl) rfl rfl ?_
  show AW l (pI pg 84) P kc ks 28 _ _ SHF _
  refine fw_callVI (as := []) (dq rfl) (pg_ok.2.2.1 84 _ _ _ _ rfl) rfl (by decide +kernel) rfl rfl (c2) (fun y1 M1 e1 q1 => ?_)
  have hJ1 : ∀ e ∈ RK, M1.2.2 e.1 e.2.1 = e.2.2 := fun e he => by rw [e1]; exact hJ e he
  show AW l (pI pg 84) P kc ks 31 [(0, .ref 1), (1, .ref 4), (2, .int (a))] [.int (y1)] SHF _
  refine AW.if_eq (dq rfl) (tgt := 39) (by decide) (fun h3 => ?_) (fun h3 => ?_)
  · have _ := h3
    refine AW.vret (dq rfl) rfl ?_
    exact r4 y1 M1 e1 q1 h3
  · have _ := h3
    refine AW.aload_n (dq rfl) rfl rfl ?_
    show AW l (pI pg 84) P kc ks 35 _ _ SHF _
    refine AW.iload_n (dq rfl) rfl ?_
    show AW l (pI pg 84) P kc ks 36 _ _ SHF _
    refine fw_putI (dq rfl) (pg_ok.2.1 84 _ _ _ _ rfl) rfl rfl rfl ?_
    show AW l (pI pg 84) P kc ks 39 _ _ SHF _
    refine AW.vret (dq rfl) rfl ?_
    exact r5 y1 M1 e1 q1 h3

theorem rliA_0 {l : aL} {P : aP} {kc ks : Nat} {M : aM} (hJ : ∀ e ∈ RK, M.2.2 e.1 e.2.1 = e.2.2) (hl0 : l.1.stackTraces = false) (Q1 : Int32 → aM → Prop) (c2 : AC l (pI pg 53) (fcI M Q1) 0 0 [.ref 2, .retAddr 2] SHF M) (k4 : ∀ (y1 : Int32), ∀ (M1 : aM), ∀ (e1 : M1.2.2 = M.2.2), ∀ (q1 : Q1 y1 M1), ∀ (h3 : (y1 : Int32) = 0), AW l (pI pg 52) P kc ks 20 [(0, .ref 1), (1, .ref 4)] [] SHF M1) (Q5 : Int32 → aM → aM → Prop) (c6 : ∀ (y1 : Int32), ∀ (M1 : aM), ∀ (e1 : M1.2.2 = M.2.2), ∀ (q1 : Q1 y1 M1), ∀ (h3 : ¬ ((y1 : Int32) = 0)), AC l (pI pg 65) (fcV M1 (Q5 y1 M1)) 0 0 [.ref 1, .ref 4] SHF M1) (r7 : ∀ (y1 : Int32), ∀ (M1 : aM), ∀ (e1 : M1.2.2 = M.2.2), ∀ (q1 : Q1 y1 M1), ∀ (h3 : ¬ ((y1 : Int32) = 0)), ∀ (M5 : aM), ∀ (e5 : M5.2.2 = M1.2.2), ∀ (q5 : (Q5 y1 M1) M5), P (.inl none) SHF M5) : AW l (pI pg 52) P kc ks 0 [(0, .ref 1), (1, .ref 4)] [] SHF M := by
  refine AW.aload_n (dq rfl) rfl rfl ?_
  show AW l (pI pg 52) P kc ks 1 _ _ SHF _
  refine fw_get (dq rfl) (pg_ok.2.1 52 _ _ _ _ rfl) rfl (v := .ref 2) (isTA_ok rfl (rgR_ok hJ rfl)) ?_
  show AW l (pI pg 52) P kc ks 4 _ _ SHF _
  refine AW.ldcS (dq rfl) (List.mem_of_getElem? (i := 1) rfl) ?_
  show AW l (pI pg 52) P kc ks 6 _ _ SHF _
  refine fw_callVI (as := [.retAddr 2]) (dq rfl) (pg_ok.2.2.1 52 _ _ _ _ rfl) rfl (by decide +kernel) rfl rfl (c2) (fun y1 M1 e1 q1 => ?_)
  have hJ1 : ∀ e ∈ RK, M1.2.2 e.1 e.2.1 = e.2.2 := fun e he => by rw [e1]; exact hJ e he
  show AW l (pI pg 52) P kc ks 9 [(0, .ref 1), (1, .ref 4)] [.int (y1)] SHF _
  refine AW.if_eq (dq rfl) (tgt := 20) (by decide) (fun h3 => ?_) (fun h3 => ?_)
  · have _ := h3
    refine AW.drop (lv' := [(0, .ref 1), (1, .ref 4)]) (List.forall_mem_cons.mpr ⟨List.mem_of_getElem? (i := 0) rfl, List.forall_mem_cons.mpr ⟨List.mem_of_getElem? (i := 1) rfl, fun _ h => absurd h List.not_mem_nil⟩⟩) ?_
    exact k4 y1 M1 e1 q1 h3
  · have _ := h3
    refine AW.aload_n (dq rfl) rfl rfl ?_
    show AW l (pI pg 52) P kc ks 13 _ _ SHF _
    refine AW.aload_n (dq rfl) rfl rfl ?_
    show AW l (pI pg 52) P kc ks 14 _ _ SHF _
    refine fw_callVV (as := [.ref 4]) (dq rfl) (pg_ok.2.2.1 52 _ _ _ _ rfl) rfl (by decide +kernel) rfl rfl (c6 y1 M1 e1 q1 h3) (fun M5 e5 q5 => ?_)
    have hJ5 : ∀ e ∈ RK, M5.2.2 e.1 e.2.1 = e.2.2 := fun e he => by rw [e5]; exact hJ1 e he
    show AW l (pI pg 52) P kc ks 17 [(0, .ref 1), (1, .ref 4)] [] SHF _
    refine AW.goto (dq rfl) (tgt := 106) (by decide) ?_
    refine AW.vret (dq rfl) rfl ?_
    exact r7 y1 M1 e1 q1 h3 M5 e5 q5

theorem rliA_20 {l : aL} {P : aP} {kc ks : Nat} {M : aM} (hJ : ∀ e ∈ RK, M.2.2 e.1 e.2.1 = e.2.2) (hl0 : l.1.stackTraces = false) (Q1 : Int32 → aM → Prop) (c2 : AC l (pI pg 53) (fcI M Q1) 0 0 [.ref 2, .retAddr 4] SHF M) (k4 : ∀ (y1 : Int32), ∀ (M1 : aM), ∀ (e1 : M1.2.2 = M.2.2), ∀ (q1 : Q1 y1 M1), ∀ (h3 : (y1 : Int32) = 0), AW l (pI pg 52) P kc ks 40 [(0, .ref 1), (1, .ref 4)] [] SHF M1) (Q5 : Int32 → aM → aM → Prop) (c6 : ∀ (y1 : Int32), ∀ (M1 : aM), ∀ (e1 : M1.2.2 = M.2.2), ∀ (q1 : Q1 y1 M1), ∀ (h3 : ¬ ((y1 : Int32) = 0)), AC l (pI pg 74) (fcV M1 (Q5 y1 M1)) 0 0 [.ref 1, .ref 4] SHF M1) (r7 : ∀ (y1 : Int32), ∀ (M1 : aM), ∀ (e1 : M1.2.2 = M.2.2), ∀ (q1 : Q1 y1 M1), ∀ (h3 : ¬ ((y1 : Int32) = 0)), ∀ (M5 : aM), ∀ (e5 : M5.2.2 = M1.2.2), ∀ (q5 : (Q5 y1 M1) M5), P (.inl none) SHF M5) : AW l (pI pg 52) P kc ks 20 [(0, .ref 1), (1, .ref 4)] [] SHF M := by
  refine AW.aload_n (dq rfl) rfl rfl ?_
  show AW l (pI pg 52) P kc ks 21 _ _ SHF _
  refine fw_get (dq rfl) (pg_ok.2.1 52 _ _ _ _ rfl) rfl (v := .ref 2) (isTA_ok rfl (rgR_ok hJ rfl)) ?_
  show AW l (pI pg 52) P kc ks 24 _ _ SHF _
  refine AW.ldcS (dq rfl) (List.mem_of_getElem? (i := 3) rfl) ?_
  show AW l (pI pg 52) P kc ks 26 _ _ SHF _
  refine fw_callVI (as := [.retAddr 4]) (dq rfl) (pg_ok.2.2.1 52 _ _ _ _ rfl) rfl (by decide +kernel) rfl rfl (c2) (fun y1 M1 e1 q1 => ?_)
  have hJ1 : ∀ e ∈ RK, M1.2.2 e.1 e.2.1 = e.2.2 := fun e he => by rw [e1]; exact hJ e he
  show AW l (pI pg 52) P kc ks 29 [(0, .ref 1), (1, .ref 4)] [.int (y1)] SHF _
  refine AW.if_eq (dq rfl) (tgt := 40) (by decide) (fun h3 => ?_) (fun h3 => ?_)
  · have _ := h3
    refine AW.drop (lv' := [(0, .ref 1), (1, .ref 4)]) (List.forall_mem_cons.mpr ⟨List.mem_of_getElem? (i := 0) rfl, List.forall_mem_cons.mpr ⟨List.mem_of_getElem? (i := 1) rfl, fun _ h => absurd h List.not_mem_nil⟩⟩) ?_
    exact k4 y1 M1 e1 q1 h3
  · have _ := h3
    refine AW.aload_n (dq rfl) rfl rfl ?_
    show AW l (pI pg 52) P kc ks 33 _ _ SHF _
    refine AW.aload_n (dq rfl) rfl rfl ?_
    show AW l (pI pg 52) P kc ks 34 _ _ SHF _
    refine fw_callVV (as := [.ref 4]) (dq rfl) (pg_ok.2.2.1 52 _ _ _ _ rfl) rfl (by decide +kernel) rfl rfl (c6 y1 M1 e1 q1 h3) (fun M5 e5 q5 => ?_)
    have hJ5 : ∀ e ∈ RK, M5.2.2 e.1 e.2.1 = e.2.2 := fun e he => by rw [e5]; exact hJ1 e he
    show AW l (pI pg 52) P kc ks 37 [(0, .ref 1), (1, .ref 4)] [] SHF _
    refine AW.goto (dq rfl) (tgt := 106) (by decide) ?_
    refine AW.vret (dq rfl) rfl ?_
    exact r7 y1 M1 e1 q1 h3 M5 e5 q5

theorem rliA_40 {l : aL} {P : aP} {kc ks : Nat} {M : aM} (hJ : ∀ e ∈ RK, M.2.2 e.1 e.2.1 = e.2.2) (hl0 : l.1.stackTraces = false) (Q1 : Int32 → aM → Prop) (c2 : AC l (pI pg 53) (fcI M Q1) 0 0 [.ref 2, .retAddr 5] SHF M) (k4 : ∀ (y1 : Int32), ∀ (M1 : aM), ∀ (e1 : M1.2.2 = M.2.2), ∀ (q1 : Q1 y1 M1), ∀ (h3 : (y1 : Int32) = 0), AW l (pI pg 52) P kc ks 60 [(0, .ref 1), (1, .ref 4)] [] SHF M1) (Q5 : Int32 → aM → aM → Prop) (c6 : ∀ (y1 : Int32), ∀ (M1 : aM), ∀ (e1 : M1.2.2 = M.2.2), ∀ (q1 : Q1 y1 M1), ∀ (h3 : ¬ ((y1 : Int32) = 0)), AC l (pI pg 78) (fcV M1 (Q5 y1 M1)) 0 0 [.ref 1, .ref 4] SHF M1) (r7 : ∀ (y1 : Int32), ∀ (M1 : aM), ∀ (e1 : M1.2.2 = M.2.2), ∀ (q1 : Q1 y1 M1), ∀ (h3 : ¬ ((y1 : Int32) = 0)), ∀ (M5 : aM), ∀ (e5 : M5.2.2 = M1.2.2), ∀ (q5 : (Q5 y1 M1) M5), P (.inl none) SHF M5) : AW l (pI pg 52) P kc ks 40 [(0, .ref 1), (1, .ref 4)] [] SHF M := by
  refine AW.aload_n (dq rfl) rfl rfl ?_
  show AW l (pI pg 52) P kc ks 41 _ _ SHF _
  refine fw_get (dq rfl) (pg_ok.2.1 52 _ _ _ _ rfl) rfl (v := .ref 2) (isTA_ok rfl (rgR_ok hJ rfl)) ?_
  show AW l (pI pg 52) P kc ks 44 _ _ SHF _
  refine AW.ldcS (dq rfl) (List.mem_of_getElem? (i := 4) rfl) ?_
  show AW l (pI pg 52) P kc ks 46 _ _ SHF _
  refine fw_callVI (as := [.retAddr 5]) (dq rfl) (pg_ok.2.2.1 52 _ _ _ _ rfl) rfl (by decide +kernel) rfl rfl (c2) (fun y1 M1 e1 q1 => ?_)
  have hJ1 : ∀ e ∈ RK, M1.2.2 e.1 e.2.1 = e.2.2 := fun e he => by rw [e1]; exact hJ e he
  show AW l (pI pg 52) P kc ks 49 [(0, .ref 1), (1, .ref 4)] [.int (y1)] SHF _
  refine AW.if_eq (dq rfl) (tgt := 60) (by decide) (fun h3 => ?_) (fun h3 => ?_)
  · have _ := h3
    refine AW.drop (lv' := [(0, .ref 1), (1, .ref 4)]) (List.forall_mem_cons.mpr ⟨List.mem_of_getElem? (i := 0) rfl, List.forall_mem_cons.mpr ⟨List.mem_of_getElem? (i := 1) rfl, fun _ h => absurd h List.not_mem_nil⟩⟩) ?_
    exact k4 y1 M1 e1 q1 h3
  · have _ := h3
    refine AW.aload_n (dq rfl) rfl rfl ?_
    show AW l (pI pg 52) P kc ks 53 _ _ SHF _
    refine AW.aload_n (dq rfl) rfl rfl ?_
    show AW l (pI pg 52) P kc ks 54 _ _ SHF _
    refine fw_callVV (as := [.ref 4]) (dq rfl) (pg_ok.2.2.1 52 _ _ _ _ rfl) rfl (by decide +kernel) rfl rfl (c6 y1 M1 e1 q1 h3) (fun M5 e5 q5 => ?_)
    have hJ5 : ∀ e ∈ RK, M5.2.2 e.1 e.2.1 = e.2.2 := fun e he => by rw [e5]; exact hJ1 e he
    show AW l (pI pg 52) P kc ks 57 [(0, .ref 1), (1, .ref 4)] [] SHF _
    refine AW.goto (dq rfl) (tgt := 106) (by decide) ?_
    refine AW.vret (dq rfl) rfl ?_
    exact r7 y1 M1 e1 q1 h3 M5 e5 q5

theorem rliA_60 {l : aL} {P : aP} {kc ks : Nat} {M : aM} (hJ : ∀ e ∈ RK, M.2.2 e.1 e.2.1 = e.2.2) (hl0 : l.1.stackTraces = false) (Q1 : Int32 → aM → Prop) (c2 : AC l (pI pg 53) (fcI M Q1) 0 0 [.ref 2, .retAddr 6] SHF M) (k4 : ∀ (y1 : Int32), ∀ (M1 : aM), ∀ (e1 : M1.2.2 = M.2.2), ∀ (q1 : Q1 y1 M1), ∀ (h3 : (y1 : Int32) = 0), AW l (pI pg 52) P kc ks 80 [(0, .ref 1), (1, .ref 4)] [] SHF M1) (Q5 : Int32 → aM → aM → Prop) (c6 : ∀ (y1 : Int32), ∀ (M1 : aM), ∀ (e1 : M1.2.2 = M.2.2), ∀ (q1 : Q1 y1 M1), ∀ (h3 : ¬ ((y1 : Int32) = 0)), AC l (pI pg 82) (fcV M1 (Q5 y1 M1)) 0 0 [.ref 1, .ref 4] SHF M1) (r7 : ∀ (y1 : Int32), ∀ (M1 : aM), ∀ (e1 : M1.2.2 = M.2.2), ∀ (q1 : Q1 y1 M1), ∀ (h3 : ¬ ((y1 : Int32) = 0)), ∀ (M5 : aM), ∀ (e5 : M5.2.2 = M1.2.2), ∀ (q5 : (Q5 y1 M1) M5), P (.inl none) SHF M5) : AW l (pI pg 52) P kc ks 60 [(0, .ref 1), (1, .ref 4)] [] SHF M := by
  refine AW.aload_n (dq rfl) rfl rfl ?_
  show AW l (pI pg 52) P kc ks 61 _ _ SHF _
  refine fw_get (dq rfl) (pg_ok.2.1 52 _ _ _ _ rfl) rfl (v := .ref 2) (isTA_ok rfl (rgR_ok hJ rfl)) ?_
  show AW l (pI pg 52) P kc ks 64 _ _ SHF _
  refine AW.ldcS (dq rfl) (List.mem_of_getElem? (i := 5) rfl) ?_
  show AW l (pI pg 52) P kc ks 66 _ _ SHF _
  refine fw_callVI (as := [.retAddr 6]) (dq rfl) (pg_ok.2.2.1 52 _ _ _ _ rfl) rfl (by decide +kernel) rfl rfl (c2) (fun y1 M1 e1 q1 => ?_)
  have hJ1 : ∀ e ∈ RK, M1.2.2 e.1 e.2.1 = e.2.2 := fun e he => by rw [e1]; exact hJ e he
  show AW l (pI pg 52) P kc ks 69 [(0, .ref 1), (1, .ref 4)] [.int (y1)] SHF _
  refine AW.if_eq (dq rfl) (tgt := 80) (by decide) (fun h3 => ?_) (fun h3 => ?_)
  · have _ := h3
    refine AW.drop (lv' := [(0, .ref 1), (1, .ref 4)]) (List.forall_mem_cons.mpr ⟨List.mem_of_getElem? (i := 0) rfl, List.forall_mem_cons.mpr ⟨List.mem_of_getElem? (i := 1) rfl, fun _ h => absurd h List.not_mem_nil⟩⟩) ?_
    exact k4 y1 M1 e1 q1 h3
  · have _ := h3
    refine AW.aload_n (dq rfl) rfl rfl ?_
    show AW l (pI pg 52) P kc ks 73 _ _ SHF _
    refine AW.aload_n (dq rfl) rfl rfl ?_
    show AW l (pI pg 52) P kc ks 74 _ _ SHF _
    refine fw_callVV (as := [.ref 4]) (dq rfl) (pg_ok.2.2.1 52 _ _ _ _ rfl) rfl (by decide +kernel) rfl rfl (c6 y1 M1 e1 q1 h3) (fun M5 e5 q5 => ?_)
    have hJ5 : ∀ e ∈ RK, M5.2.2 e.1 e.2.1 = e.2.2 := fun e he => by rw [e5]; exact hJ1 e he
    show AW l (pI pg 52) P kc ks 77 [(0, .ref 1), (1, .ref 4)] [] SHF _
    refine AW.goto (dq rfl) (tgt := 106) (by decide) ?_
    refine AW.vret (dq rfl) rfl ?_
    exact r7 y1 M1 e1 q1 h3 M5 e5 q5

theorem rliA_80 {l : aL} {P : aP} {kc ks : Nat} {M : aM} (hJ : ∀ e ∈ RK, M.2.2 e.1 e.2.1 = e.2.2) (hl0 : l.1.stackTraces = false) (Q1 : Int32 → aM → Prop) (c2 : AC l (pI pg 53) (fcI M Q1) 0 0 [.ref 2, .retAddr 7] SHF M) (k4 : ∀ (y1 : Int32), ∀ (M1 : aM), ∀ (e1 : M1.2.2 = M.2.2), ∀ (q1 : Q1 y1 M1), ∀ (h3 : (y1 : Int32) = 0), AW l (pI pg 52) P kc ks 100 [(0, .ref 1), (1, .ref 4)] [] SHF M1) (Q5 : Int32 → aM → aM → Prop) (c6 : ∀ (y1 : Int32), ∀ (M1 : aM), ∀ (e1 : M1.2.2 = M.2.2), ∀ (q1 : Q1 y1 M1), ∀ (h3 : ¬ ((y1 : Int32) = 0)), AC l (pI pg 84) (fcV M1 (Q5 y1 M1)) 0 0 [.ref 1, .ref 4] SHF M1) (r7 : ∀ (y1 : Int32), ∀ (M1 : aM), ∀ (e1 : M1.2.2 = M.2.2), ∀ (q1 : Q1 y1 M1), ∀ (h3 : ¬ ((y1 : Int32) = 0)), ∀ (M5 : aM), ∀ (e5 : M5.2.2 = M1.2.2), ∀ (q5 : (Q5 y1 M1) M5), P (.inl none) SHF M5) : AW l (pI pg 52) P kc ks 80 [(0, .ref 1), (1, .ref 4)] [] SHF M := by
  refine AW.aload_n (dq rfl) rfl rfl ?_
  show AW l (pI pg 52) P kc ks 81 _ _ SHF _
  refine fw_get (dq rfl) (pg_ok.2.1 52 _ _ _ _ rfl) rfl (v := .ref 2) (isTA_ok rfl (rgR_ok hJ rfl)) ?_
  show AW l (pI pg 52) P kc ks 84 _ _ SHF _
  refine AW.ldcS (dq rfl) (List.mem_of_getElem? (i := 6) rfl) ?_
  show AW l (pI pg 52) P kc ks 86 _ _ SHF _
  refine fw_callVI (as := [.retAddr 7]) (dq rfl) (pg_ok.2.2.1 52 _ _ _ _ rfl) rfl (by decide +kernel) rfl rfl (c2) (fun y1 M1 e1 q1 => ?_)
  have hJ1 : ∀ e ∈ RK, M1.2.2 e.1 e.2.1 = e.2.2 := fun e he => by rw [e1]; exact hJ e he
  show AW l (pI pg 52) P kc ks 89 [(0, .ref 1), (1, .ref 4)] [.int (y1)] SHF _
  refine AW.if_eq (dq rfl) (tgt := 100) (by decide) (fun h3 => ?_) (fun h3 => ?_)
  · have _ := h3
    refine AW.drop (lv' := [(0, .ref 1), (1, .ref 4)]) (List.forall_mem_cons.mpr ⟨List.mem_of_getElem? (i := 0) rfl, List.forall_mem_cons.mpr ⟨List.mem_of_getElem? (i := 1) rfl, fun _ h => absurd h List.not_mem_nil⟩⟩) ?_
    exact k4 y1 M1 e1 q1 h3
  · have _ := h3
    refine AW.aload_n (dq rfl) rfl rfl ?_
    show AW l (pI pg 52) P kc ks 93 _ _ SHF _
    refine AW.aload_n (dq rfl) rfl rfl ?_
    show AW l (pI pg 52) P kc ks 94 _ _ SHF _
    refine fw_callVV (as := [.ref 4]) (dq rfl) (pg_ok.2.2.1 52 _ _ _ _ rfl) rfl (by decide +kernel) rfl rfl (c6 y1 M1 e1 q1 h3) (fun M5 e5 q5 => ?_)
    have hJ5 : ∀ e ∈ RK, M5.2.2 e.1 e.2.1 = e.2.2 := fun e he => by rw [e5]; exact hJ1 e he
    show AW l (pI pg 52) P kc ks 97 [(0, .ref 1), (1, .ref 4)] [] SHF _
    refine AW.goto (dq rfl) (tgt := 106) (by decide) ?_
    refine AW.vret (dq rfl) rfl ?_
    exact r7 y1 M1 e1 q1 h3 M5 e5 q5

theorem rliA_100 {l : aL} {P : aP} {kc ks : Nat} {M : aM} (hJ : ∀ e ∈ RK, M.2.2 e.1 e.2.1 = e.2.2) (hl0 : l.1.stackTraces = false) (r2 : P (.inl none) SHF (rfM M (Int32.ofInt 1))) : AW l (pI pg 52) P kc ks 100 [(0, .ref 1), (1, .ref 4)] [] SHF M := by
  refine AW.aload_n (dq rfl) rfl rfl ?_
  show AW l (pI pg 52) P kc ks 101 _ _ SHF _
  refine AW.iconst (dq rfl) ?_
  show AW l (pI pg 52) P kc ks 102 _ _ SHF _
  refine fw_callVI (as := [.int (Int32.ofInt 1)]) (dq rfl) (pg_ok.2.2.1 52 _ _ _ _ rfl) rfl (by decide +kernel) rfl rfl (ref_c hl0 (fun e he => hJ e he)) (fun y1 M1 e1 q1 => ?_)
  obtain ⟨rfl, rfl⟩ := q1
  show AW l (pI pg 52) P kc ks 105 [(0, .ref 1), (1, .ref 4)] [.int (Int32.ofInt (-1))] SHF _
  refine AW.pop (dq rfl) rfl ?_
  show AW l (pI pg 52) P kc ks 106 _ _ SHF _
  refine AW.vret (dq rfl) rfl ?_
  exact r2

theorem fil7_0 {l : aL} {P : aP} {kc ks : Nat} {x : Int32} {M : aM}  (hl0 : l.1.stackTraces = false) (k1 : AW l (pI pg 12) P kc ks 5 [(0, .ref 7), (1, .int (x)), (2, .int (Int32.ofInt 0)), (3, .int (Int32.ofNat 6))] [] SHF M) : AW l (pI pg 12) P kc ks 0 [(0, .ref 7), (1, .int (x))] [] SHF M := by
  refine AW.iconst (dq rfl) ?_
  show AW l (pI pg 12) P kc ks 1 _ _ SHF _
  refine AW.istore_n (dq rfl) (by decide +kernel) ?_
  show AW l (pI pg 12) P kc ks 2 [(2, .int (Int32.ofInt 0)), (0, .ref 7), (1, .int (x))] [] SHF _
  refine AW.aload_n (dq rfl) rfl rfl ?_
  show AW l (pI pg 12) P kc ks 3 _ _ SHF _
  refine AW.alen (dq rfl) rfl ?_
  show AW l (pI pg 12) P kc ks 4 _ _ SHF _
  refine AW.istore_n (dq rfl) (by decide +kernel) ?_
  show AW l (pI pg 12) P kc ks 5 [(3, .int (Int32.ofNat 6)), (2, .int (Int32.ofInt 0)), (0, .ref 7), (1, .int (x))] [] SHF _
  refine AW.drop (lv' := [(0, .ref 7), (1, .int (x)), (2, .int (Int32.ofInt 0)), (3, .int (Int32.ofNat 6))]) (List.forall_mem_cons.mpr ⟨List.mem_of_getElem? (i := 2) rfl, List.forall_mem_cons.mpr ⟨List.mem_of_getElem? (i := 3) rfl, List.forall_mem_cons.mpr ⟨List.mem_of_getElem? (i := 1) rfl, List.forall_mem_cons.mpr ⟨List.mem_of_getElem? (i := 0) rfl, fun _ h => absurd h List.not_mem_nil⟩⟩⟩⟩) ?_
  exact k1

theorem fil7_5 {l : aL} {P : aP} {kc ks : Nat} {i : Nat} {x : Int32} {M : aM}  (hl0 : l.1.stackTraces = false) (r2 : ∀ (h1 : (Int32.ofNat 6 : Int32) ≤ (nI i : Int32)), P (.inl none) SHF M) (o3 : ∀ (h1 : ¬ ((Int32.ofNat 6 : Int32) ≤ (nI i : Int32))), vp_in (nI i) 6) (k4 : ∀ (h1 : ¬ ((Int32.ofNat 6 : Int32) ≤ (nI i : Int32))), AW l (pI pg 12) P kc ks 5 [(0, .ref 7), (1, .int (x)), (2, .int ((nI i) + Int32.ofInt 1)), (3, .int (Int32.ofNat 6))] [] SHF (aset M 7 (nI i).toNatClampNeg (.int (x)))) : AW l (pI pg 12) P kc ks 5 [(0, .ref 7), (1, .int (x)), (2, .int (nI i)), (3, .int (Int32.ofNat 6))] [] SHF M := by
  refine AW.iload_n (dq rfl) rfl ?_
  show AW l (pI pg 12) P kc ks 6 _ _ SHF _
  refine AW.iload_n (dq rfl) rfl ?_
  show AW l (pI pg 12) P kc ks 7 _ _ SHF _
  refine AW.icmp_ge (dq rfl) (tgt := 20) (by decide) (fun h1 => ?_) (fun h1 => ?_)
  · have _ := h1
    refine AW.vret (dq rfl) rfl ?_
    exact r2 h1
  · have _ := h1
    refine AW.aload_n (dq rfl) rfl rfl ?_
    show AW l (pI pg 12) P kc ks 11 _ _ SHF _
    refine AW.iload_n (dq rfl) rfl ?_
    show AW l (pI pg 12) P kc ks 12 _ _ SHF _
    refine AW.iload_n (dq rfl) rfl ?_
    show AW l (pI pg 12) P kc ks 13 _ _ SHF _
    refine AW.iast (dq rfl) rfl (o3 h1) ?_
    show AW l (pI pg 12) P kc ks 14 _ _ SHF _
    refine AW.iinc (dq rfl) rfl (by decide +kernel) ?_
    show AW l (pI pg 12) P kc ks 17 [(2, .int ((nI i) + Int32.ofInt 1)), (0, .ref 7), (1, .int (x)), (3, .int (Int32.ofNat 6))] [] SHF _
    refine AW.goto (dq rfl) (tgt := 5) (by decide) ?_
    refine AW.drop (lv' := [(0, .ref 7), (1, .int (x)), (2, .int ((nI i) + Int32.ofInt 1)), (3, .int (Int32.ofNat 6))]) (List.forall_mem_cons.mpr ⟨List.mem_of_getElem? (i := 1) rfl, List.forall_mem_cons.mpr ⟨List.mem_of_getElem? (i := 2) rfl, List.forall_mem_cons.mpr ⟨List.mem_of_getElem? (i := 0) rfl, List.forall_mem_cons.mpr ⟨List.mem_of_getElem? (i := 3) rfl, fun _ h => absurd h List.not_mem_nil⟩⟩⟩⟩) ?_
    exact k4 h1

theorem fil8_0 {l : aL} {P : aP} {kc ks : Nat} {x : Int32} {M : aM}  (hl0 : l.1.stackTraces = false) (k1 : AW l (pI pg 12) P kc ks 5 [(0, .ref 8), (1, .int (x)), (2, .int (Int32.ofInt 0)), (3, .int (Int32.ofNat 6))] [] SHF M) : AW l (pI pg 12) P kc ks 0 [(0, .ref 8), (1, .int (x))] [] SHF M := by
  refine AW.iconst (dq rfl) ?_
  show AW l (pI pg 12) P kc ks 1 _ _ SHF _
  refine AW.istore_n (dq rfl) (by decide +kernel) ?_
  show AW l (pI pg 12) P kc ks 2 [(2, .int (Int32.ofInt 0)), (0, .ref 8), (1, .int (x))] [] SHF _
  refine AW.aload_n (dq rfl) rfl rfl ?_
  show AW l (pI pg 12) P kc ks 3 _ _ SHF _
  refine AW.alen (dq rfl) rfl ?_
  show AW l (pI pg 12) P kc ks 4 _ _ SHF _
  refine AW.istore_n (dq rfl) (by decide +kernel) ?_
  show AW l (pI pg 12) P kc ks 5 [(3, .int (Int32.ofNat 6)), (2, .int (Int32.ofInt 0)), (0, .ref 8), (1, .int (x))] [] SHF _
  refine AW.drop (lv' := [(0, .ref 8), (1, .int (x)), (2, .int (Int32.ofInt 0)), (3, .int (Int32.ofNat 6))]) (List.forall_mem_cons.mpr ⟨List.mem_of_getElem? (i := 2) rfl, List.forall_mem_cons.mpr ⟨List.mem_of_getElem? (i := 3) rfl, List.forall_mem_cons.mpr ⟨List.mem_of_getElem? (i := 1) rfl, List.forall_mem_cons.mpr ⟨List.mem_of_getElem? (i := 0) rfl, fun _ h => absurd h List.not_mem_nil⟩⟩⟩⟩) ?_
  exact k1

theorem fil8_5 {l : aL} {P : aP} {kc ks : Nat} {i : Nat} {x : Int32} {M : aM}  (hl0 : l.1.stackTraces = false) (r2 : ∀ (h1 : (Int32.ofNat 6 : Int32) ≤ (nI i : Int32)), P (.inl none) SHF M) (o3 : ∀ (h1 : ¬ ((Int32.ofNat 6 : Int32) ≤ (nI i : Int32))), vp_in (nI i) 6) (k4 : ∀ (h1 : ¬ ((Int32.ofNat 6 : Int32) ≤ (nI i : Int32))), AW l (pI pg 12) P kc ks 5 [(0, .ref 8), (1, .int (x)), (2, .int ((nI i) + Int32.ofInt 1)), (3, .int (Int32.ofNat 6))] [] SHF (aset M 8 (nI i).toNatClampNeg (.int (x)))) : AW l (pI pg 12) P kc ks 5 [(0, .ref 8), (1, .int (x)), (2, .int (nI i)), (3, .int (Int32.ofNat 6))] [] SHF M := by
  refine AW.iload_n (dq rfl) rfl ?_
  show AW l (pI pg 12) P kc ks 6 _ _ SHF _
  refine AW.iload_n (dq rfl) rfl ?_
  show AW l (pI pg 12) P kc ks 7 _ _ SHF _
  refine AW.icmp_ge (dq rfl) (tgt := 20) (by decide) (fun h1 => ?_) (fun h1 => ?_)
  · have _ := h1
    refine AW.vret (dq rfl) rfl ?_
    exact r2 h1
  · have _ := h1
    refine AW.aload_n (dq rfl) rfl rfl ?_
    show AW l (pI pg 12) P kc ks 11 _ _ SHF _
    refine AW.iload_n (dq rfl) rfl ?_
    show AW l (pI pg 12) P kc ks 12 _ _ SHF _
    refine AW.iload_n (dq rfl) rfl ?_
    show AW l (pI pg 12) P kc ks 13 _ _ SHF _
    refine AW.iast (dq rfl) rfl (o3 h1) ?_
    show AW l (pI pg 12) P kc ks 14 _ _ SHF _
    refine AW.iinc (dq rfl) rfl (by decide +kernel) ?_
    show AW l (pI pg 12) P kc ks 17 [(2, .int ((nI i) + Int32.ofInt 1)), (0, .ref 8), (1, .int (x)), (3, .int (Int32.ofNat 6))] [] SHF _
    refine AW.goto (dq rfl) (tgt := 5) (by decide) ?_
    refine AW.drop (lv' := [(0, .ref 8), (1, .int (x)), (2, .int ((nI i) + Int32.ofInt 1)), (3, .int (Int32.ofNat 6))]) (List.forall_mem_cons.mpr ⟨List.mem_of_getElem? (i := 1) rfl, List.forall_mem_cons.mpr ⟨List.mem_of_getElem? (i := 2) rfl, List.forall_mem_cons.mpr ⟨List.mem_of_getElem? (i := 0) rfl, List.forall_mem_cons.mpr ⟨List.mem_of_getElem? (i := 3) rfl, fun _ h => absurd h List.not_mem_nil⟩⟩⟩⟩) ?_
    exact k4 h1

theorem fil11_0 {l : aL} {P : aP} {kc ks : Nat} {x : Int32} {M : aM}  (hl0 : l.1.stackTraces = false) (k1 : AW l (pI pg 12) P kc ks 5 [(0, .ref 11), (1, .int (x)), (2, .int (Int32.ofInt 0)), (3, .int (Int32.ofNat 8))] [] SHF M) : AW l (pI pg 12) P kc ks 0 [(0, .ref 11), (1, .int (x))] [] SHF M := by
  refine AW.iconst (dq rfl) ?_
  show AW l (pI pg 12) P kc ks 1 _ _ SHF _
  refine AW.istore_n (dq rfl) (by decide +kernel) ?_
  show AW l (pI pg 12) P kc ks 2 [(2, .int (Int32.ofInt 0)), (0, .ref 11), (1, .int (x))] [] SHF _
  refine AW.aload_n (dq rfl) rfl rfl ?_
  show AW l (pI pg 12) P kc ks 3 _ _ SHF _
  refine AW.alen (dq rfl) rfl ?_
  show AW l (pI pg 12) P kc ks 4 _ _ SHF _
  refine AW.istore_n (dq rfl) (by decide +kernel) ?_
  show AW l (pI pg 12) P kc ks 5 [(3, .int (Int32.ofNat 8)), (2, .int (Int32.ofInt 0)), (0, .ref 11), (1, .int (x))] [] SHF _
  refine AW.drop (lv' := [(0, .ref 11), (1, .int (x)), (2, .int (Int32.ofInt 0)), (3, .int (Int32.ofNat 8))]) (List.forall_mem_cons.mpr ⟨List.mem_of_getElem? (i := 2) rfl, List.forall_mem_cons.mpr ⟨List.mem_of_getElem? (i := 3) rfl, List.forall_mem_cons.mpr ⟨List.mem_of_getElem? (i := 1) rfl, List.forall_mem_cons.mpr ⟨List.mem_of_getElem? (i := 0) rfl, fun _ h => absurd h List.not_mem_nil⟩⟩⟩⟩) ?_
  exact k1

theorem fil11_5 {l : aL} {P : aP} {kc ks : Nat} {i : Nat} {x : Int32} {M : aM}  (hl0 : l.1.stackTraces = false) (r2 : ∀ (h1 : (Int32.ofNat 8 : Int32) ≤ (nI i : Int32)), P (.inl none) SHF M) (o3 : ∀ (h1 : ¬ ((Int32.ofNat 8 : Int32) ≤ (nI i : Int32))), vp_in (nI i) 8) (k4 : ∀ (h1 : ¬ ((Int32.ofNat 8 : Int32) ≤ (nI i : Int32))), AW l (pI pg 12) P kc ks 5 [(0, .ref 11), (1, .int (x)), (2, .int ((nI i) + Int32.ofInt 1)), (3, .int (Int32.ofNat 8))] [] SHF (aset M 11 (nI i).toNatClampNeg (.int (x)))) : AW l (pI pg 12) P kc ks 5 [(0, .ref 11), (1, .int (x)), (2, .int (nI i)), (3, .int (Int32.ofNat 8))] [] SHF M := by
  refine AW.iload_n (dq rfl) rfl ?_
  show AW l (pI pg 12) P kc ks 6 _ _ SHF _
  refine AW.iload_n (dq rfl) rfl ?_
  show AW l (pI pg 12) P kc ks 7 _ _ SHF _
  refine AW.icmp_ge (dq rfl) (tgt := 20) (by decide) (fun h1 => ?_) (fun h1 => ?_)
  · have _ := h1
    refine AW.vret (dq rfl) rfl ?_
    exact r2 h1
  · have _ := h1
    refine AW.aload_n (dq rfl) rfl rfl ?_
    show AW l (pI pg 12) P kc ks 11 _ _ SHF _
    refine AW.iload_n (dq rfl) rfl ?_
    show AW l (pI pg 12) P kc ks 12 _ _ SHF _
    refine AW.iload_n (dq rfl) rfl ?_
    show AW l (pI pg 12) P kc ks 13 _ _ SHF _
    refine AW.iast (dq rfl) rfl (o3 h1) ?_
    show AW l (pI pg 12) P kc ks 14 _ _ SHF _
    refine AW.iinc (dq rfl) rfl (by decide +kernel) ?_
    show AW l (pI pg 12) P kc ks 17 [(2, .int ((nI i) + Int32.ofInt 1)), (0, .ref 11), (1, .int (x)), (3, .int (Int32.ofNat 8))] [] SHF _
    refine AW.goto (dq rfl) (tgt := 5) (by decide) ?_
    refine AW.drop (lv' := [(0, .ref 11), (1, .int (x)), (2, .int ((nI i) + Int32.ofInt 1)), (3, .int (Int32.ofNat 8))]) (List.forall_mem_cons.mpr ⟨List.mem_of_getElem? (i := 1) rfl, List.forall_mem_cons.mpr ⟨List.mem_of_getElem? (i := 2) rfl, List.forall_mem_cons.mpr ⟨List.mem_of_getElem? (i := 0) rfl, List.forall_mem_cons.mpr ⟨List.mem_of_getElem? (i := 3) rfl, fun _ h => absurd h List.not_mem_nil⟩⟩⟩⟩) ?_
    exact k4 h1

theorem fil12_0 {l : aL} {P : aP} {kc ks : Nat} {x : Int32} {M : aM}  (hl0 : l.1.stackTraces = false) (k1 : AW l (pI pg 12) P kc ks 5 [(0, .ref 12), (1, .int (x)), (2, .int (Int32.ofInt 0)), (3, .int (Int32.ofNat 48))] [] SHF M) : AW l (pI pg 12) P kc ks 0 [(0, .ref 12), (1, .int (x))] [] SHF M := by
  refine AW.iconst (dq rfl) ?_
  show AW l (pI pg 12) P kc ks 1 _ _ SHF _
  refine AW.istore_n (dq rfl) (by decide +kernel) ?_
  show AW l (pI pg 12) P kc ks 2 [(2, .int (Int32.ofInt 0)), (0, .ref 12), (1, .int (x))] [] SHF _
  refine AW.aload_n (dq rfl) rfl rfl ?_
  show AW l (pI pg 12) P kc ks 3 _ _ SHF _
  refine AW.alen (dq rfl) rfl ?_
  show AW l (pI pg 12) P kc ks 4 _ _ SHF _
  refine AW.istore_n (dq rfl) (by decide +kernel) ?_
  show AW l (pI pg 12) P kc ks 5 [(3, .int (Int32.ofNat 48)), (2, .int (Int32.ofInt 0)), (0, .ref 12), (1, .int (x))] [] SHF _
  refine AW.drop (lv' := [(0, .ref 12), (1, .int (x)), (2, .int (Int32.ofInt 0)), (3, .int (Int32.ofNat 48))]) (List.forall_mem_cons.mpr ⟨List.mem_of_getElem? (i := 2) rfl, List.forall_mem_cons.mpr ⟨List.mem_of_getElem? (i := 3) rfl, List.forall_mem_cons.mpr ⟨List.mem_of_getElem? (i := 1) rfl, List.forall_mem_cons.mpr ⟨List.mem_of_getElem? (i := 0) rfl, fun _ h => absurd h List.not_mem_nil⟩⟩⟩⟩) ?_
  exact k1

theorem fil12_5 {l : aL} {P : aP} {kc ks : Nat} {i : Nat} {x : Int32} {M : aM}  (hl0 : l.1.stackTraces = false) (r2 : ∀ (h1 : (Int32.ofNat 48 : Int32) ≤ (nI i : Int32)), P (.inl none) SHF M) (o3 : ∀ (h1 : ¬ ((Int32.ofNat 48 : Int32) ≤ (nI i : Int32))), vp_in (nI i) 48) (k4 : ∀ (h1 : ¬ ((Int32.ofNat 48 : Int32) ≤ (nI i : Int32))), AW l (pI pg 12) P kc ks 5 [(0, .ref 12), (1, .int (x)), (2, .int ((nI i) + Int32.ofInt 1)), (3, .int (Int32.ofNat 48))] [] SHF (aset M 12 (nI i).toNatClampNeg (.int (x)))) : AW l (pI pg 12) P kc ks 5 [(0, .ref 12), (1, .int (x)), (2, .int (nI i)), (3, .int (Int32.ofNat 48))] [] SHF M := by
  refine AW.iload_n (dq rfl) rfl ?_
  show AW l (pI pg 12) P kc ks 6 _ _ SHF _
  refine AW.iload_n (dq rfl) rfl ?_
  show AW l (pI pg 12) P kc ks 7 _ _ SHF _
  refine AW.icmp_ge (dq rfl) (tgt := 20) (by decide) (fun h1 => ?_) (fun h1 => ?_)
  · have _ := h1
    refine AW.vret (dq rfl) rfl ?_
    exact r2 h1
  · have _ := h1
    refine AW.aload_n (dq rfl) rfl rfl ?_
    show AW l (pI pg 12) P kc ks 11 _ _ SHF _
    refine AW.iload_n (dq rfl) rfl ?_
    show AW l (pI pg 12) P kc ks 12 _ _ SHF _
    refine AW.iload_n (dq rfl) rfl ?_
    show AW l (pI pg 12) P kc ks 13 _ _ SHF _
    refine AW.iast (dq rfl) rfl (o3 h1) ?_
    show AW l (pI pg 12) P kc ks 14 _ _ SHF _
    refine AW.iinc (dq rfl) rfl (by decide +kernel) ?_
    show AW l (pI pg 12) P kc ks 17 [(2, .int ((nI i) + Int32.ofInt 1)), (0, .ref 12), (1, .int (x)), (3, .int (Int32.ofNat 48))] [] SHF _
    refine AW.goto (dq rfl) (tgt := 5) (by decide) ?_
    refine AW.drop (lv' := [(0, .ref 12), (1, .int (x)), (2, .int ((nI i) + Int32.ofInt 1)), (3, .int (Int32.ofNat 48))]) (List.forall_mem_cons.mpr ⟨List.mem_of_getElem? (i := 1) rfl, List.forall_mem_cons.mpr ⟨List.mem_of_getElem? (i := 2) rfl, List.forall_mem_cons.mpr ⟨List.mem_of_getElem? (i := 0) rfl, List.forall_mem_cons.mpr ⟨List.mem_of_getElem? (i := 3) rfl, fun _ h => absurd h List.not_mem_nil⟩⟩⟩⟩) ?_
    exact k4 h1

theorem cleA_0 {l : aL} {P : aP} {kc ks : Nat} {M : aM} (hJ : ∀ e ∈ RK, M.2.2 e.1 e.2.1 = e.2.2) (hl0 : l.1.stackTraces = false) (Q1 : aM → Prop) (c2 : AC l (pI pg 12) (fcV (aset (aset (aset (aset M 4 0 (.int (Int32.ofInt 0))) 4 1 (.int (Int32.ofInt 0))) 4 2 (.int (Int32.ofInt 0))) 4 3 (.int (Int32.ofInt 0))) Q1) 0 0 [.ref 7, .int (Int32.ofInt 0)] SHF (aset (aset (aset (aset M 4 0 (.int (Int32.ofInt 0))) 4 1 (.int (Int32.ofInt 0))) 4 2 (.int (Int32.ofInt 0))) 4 3 (.int (Int32.ofInt 0)))) (Q3 : aM → aM → Prop) (c4 : ∀ (M1 : aM), ∀ (e1 : M1.2.2 = (aset (aset (aset (aset M 4 0 (.int (Int32.ofInt 0))) 4 1 (.int (Int32.ofInt 0))) 4 2 (.int (Int32.ofInt 0))) 4 3 (.int (Int32.ofInt 0))).2.2), ∀ (q1 : Q1 M1), AC l (pI pg 12) (fcV M1 (Q3 M1)) 0 0 [.ref 8, .int (Int32.ofInt 0)] SHF M1) (Q5 : aM → aM → aM → Prop) (c6 : ∀ (M1 : aM), ∀ (e1 : M1.2.2 = (aset (aset (aset (aset M 4 0 (.int (Int32.ofInt 0))) 4 1 (.int (Int32.ofInt 0))) 4 2 (.int (Int32.ofInt 0))) 4 3 (.int (Int32.ofInt 0))).2.2), ∀ (q1 : Q1 M1), ∀ (M3 : aM), ∀ (e3 : M3.2.2 = M1.2.2), ∀ (q3 : (Q3 M1) M3), AC l (pI pg 12) (fcV M3 (Q5 M1 M3)) 0 0 [.ref 11, .int (Int32.ofInt 0)] SHF M3) (Q7 : aM → aM → aM → aM → Prop) (c8 : ∀ (M1 : aM), ∀ (e1 : M1.2.2 = (aset (aset (aset (aset M 4 0 (.int (Int32.ofInt 0))) 4 1 (.int (Int32.ofInt 0))) 4 2 (.int (Int32.ofInt 0))) 4 3 (.int (Int32.ofInt 0))).2.2), ∀ (q1 : Q1 M1), ∀ (M3 : aM), ∀ (e3 : M3.2.2 = M1.2.2), ∀ (q3 : (Q3 M1) M3), ∀ (M5 : aM), ∀ (e5 : M5.2.2 = M3.2.2), ∀ (q5 : (Q5 M1 M3) M5), AC l (pI pg 12) (fcV M5 (Q7 M1 M3 M5)) 0 0 [.ref 12, .int (Int32.ofInt 0)] SHF M5) (r9 : ∀ (M1 : aM), ∀ (e1 : M1.2.2 = (aset (aset (aset (aset M 4 0 (.int (Int32.ofInt 0))) 4 1 (.int (Int32.ofInt 0))) 4 2 (.int (Int32.ofInt 0))) 4 3 (.int (Int32.ofInt 0))).2.2), ∀ (q1 : Q1 M1), ∀ (M3 : aM), ∀ (e3 : M3.2.2 = M1.2.2), ∀ (q3 : (Q3 M1) M3), ∀ (M5 : aM), ∀ (e5 : M5.2.2 = M3.2.2), ∀ (q5 : (Q5 M1 M3) M5), ∀ (M7 : aM), ∀ (e7 : M7.2.2 = M5.2.2), ∀ (q7 : (Q7 M1 M3 M5) M7), P (.inl none) SHF M7) : AW l (pI pg 46) P kc ks 0 [(0, .ref 4)] [] SHF M := by
  refine AW.aload_n (dq rfl) rfl rfl ?_
  show AW l (pI pg 46) P kc ks 1 _ _ SHF _
  refine AW.iconst (dq rfl) ?_
  show AW l (pI pg 46) P kc ks 2 _ _ SHF _
  refine fw_putI (dq rfl) (pg_ok.2.1 46 _ _ _ _ rfl) rfl rfl rfl ?_
  show AW l (pI pg 46) P kc ks 5 _ _ SHF _
  refine AW.aload_n (dq rfl) rfl rfl ?_
  show AW l (pI pg 46) P kc ks 6 _ _ SHF _
  refine AW.iconst (dq rfl) ?_
  show AW l (pI pg 46) P kc ks 7 _ _ SHF _
  refine fw_putI (dq rfl) (pg_ok.2.1 46 _ _ _ _ rfl) rfl rfl rfl ?_
  show AW l (pI pg 46) P kc ks 10 _ _ SHF _
  refine AW.aload_n (dq rfl) rfl rfl ?_
  show AW l (pI pg 46) P kc ks 11 _ _ SHF _
  refine AW.iconst (dq rfl) ?_
  show AW l (pI pg 46) P kc ks 12 _ _ SHF _
  refine fw_putI (dq rfl) (pg_ok.2.1 46 _ _ _ _ rfl) rfl rfl rfl ?_
  show AW l (pI pg 46) P kc ks 15 _ _ SHF _
  refine AW.aload_n (dq rfl) rfl rfl ?_
  show AW l (pI pg 46) P kc ks 16 _ _ SHF _
  refine AW.iconst (dq rfl) ?_
  show AW l (pI pg 46) P kc ks 17 _ _ SHF _
  refine fw_putI (dq rfl) (pg_ok.2.1 46 _ _ _ _ rfl) rfl rfl rfl ?_
  show AW l (pI pg 46) P kc ks 20 _ _ SHF _
  refine AW.aload_n (dq rfl) rfl rfl ?_
  show AW l (pI pg 46) P kc ks 21 _ _ SHF _
  refine fw_get (dq rfl) (pg_ok.2.1 46 _ _ _ _ rfl) rfl (v := .ref 7) (isTA_ok rfl (rgR_ok hJ rfl)) ?_
  show AW l (pI pg 46) P kc ks 24 _ _ SHF _
  refine AW.iconst (dq rfl) ?_
  show AW l (pI pg 46) P kc ks 25 _ _ SHF _
  refine fw_callSV (as := [.ref 7, .int (Int32.ofInt 0)]) (dq rfl) (pg_ok.2.2.1 46 _ _ _ _ rfl) (by decide +kernel) rfl rfl (c2) (fun M1 e1 q1 => ?_)
  have hJ1 : ∀ e ∈ RK, M1.2.2 e.1 e.2.1 = e.2.2 := fun e he => by rw [e1]; exact hJ e he
  show AW l (pI pg 46) P kc ks 28 [(0, .ref 4)] [] SHF _
  refine AW.aload_n (dq rfl) rfl rfl ?_
  show AW l (pI pg 46) P kc ks 29 _ _ SHF _
  refine fw_get (dq rfl) (pg_ok.2.1 46 _ _ _ _ rfl) rfl (v := .ref 8) (isTA_ok rfl (rgR_ok hJ1 rfl)) ?_
  show AW l (pI pg 46) P kc ks 32 _ _ SHF _
  refine AW.iconst (dq rfl) ?_
  show AW l (pI pg 46) P kc ks 33 _ _ SHF _
  refine fw_callSV (as := [.ref 8, .int (Int32.ofInt 0)]) (dq rfl) (pg_ok.2.2.1 46 _ _ _ _ rfl) (by decide +kernel) rfl rfl (c4 M1 e1 q1) (fun M3 e3 q3 => ?_)
  have hJ3 : ∀ e ∈ RK, M3.2.2 e.1 e.2.1 = e.2.2 := fun e he => by rw [e3]; exact hJ1 e he
  show AW l (pI pg 46) P kc ks 36 [(0, .ref 4)] [] SHF _
  refine AW.aload_n (dq rfl) rfl rfl ?_
  show AW l (pI pg 46) P kc ks 37 _ _ SHF _
  refine fw_get (dq rfl) (pg_ok.2.1 46 _ _ _ _ rfl) rfl (v := .ref 11) (isTA_ok rfl (rgR_ok hJ3 rfl)) ?_
  show AW l (pI pg 46) P kc ks 40 _ _ SHF _
  refine AW.iconst (dq rfl) ?_
  show AW l (pI pg 46) P kc ks 41 _ _ SHF _
  refine fw_callSV (as := [.ref 11, .int (Int32.ofInt 0)]) (dq rfl) (pg_ok.2.2.1 46 _ _ _ _ rfl) (by decide +kernel) rfl rfl (c6 M1 e1 q1 M3 e3 q3) (fun M5 e5 q5 => ?_)
  have hJ5 : ∀ e ∈ RK, M5.2.2 e.1 e.2.1 = e.2.2 := fun e he => by rw [e5]; exact hJ3 e he
  show AW l (pI pg 46) P kc ks 44 [(0, .ref 4)] [] SHF _
  refine AW.aload_n (dq rfl) rfl rfl ?_
  show AW l (pI pg 46) P kc ks 45 _ _ SHF _
  refine fw_get (dq rfl) (pg_ok.2.1 46 _ _ _ _ rfl) rfl (v := .ref 12) (isTA_ok rfl (rgR_ok hJ5 rfl)) ?_
  show AW l (pI pg 46) P kc ks 48 _ _ SHF _
  refine AW.iconst (dq rfl) ?_
  show AW l (pI pg 46) P kc ks 49 _ _ SHF _
  refine fw_callSV (as := [.ref 12, .int (Int32.ofInt 0)]) (dq rfl) (pg_ok.2.2.1 46 _ _ _ _ rfl) (by decide +kernel) rfl rfl (c8 M1 e1 q1 M3 e3 q3 M5 e5 q5) (fun M7 e7 q7 => ?_)
  have hJ7 : ∀ e ∈ RK, M7.2.2 e.1 e.2.1 = e.2.2 := fun e he => by rw [e7]; exact hJ5 e he
  show AW l (pI pg 46) P kc ks 52 [(0, .ref 4)] [] SHF _
  refine AW.vret (dq rfl) rfl ?_
  exact r9 M1 e1 q1 M3 e3 q3 M5 e5 q5 M7 e7 q7

theorem reaA_0 {l : aL} {P : aP} {kc ks : Nat} {x : Int32} {M : aM} (hJ : ∀ e ∈ RK, M.2.2 e.1 e.2.1 = e.2.2) (hl0 : l.1.stackTraces = false) (Q1 : aM → Prop) (c2 : AC l (pI pg 46) (fcV M Q1) 0 0 [.ref 4] SHF M) (Q3 : aM → aM → Prop) (c4 : ∀ (M1 : aM), ∀ (e1 : M1.2.2 = M.2.2), ∀ (q1 : Q1 M1), AC l (pI pg 47) (fcV M1 (Q3 M1)) 0 0 [.ref 2, .int (x)] SHF M1) (k5 : ∀ (M1 : aM), ∀ (e1 : M1.2.2 = M.2.2), ∀ (q1 : Q1 M1), ∀ (M3 : aM), ∀ (e3 : M3.2.2 = M1.2.2), ∀ (q3 : (Q3 M1) M3), AW l (pI pg 45) P kc ks 24 [(3, .int (Int32.ofInt 0)), (2, .int (x)), (1, .ref 4), (0, .ref 1)] [] SHF (aset (aset M3 1 1 (.int (Int32.ofInt 0))) 1 2 (.int (Int32.ofInt (-1))))) : AW l (pI pg 45) P kc ks 0 [(0, .ref 1), (1, .ref 4), (2, .int (x))] [] SHF M := by
  refine AW.aload_n (dq rfl) rfl rfl ?_
  show AW l (pI pg 45) P kc ks 1 _ _ SHF _
  refine fw_callVV (as := []) (dq rfl) (pg_ok.2.2.1 45 _ _ _ _ rfl) rfl (by decide +kernel) rfl rfl (c2) (fun M1 e1 q1 => ?_)
  have hJ1 : ∀ e ∈ RK, M1.2.2 e.1 e.2.1 = e.2.2 := fun e he => by rw [e1]; exact hJ e he
  show AW l (pI pg 45) P kc ks 4 [(0, .ref 1), (1, .ref 4), (2, .int (x))] [] SHF _
  refine AW.aload_n (dq rfl) rfl rfl ?_
  show AW l (pI pg 45) P kc ks 5 _ _ SHF _
  refine fw_get (dq rfl) (pg_ok.2.1 45 _ _ _ _ rfl) rfl (v := .ref 2) (isTA_ok rfl (rgR_ok hJ1 rfl)) ?_
  show AW l (pI pg 45) P kc ks 8 _ _ SHF _
  refine AW.iload_n (dq rfl) rfl ?_
  show AW l (pI pg 45) P kc ks 9 _ _ SHF _
  refine fw_callVV (as := [.int (x)]) (dq rfl) (pg_ok.2.2.1 45 _ _ _ _ rfl) rfl (by decide +kernel) rfl rfl (c4 M1 e1 q1) (fun M3 e3 q3 => ?_)
  have hJ3 : ∀ e ∈ RK, M3.2.2 e.1 e.2.1 = e.2.2 := fun e he => by rw [e3]; exact hJ1 e he
  show AW l (pI pg 45) P kc ks 12 [(0, .ref 1), (1, .ref 4), (2, .int (x))] [] SHF _
  refine AW.aload_n (dq rfl) rfl rfl ?_
  show AW l (pI pg 45) P kc ks 13 _ _ SHF _
  refine AW.iconst (dq rfl) ?_
  show AW l (pI pg 45) P kc ks 14 _ _ SHF _
  refine fw_putI (dq rfl) (pg_ok.2.1 45 _ _ _ _ rfl) rfl rfl rfl ?_
  show AW l (pI pg 45) P kc ks 17 _ _ SHF _
  refine AW.aload_n (dq rfl) rfl rfl ?_
  show AW l (pI pg 45) P kc ks 18 _ _ SHF _
  refine AW.iconst (dq rfl) ?_
  show AW l (pI pg 45) P kc ks 19 _ _ SHF _
  refine fw_putI (dq rfl) (pg_ok.2.1 45 _ _ _ _ rfl) rfl rfl rfl ?_
  show AW l (pI pg 45) P kc ks 22 _ _ SHF _
  refine AW.iconst (dq rfl) ?_
  show AW l (pI pg 45) P kc ks 23 _ _ SHF _
  refine AW.istore_n (dq rfl) (by decide +kernel) ?_
  show AW l (pI pg 45) P kc ks 24 [(3, .int (Int32.ofInt 0)), (0, .ref 1), (1, .ref 4), (2, .int (x))] [] SHF _
  refine AW.drop (lv' := [(3, .int (Int32.ofInt 0)), (2, .int (x)), (1, .ref 4), (0, .ref 1)]) (List.forall_mem_cons.mpr ⟨List.mem_of_getElem? (i := 0) rfl, List.forall_mem_cons.mpr ⟨List.mem_of_getElem? (i := 3) rfl, List.forall_mem_cons.mpr ⟨List.mem_of_getElem? (i := 2) rfl, List.forall_mem_cons.mpr ⟨List.mem_of_getElem? (i := 1) rfl, fun _ h => absurd h List.not_mem_nil⟩⟩⟩⟩) ?_
  exact k5 M1 e1 q1 M3 e3 q3

theorem reaA_24 {l : aL} {P : aP} {kc ks : Nat} {i n : Nat} {M : aM} (hJ : ∀ e ∈ RK, M.2.2 e.1 e.2.1 = e.2.2) (hl0 : l.1.stackTraces = false) (r2 : ∀ (h1 : (nI n : Int32) < (nI i : Int32)), P (.inl (some (.int (M.1 1 1)))) SHF M) (r4 : ∀ (h1 : ¬ ((nI n : Int32) < (nI i : Int32))), ∀ (h3 : ¬ (M.1 1 1 : Int32) = 0), P (.inl (some (.int (M.1 1 1)))) SHF M) (Q5 : aM → Prop) (c6 : ∀ (h1 : ¬ ((nI n : Int32) < (nI i : Int32))), ∀ (h3 : (M.1 1 1 : Int32) = 0), AC l (pI pg 48) (fcV M Q5) 0 0 [.ref 2] SHF M) (Q8 : aM → aM → Prop) (c9 : ∀ (h1 : ¬ ((nI n : Int32) < (nI i : Int32))), ∀ (h3 : (M.1 1 1 : Int32) = 0), ∀ (M5 : aM), ∀ (e5 : M5.2.2 = M.2.2), ∀ (q5 : Q5 M5), ∀ (h7 : ¬ (M5.1 2 3 : Int32) = 0), AC l (pI pg 52) (fcV M5 (Q8 M5)) 0 0 [.ref 1, .ref 4] SHF M5) (k10 : ∀ (h1 : ¬ ((nI n : Int32) < (nI i : Int32))), ∀ (h3 : (M.1 1 1 : Int32) = 0), ∀ (M5 : aM), ∀ (e5 : M5.2.2 = M.2.2), ∀ (q5 : Q5 M5), ∀ (h7 : ¬ (M5.1 2 3 : Int32) = 0), ∀ (M8 : aM), ∀ (e8 : M8.2.2 = M5.2.2), ∀ (q8 : (Q8 M5) M8), AW l (pI pg 45) P kc ks 24 [(3, .int ((nI i) + Int32.ofInt 1)), (2, .int (nI n)), (1, .ref 4), (0, .ref 1)] [] SHF M8) (r11 : ∀ (h1 : ¬ ((nI n : Int32) < (nI i : Int32))), ∀ (h3 : (M.1 1 1 : Int32) = 0), ∀ (M5 : aM), ∀ (e5 : M5.2.2 = M.2.2), ∀ (q5 : Q5 M5), ∀ (h7 : (M5.1 2 3 : Int32) = 0), P (.inl (some (.int (M5.1 1 1)))) SHF M5) : AW l (pI pg 45) P kc ks 24 [(3, .int (nI i)), (2, .int (nI n)), (1, .ref 4), (0, .ref 1)] [] SHF M := by
  refine AW.iload_n (dq rfl) rfl ?_
  show AW l (pI pg 45) P kc ks 25 _ _ SHF _
  refine AW.iload_n (dq rfl) rfl ?_
  show AW l (pI pg 45) P kc ks 26 _ _ SHF _
  refine AW.icmp_gt (dq rfl) (tgt := 67) (by decide) (fun h1 => ?_) (fun h1 => ?_)
  · have _ := h1
    refine AW.aload_n (dq rfl) rfl rfl ?_
    show AW l (pI pg 45) P kc ks 68 _ _ SHF _
    refine fw_get (dq rfl) (pg_ok.2.1 45 _ _ _ _ rfl) rfl (v := .int (M.1 1 1)) rfl ?_
    show AW l (pI pg 45) P kc ks 71 _ _ SHF _
    refine AW.iret (dq rfl) rfl ?_
    exact r2 h1
  · have _ := h1
    refine AW.aload_n (dq rfl) rfl rfl ?_
    show AW l (pI pg 45) P kc ks 30 _ _ SHF _
    refine fw_get (dq rfl) (pg_ok.2.1 45 _ _ _ _ rfl) rfl (v := .int (M.1 1 1)) rfl ?_
    show AW l (pI pg 45) P kc ks 33 _ _ SHF _
    refine AW.if_ne (dq rfl) (tgt := 67) (by decide) (fun h3 => ?_) (fun h3 => ?_)
    · have _ := h3
      refine AW.aload_n (dq rfl) rfl rfl ?_
      show AW l (pI pg 45) P kc ks 68 _ _ SHF _
      refine fw_get (dq rfl) (pg_ok.2.1 45 _ _ _ _ rfl) rfl (v := .int (M.1 1 1)) rfl ?_
      show AW l (pI pg 45) P kc ks 71 _ _ SHF _
      refine AW.iret (dq rfl) rfl ?_
      exact r4 h1 h3
    · have _ := h3
      refine AW.aload_n (dq rfl) rfl rfl ?_
      show AW l (pI pg 45) P kc ks 37 _ _ SHF _
      refine fw_get (dq rfl) (pg_ok.2.1 45 _ _ _ _ rfl) rfl (v := .ref 2) (isTA_ok rfl (rgR_ok hJ rfl)) ?_
      show AW l (pI pg 45) P kc ks 40 _ _ SHF _
      refine fw_callVV (as := []) (dq rfl) (pg_ok.2.2.1 45 _ _ _ _ rfl) rfl (by decide +kernel) rfl rfl (c6 h1 h3) (fun M5 e5 q5 => ?_)
      have hJ5 : ∀ e ∈ RK, M5.2.2 e.1 e.2.1 = e.2.2 := fun e he => by rw [e5]; exact hJ e he
      show AW l (pI pg 45) P kc ks 43 [(3, .int (nI i)), (2, .int (nI n)), (1, .ref 4), (0, .ref 1)] [] SHF _
      refine AW.aload_n (dq rfl) rfl rfl ?_
      show AW l (pI pg 45) P kc ks 44 _ _ SHF _
      refine fw_get (dq rfl) (pg_ok.2.1 45 _ _ _ _ rfl) rfl (v := .ref 2) (isTA_ok rfl (rgR_ok hJ5 rfl)) ?_
      show AW l (pI pg 45) P kc ks 47 _ _ SHF _
      refine fw_get (dq rfl) (pg_ok.2.1 45 _ _ _ _ rfl) rfl (v := .int (M5.1 2 3)) rfl ?_
      show AW l (pI pg 45) P kc ks 50 _ _ SHF _
      refine AW.if_ne (dq rfl) (tgt := 56) (by decide) (fun h7 => ?_) (fun h7 => ?_)
      · have _ := h7
        refine AW.aload_n (dq rfl) rfl rfl ?_
        show AW l (pI pg 45) P kc ks 57 _ _ SHF _
        refine AW.aload_n (dq rfl) rfl rfl ?_
        show AW l (pI pg 45) P kc ks 58 _ _ SHF _
        refine fw_callVV (as := [.ref 4]) (dq rfl) (pg_ok.2.2.1 45 _ _ _ _ rfl) rfl (by decide +kernel) rfl rfl (c9 h1 h3 M5 e5 q5 h7) (fun M8 e8 q8 => ?_)
        have hJ8 : ∀ e ∈ RK, M8.2.2 e.1 e.2.1 = e.2.2 := fun e he => by rw [e8]; exact hJ5 e he
        show AW l (pI pg 45) P kc ks 61 [(3, .int (nI i)), (2, .int (nI n)), (1, .ref 4), (0, .ref 1)] [] SHF _
        refine AW.iinc (dq rfl) rfl (by decide +kernel) ?_
        show AW l (pI pg 45) P kc ks 64 [(3, .int ((nI i) + Int32.ofInt 1)), (2, .int (nI n)), (1, .ref 4), (0, .ref 1)] [] SHF _
        refine AW.goto (dq rfl) (tgt := 24) (by decide) ?_
        refine AW.drop (lv' := [(3, .int ((nI i) + Int32.ofInt 1)), (2, .int (nI n)), (1, .ref 4), (0, .ref 1)]) (List.forall_mem_cons.mpr ⟨List.mem_of_getElem? (i := 0) rfl, List.forall_mem_cons.mpr ⟨List.mem_of_getElem? (i := 1) rfl, List.forall_mem_cons.mpr ⟨List.mem_of_getElem? (i := 2) rfl, List.forall_mem_cons.mpr ⟨List.mem_of_getElem? (i := 3) rfl, fun _ h => absurd h List.not_mem_nil⟩⟩⟩⟩) ?_
        exact k10 h1 h3 M5 e5 q5 h7 M8 e8 q8
      · have _ := h7
        refine AW.goto (dq rfl) (tgt := 67) (by decide) ?_
        refine AW.aload_n (dq rfl) rfl rfl ?_
        show AW l (pI pg 45) P kc ks 68 _ _ SHF _
        refine fw_get (dq rfl) (pg_ok.2.1 45 _ _ _ _ rfl) rfl (v := .int (M5.1 1 1)) rfl ?_
        show AW l (pI pg 45) P kc ks 71 _ _ SHF _
        refine AW.iret (dq rfl) rfl ?_
        exact r11 h1 h3 M5 e5 q5 h7

theorem hpeB_0 {l : aL} {P : aP} {kc ks : Nat} {x : Int32} {M : aM} (hJ : ∀ e ∈ RK, M.2.2 e.1 e.2.1 = e.2.2) (hl0 : l.1.stackTraces = false) (r2 : ∀ (h1 : (x : Int32) < 0), P (.inl (some (.int (Int32.ofInt 0)))) SHF M) (r4 : ∀ (h1 : ¬ ((x : Int32) < 0)), ∀ (h3 : (M.1 17 0 : Int32) ≤ (x : Int32)), P (.inl (some (.int (Int32.ofInt 0)))) SHF M) (r5 : ∀ (h1 : ¬ ((x : Int32) < 0)), ∀ (h3 : ¬ ((M.1 17 0 : Int32) ≤ (x : Int32))), P (.inl (some (.int (Int32.ofInt 1)))) SHF M) : AW l (pI pg 28) P kc ks 0 [(0, .ref 17), (1, .int (x))] [] SHF M := by
  refine AW.iload_n (dq rfl) rfl ?_
  show AW l (pI pg 28) P kc ks 1 _ _ SHF _
  refine AW.if_lt (dq rfl) (tgt := 16) (by decide) (fun h1 => ?_) (fun h1 => ?_)
  · have _ := h1
    refine AW.iconst (dq rfl) ?_
    show AW l (pI pg 28) P kc ks 17 _ _ SHF _
    refine AW.zret (dq rfl) rfl (by decide) ?_
    exact r2 h1
  · have _ := h1
    refine AW.iload_n (dq rfl) rfl ?_
    show AW l (pI pg 28) P kc ks 5 _ _ SHF _
    refine AW.aload_n (dq rfl) rfl rfl ?_
    show AW l (pI pg 28) P kc ks 6 _ _ SHF _
    refine fw_get (dq rfl) (pg_ok.2.1 28 _ _ _ _ rfl) rfl (v := .int (M.1 17 0)) rfl ?_
    show AW l (pI pg 28) P kc ks 9 _ _ SHF _
    refine AW.icmp_ge (dq rfl) (tgt := 16) (by decide) (fun h3 => ?_) (fun h3 => ?_)
    · have _ := h3
      refine AW.iconst (dq rfl) ?_
      show AW l (pI pg 28) P kc ks 17 _ _ SHF _
      refine AW.zret (dq rfl) rfl (by decide) ?_
      exact r4 h1 h3
    · have _ := h3
      refine AW.iconst (dq rfl) ?_
      show AW l (pI pg 28) P kc ks 13 _ _ SHF _
      refine AW.goto (dq rfl) (tgt := 17) (by decide) ?_
      refine AW.zret (dq rfl) rfl (by decide) ?_
      exact r5 h1 h3

theorem hpeB_c {l : aL} (hl0 : l.1.stackTraces = false) {x : Int32} {M : aM} (hJ : ∀ e ∈ RK, M.2.2 e.1 e.2.1 = e.2.2) : AC l (pI pg 28) (pvI M (hpV (M.1 17 0) x)) 0 0 [.ref 17, .int x] SHF M := by
  refine fw_of hl0 ⟨by decide +kernel, by decide +kernel, by decide +kernel⟩ rfl ?_
  refine hpeB_0 hJ hl0 (fun h => ?_) (fun h h2 => ?_) (fun h h2 => ?_)
  · rw [show hpV (M.1 17 0) x = Int32.ofInt 0 by unfold hpV; rw [if_pos h]]
    exact pvI_of
  · rw [show hpV (M.1 17 0) x = Int32.ofInt 0 by unfold hpV; rw [if_neg h, if_pos h2]]
    exact pvI_of
  · rw [show hpV (M.1 17 0) x = Int32.ofInt 1 by unfold hpV; rw [if_neg h, if_neg h2]]
    exact pvI_of

theorem hwoB_0 {l : aL} {P : aP} {kc ks : Nat} {x : Int32} {M : aM} (hJ : ∀ e ∈ RK, M.2.2 e.1 e.2.1 = e.2.2) (hl0 : l.1.stackTraces = false) (r2 : ∀ (h1 : (x : Int32) < 0), P (.inl (some (.int (Int32.ofInt 0)))) SHF M) (r4 : ∀ (h1 : ¬ ((x : Int32) < 0)), ∀ (h3 : (M.1 17 1 : Int32) ≤ (x : Int32)), P (.inl (some (.int (Int32.ofInt 0)))) SHF M) (r5 : ∀ (h1 : ¬ ((x : Int32) < 0)), ∀ (h3 : ¬ ((M.1 17 1 : Int32) ≤ (x : Int32))), P (.inl (some (.int (Int32.ofInt 1)))) SHF M) : AW l (pI pg 29) P kc ks 0 [(0, .ref 17), (1, .int (x))] [] SHF M := by
  refine AW.iload_n (dq rfl) rfl ?_
  show AW l (pI pg 29) P kc ks 1 _ _ SHF _
  refine AW.if_lt (dq rfl) (tgt := 16) (by decide) (fun h1 => ?_) (fun h1 => ?_)
  · have _ := h1
    refine AW.iconst (dq rfl) ?_
    show AW l (pI pg 29) P kc ks 17 _ _ SHF _
    refine AW.zret (dq rfl) rfl (by decide) ?_
    exact r2 h1
  · have _ := h1
    refine AW.iload_n (dq rfl) rfl ?_
    show AW l (pI pg 29) P kc ks 5 _ _ SHF _
    refine AW.aload_n (dq rfl) rfl rfl ?_
    show AW l (pI pg 29) P kc ks 6 _ _ SHF _
    refine fw_get (dq rfl) (pg_ok.2.1 29 _ _ _ _ rfl) rfl (v := .int (M.1 17 1)) rfl ?_
    show AW l (pI pg 29) P kc ks 9 _ _ SHF _
    refine AW.icmp_ge (dq rfl) (tgt := 16) (by decide) (fun h3 => ?_) (fun h3 => ?_)
    · have _ := h3
      refine AW.iconst (dq rfl) ?_
      show AW l (pI pg 29) P kc ks 17 _ _ SHF _
      refine AW.zret (dq rfl) rfl (by decide) ?_
      exact r4 h1 h3
    · have _ := h3
      refine AW.iconst (dq rfl) ?_
      show AW l (pI pg 29) P kc ks 13 _ _ SHF _
      refine AW.goto (dq rfl) (tgt := 17) (by decide) ?_
      refine AW.zret (dq rfl) rfl (by decide) ?_
      exact r5 h1 h3

theorem hwoB_c {l : aL} (hl0 : l.1.stackTraces = false) {x : Int32} {M : aM} (hJ : ∀ e ∈ RK, M.2.2 e.1 e.2.1 = e.2.2) : AC l (pI pg 29) (pvI M (hpV (M.1 17 1) x)) 0 0 [.ref 17, .int x] SHF M := by
  refine fw_of hl0 ⟨by decide +kernel, by decide +kernel, by decide +kernel⟩ rfl ?_
  refine hwoB_0 hJ hl0 (fun h => ?_) (fun h h2 => ?_) (fun h h2 => ?_)
  · rw [show hpV (M.1 17 1) x = Int32.ofInt 0 by unfold hpV; rw [if_pos h]]
    exact pvI_of
  · rw [show hpV (M.1 17 1) x = Int32.ofInt 0 by unfold hpV; rw [if_neg h, if_pos h2]]
    exact pvI_of
  · rw [show hpV (M.1 17 1) x = Int32.ofInt 1 by unfold hpV; rw [if_neg h, if_neg h2]]
    exact pvI_of

theorem rpnB_0 {l : aL} {P : aP} {kc ks : Nat} {M : aM} (hJ : ∀ e ∈ RK, M.2.2 e.1 e.2.1 = e.2.2) (hl0 : l.1.stackTraces = false) (Q1 : Int32 → aM → Prop) (c2 : AC l (pI pg 67) (fcI M Q1) 0 0 [.ref 1, .int (Int32.ofInt 0), .int ((Int16.ofInt 9999).toInt32)] SHF M) (r4 : ∀ (y1 : Int32), ∀ (M1 : aM), ∀ (e1 : M1.2.2 = M.2.2), ∀ (q1 : Q1 y1 M1), ∀ (h3 : (y1 : Int32) = (Int32.ofInt (-1) : Int32)), P (.inl (some (.int (y1)))) SHF M1) (r8 : ∀ (y1 : Int32), ∀ (M1 : aM), ∀ (e1 : M1.2.2 = M.2.2), ∀ (q1 : Q1 y1 M1), ∀ (h3 : ¬ ((y1 : Int32) = (Int32.ofInt (-1) : Int32))), ∀ (h6 : (hpV (M1.1 17 0) (y1) : Int32) = 0), P (.inl (some (.int (Int32.ofInt (-1))))) SHF (rfM M1 (Int32.ofInt 3))) (r9 : ∀ (y1 : Int32), ∀ (M1 : aM), ∀ (e1 : M1.2.2 = M.2.2), ∀ (q1 : Q1 y1 M1), ∀ (h3 : ¬ ((y1 : Int32) = (Int32.ofInt (-1) : Int32))), ∀ (h6 : ¬ ((hpV (M1.1 17 0) (y1) : Int32) = 0)), P (.inl (some (.int (y1)))) SHF M1) : AW l (pI pg 79) P kc ks 0 [(0, .ref 1), (1, .ref 17)] [] SHF M := by
  refine AW.aload_n (dq rfl) rfl rfl ?_
  show AW l (pI pg 79) P kc ks 1 _ _ SHF _
  refine AW.iconst (dq rfl) ?_
  show AW l (pI pg 79) P kc ks 2 _ _ SHF _
  refine AW.sipush (dq rfl) ?_
  show AW l (pI pg 79) P kc ks 5 _ _ SHF _
  refine fw_callVI (as := [.int (Int32.ofInt 0), .int ((Int16.ofInt 9999).toInt32)]) (dq rfl) (pg_ok.2.2.1 79 _ _ _ _ rfl) rfl (by decide +kernel) rfl rfl (c2) (fun y1 M1 e1 q1 => ?_)
  have hJ1 : ∀ e ∈ RK, M1.2.2 e.1 e.2.1 = e.2.2 := fun e he => by rw [e1]; exact hJ e he
  show AW l (pI pg 79) P kc ks 8 [(0, .ref 1), (1, .ref 17)] [.int (y1)] SHF _
  refine AW.istore_n (dq rfl) (by decide +kernel) ?_
  show AW l (pI pg 79) P kc ks 9 [(2, .int (y1)), (0, .ref 1), (1, .ref 17)] [] SHF _
  refine AW.iload_n (dq rfl) rfl ?_
  show AW l (pI pg 79) P kc ks 10 _ _ SHF _
  refine AW.iconst (dq rfl) ?_
  show AW l (pI pg 79) P kc ks 11 _ _ SHF _
  refine AW.icmp_eq (dq rfl) (tgt := 22) (by decide) (fun h3 => ?_) (fun h3 => ?_)
  · have _ := h3
    refine AW.iload_n (dq rfl) rfl ?_
    show AW l (pI pg 79) P kc ks 23 _ _ SHF _
    refine AW.goto (dq rfl) (tgt := 31) (by decide) ?_
    refine AW.iret (dq rfl) rfl ?_
    exact r4 y1 M1 e1 q1 h3
  · have _ := h3
    refine AW.aload_n (dq rfl) rfl rfl ?_
    show AW l (pI pg 79) P kc ks 15 _ _ SHF _
    refine AW.iload_n (dq rfl) rfl ?_
    show AW l (pI pg 79) P kc ks 16 _ _ SHF _
    refine fw_callVI (as := [.int (y1)]) (dq rfl) (pg_ok.2.2.1 79 _ _ _ _ rfl) rfl (by decide +kernel) rfl rfl (hpeB_c hl0 (fun e he => hJ1 e he)) (fun y5 M5 e5 q5 => ?_)
    obtain ⟨rfl, rfl⟩ := q5
    show AW l (pI pg 79) P kc ks 19 [(2, .int (y1)), (0, .ref 1), (1, .ref 17)] [.int (hpV (M1.1 17 0) (y1))] SHF _
    refine AW.if_eq (dq rfl) (tgt := 26) (by decide) (fun h6 => ?_) (fun h6 => ?_)
    · have _ := h6
      refine AW.aload_n (dq rfl) rfl rfl ?_
      show AW l (pI pg 79) P kc ks 27 _ _ SHF _
      refine AW.iconst (dq rfl) ?_
      show AW l (pI pg 79) P kc ks 28 _ _ SHF _
      refine fw_callVI (as := [.int (Int32.ofInt 3)]) (dq rfl) (pg_ok.2.2.1 79 _ _ _ _ rfl) rfl (by decide +kernel) rfl rfl (ref_c hl0 (fun e he => hJ1 e he)) (fun y7 M7 e7 q7 => ?_)
      obtain ⟨rfl, rfl⟩ := q7
      show AW l (pI pg 79) P kc ks 31 [(2, .int (y1)), (0, .ref 1), (1, .ref 17)] [.int (Int32.ofInt (-1))] SHF _
      refine AW.iret (dq rfl) rfl ?_
      exact r8 y1 M1 e1 q1 h3 h6
    · have _ := h6
      refine AW.iload_n (dq rfl) rfl ?_
      show AW l (pI pg 79) P kc ks 23 _ _ SHF _
      refine AW.goto (dq rfl) (tgt := 31) (by decide) ?_
      refine AW.iret (dq rfl) rfl ?_
      exact r9 y1 M1 e1 q1 h3 h6

theorem rnwB_0 {l : aL} {P : aP} {kc ks : Nat} {x : Int32} {M : aM} (hJ : ∀ e ∈ RK, M.2.2 e.1 e.2.1 = e.2.2) (hl0 : l.1.stackTraces = false) (Q1 : Int32 → aM → Prop) (c2 : AC l (pI pg 67) (fcI M Q1) 0 0 [.ref 1, .int (Int32.ofInt 0), .int ((Int16.ofInt 9999).toInt32)] SHF M) (o6 : ∀ (y1 : Int32), ∀ (M1 : aM), ∀ (e1 : M1.2.2 = M.2.2), ∀ (q1 : Q1 y1 M1), ∀ (h3 : ¬ (y1 : Int32) = (Int32.ofInt (-1) : Int32)), ∀ (h5 : ¬ (hpV (M1.1 17 1) (y1) : Int32) = 0), vp_in (x) 6) (r9 : ∀ (y1 : Int32), ∀ (M1 : aM), ∀ (e1 : M1.2.2 = M.2.2), ∀ (q1 : Q1 y1 M1), ∀ (h3 : ¬ (y1 : Int32) = (Int32.ofInt (-1) : Int32)), ∀ (h5 : ¬ (hpV (M1.1 17 1) (y1) : Int32) = 0), ∀ (h7 : ¬ ((((M1.1 20 (x).toNatClampNeg) ||| (M1.1 21 (x).toNatClampNeg)) >>> ((y1) &&& 31)) &&& (Int32.ofInt 1) : Int32) = 0), P (.inl (some (.int (Int32.ofInt (-1))))) SHF (rfM M1 (Int32.ofInt 4))) (r10 : ∀ (y1 : Int32), ∀ (M1 : aM), ∀ (e1 : M1.2.2 = M.2.2), ∀ (q1 : Q1 y1 M1), ∀ (h3 : ¬ (y1 : Int32) = (Int32.ofInt (-1) : Int32)), ∀ (h5 : ¬ (hpV (M1.1 17 1) (y1) : Int32) = 0), ∀ (h7 : ((((M1.1 20 (x).toNatClampNeg) ||| (M1.1 21 (x).toNatClampNeg)) >>> ((y1) &&& 31)) &&& (Int32.ofInt 1) : Int32) = 0), P (.inl (some (.int (y1)))) SHF M1) (r12 : ∀ (y1 : Int32), ∀ (M1 : aM), ∀ (e1 : M1.2.2 = M.2.2), ∀ (q1 : Q1 y1 M1), ∀ (h3 : ¬ (y1 : Int32) = (Int32.ofInt (-1) : Int32)), ∀ (h5 : (hpV (M1.1 17 1) (y1) : Int32) = 0), P (.inl (some (.int (Int32.ofInt (-1))))) SHF (rfM M1 (Int32.ofInt 3))) (r13 : ∀ (y1 : Int32), ∀ (M1 : aM), ∀ (e1 : M1.2.2 = M.2.2), ∀ (q1 : Q1 y1 M1), ∀ (h3 : (y1 : Int32) = (Int32.ofInt (-1) : Int32)), P (.inl (some (.int (Int32.ofInt (-1))))) SHF M1) : AW l (pI pg 80) P kc ks 0 [(0, .ref 1), (1, .ref 17), (2, .int (x))] [] SHF M := by
  refine AW.aload_n (dq rfl) rfl rfl ?_
  show AW l (pI pg 80) P kc ks 1 _ _ SHF _
  refine AW.iconst (dq rfl) ?_
  show AW l (pI pg 80) P kc ks 2 _ _ SHF _
  refine AW.sipush (dq rfl) ?_
  show AW l (pI pg 80) P kc ks 5 _ _ SHF _
  refine fw_callVI (as := [.int (Int32.ofInt 0), .int ((Int16.ofInt 9999).toInt32)]) (dq rfl) (pg_ok.2.2.1 80 _ _ _ _ rfl) rfl (by decide +kernel) rfl rfl (c2) (fun y1 M1 e1 q1 => ?_)
  have hJ1 : ∀ e ∈ RK, M1.2.2 e.1 e.2.1 = e.2.2 := fun e he => by rw [e1]; exact hJ e he
  show AW l (pI pg 80) P kc ks 8 [(0, .ref 1), (1, .ref 17), (2, .int (x))] [.int (y1)] SHF _
  refine AW.istore_n (dq rfl) (by decide +kernel) ?_
  show AW l (pI pg 80) P kc ks 9 [(3, .int (y1)), (0, .ref 1), (1, .ref 17), (2, .int (x))] [] SHF _
  refine AW.iload_n (dq rfl) rfl ?_
  show AW l (pI pg 80) P kc ks 10 _ _ SHF _
  refine AW.iconst (dq rfl) ?_
  show AW l (pI pg 80) P kc ks 11 _ _ SHF _
  refine AW.icmp_ne (dq rfl) (tgt := 16) (by decide) (fun h3 => ?_) (fun h3 => ?_)
  · have _ := h3
    refine AW.aload_n (dq rfl) rfl rfl ?_
    show AW l (pI pg 80) P kc ks 17 _ _ SHF _
    refine AW.iload_n (dq rfl) rfl ?_
    show AW l (pI pg 80) P kc ks 18 _ _ SHF _
    refine fw_callVI (as := [.int (y1)]) (dq rfl) (pg_ok.2.2.1 80 _ _ _ _ rfl) rfl (by decide +kernel) rfl rfl (hwoB_c hl0 (fun e he => hJ1 e he)) (fun y4 M4 e4 q4 => ?_)
    obtain ⟨rfl, rfl⟩ := q4
    show AW l (pI pg 80) P kc ks 21 [(3, .int (y1)), (0, .ref 1), (1, .ref 17), (2, .int (x))] [.int (hpV (M1.1 17 1) (y1))] SHF _
    refine AW.if_ne (dq rfl) (tgt := 30) (by decide) (fun h5 => ?_) (fun h5 => ?_)
    · have _ := h5
      refine AW.aload_n (dq rfl) rfl rfl ?_
      show AW l (pI pg 80) P kc ks 31 _ _ SHF _
      refine fw_get (dq rfl) (pg_ok.2.1 80 _ _ _ _ rfl) rfl (v := .ref 20) (isTA_ok rfl (rgR_ok hJ1 rfl)) ?_
      show AW l (pI pg 80) P kc ks 34 _ _ SHF _
      refine AW.iload_n (dq rfl) rfl ?_
      show AW l (pI pg 80) P kc ks 35 _ _ SHF _
      refine AW.iald (dq rfl) rfl (o6 y1 M1 e1 q1 h3 h5) ?_
      show AW l (pI pg 80) P kc ks 36 _ _ SHF _
      refine AW.aload_n (dq rfl) rfl rfl ?_
      show AW l (pI pg 80) P kc ks 37 _ _ SHF _
      refine fw_get (dq rfl) (pg_ok.2.1 80 _ _ _ _ rfl) rfl (v := .ref 21) (isTA_ok rfl (rgR_ok hJ1 rfl)) ?_
      show AW l (pI pg 80) P kc ks 40 _ _ SHF _
      refine AW.iload_n (dq rfl) rfl ?_
      show AW l (pI pg 80) P kc ks 41 _ _ SHF _
      refine AW.iald (dq rfl) rfl (o6 y1 M1 e1 q1 h3 h5) ?_
      show AW l (pI pg 80) P kc ks 42 _ _ SHF _
      refine AW.ior (dq rfl) ?_
      show AW l (pI pg 80) P kc ks 43 _ _ SHF _
      refine AW.istore (dq rfl) (by decide +kernel) ?_
      show AW l (pI pg 80) P kc ks 45 [(4, .int ((M1.1 20 (x).toNatClampNeg) ||| (M1.1 21 (x).toNatClampNeg))), (3, .int (y1)), (0, .ref 1), (1, .ref 17), (2, .int (x))] [] SHF _
      refine AW.iload (dq rfl) rfl ?_
      show AW l (pI pg 80) P kc ks 47 _ _ SHF _
      refine AW.iload_n (dq rfl) rfl ?_
      show AW l (pI pg 80) P kc ks 48 _ _ SHF _
      refine AW.ishr (dq rfl) ?_
      show AW l (pI pg 80) P kc ks 49 _ _ SHF _
      refine AW.iconst (dq rfl) ?_
      show AW l (pI pg 80) P kc ks 50 _ _ SHF _
      refine AW.iand (dq rfl) ?_
      show AW l (pI pg 80) P kc ks 51 _ _ SHF _
      refine AW.if_ne (dq rfl) (tgt := 58) (by decide) (fun h7 => ?_) (fun h7 => ?_)
      · have _ := h7
        refine AW.aload_n (dq rfl) rfl rfl ?_
        show AW l (pI pg 80) P kc ks 59 _ _ SHF _
        refine AW.iconst (dq rfl) ?_
        show AW l (pI pg 80) P kc ks 60 _ _ SHF _
        refine fw_callVI (as := [.int (Int32.ofInt 4)]) (dq rfl) (pg_ok.2.2.1 80 _ _ _ _ rfl) rfl (by decide +kernel) rfl rfl (ref_c hl0 (fun e he => hJ1 e he)) (fun y8 M8 e8 q8 => ?_)
        obtain ⟨rfl, rfl⟩ := q8
        show AW l (pI pg 80) P kc ks 63 [(4, .int ((M1.1 20 (x).toNatClampNeg) ||| (M1.1 21 (x).toNatClampNeg))), (3, .int (y1)), (0, .ref 1), (1, .ref 17), (2, .int (x))] [.int (Int32.ofInt (-1))] SHF _
        refine AW.iret (dq rfl) rfl ?_
        exact r9 y1 M1 e1 q1 h3 h5 h7
      · have _ := h7
        refine AW.iload_n (dq rfl) rfl ?_
        show AW l (pI pg 80) P kc ks 55 _ _ SHF _
        refine AW.goto (dq rfl) (tgt := 63) (by decide) ?_
        refine AW.iret (dq rfl) rfl ?_
        exact r10 y1 M1 e1 q1 h3 h5 h7
    · have _ := h5
      refine AW.aload_n (dq rfl) rfl rfl ?_
      show AW l (pI pg 80) P kc ks 25 _ _ SHF _
      refine AW.iconst (dq rfl) ?_
      show AW l (pI pg 80) P kc ks 26 _ _ SHF _
      refine fw_callVI (as := [.int (Int32.ofInt 3)]) (dq rfl) (pg_ok.2.2.1 80 _ _ _ _ rfl) rfl (by decide +kernel) rfl rfl (ref_c hl0 (fun e he => hJ1 e he)) (fun y11 M11 e11 q11 => ?_)
      obtain ⟨rfl, rfl⟩ := q11
      show AW l (pI pg 80) P kc ks 29 [(3, .int (y1)), (0, .ref 1), (1, .ref 17), (2, .int (x))] [.int (Int32.ofInt (-1))] SHF _
      refine AW.iret (dq rfl) rfl ?_
      exact r12 y1 M1 e1 q1 h3 h5
  · have _ := h3
    refine AW.iconst (dq rfl) ?_
    show AW l (pI pg 80) P kc ks 15 _ _ SHF _
    refine AW.iret (dq rfl) rfl ?_
    exact r13 y1 M1 e1 q1 h3

theorem alcB_0 {l : aL} {P : aP} {kc ks : Nat} {M : aM} (hJ : ∀ e ∈ RK, M.2.2 e.1 e.2.1 = e.2.2) (hl0 : l.1.stackTraces = false) (k1 : AW l (pI pg 71) P kc ks 4 [(2, .int (Int32.ofInt 0)), (1, .int (Int32.ofInt 0)), (0, .ref 17)] [] SHF M) : AW l (pI pg 71) P kc ks 0 [(0, .ref 17)] [] SHF M := by
  refine AW.iconst (dq rfl) ?_
  show AW l (pI pg 71) P kc ks 1 _ _ SHF _
  refine AW.istore_n (dq rfl) (by decide +kernel) ?_
  show AW l (pI pg 71) P kc ks 2 [(1, .int (Int32.ofInt 0)), (0, .ref 17)] [] SHF _
  refine AW.iconst (dq rfl) ?_
  show AW l (pI pg 71) P kc ks 3 _ _ SHF _
  refine AW.istore_n (dq rfl) (by decide +kernel) ?_
  show AW l (pI pg 71) P kc ks 4 [(2, .int (Int32.ofInt 0)), (1, .int (Int32.ofInt 0)), (0, .ref 17)] [] SHF _
  refine AW.drop (lv' := [(2, .int (Int32.ofInt 0)), (1, .int (Int32.ofInt 0)), (0, .ref 17)]) (List.forall_mem_cons.mpr ⟨List.mem_of_getElem? (i := 0) rfl, List.forall_mem_cons.mpr ⟨List.mem_of_getElem? (i := 1) rfl, List.forall_mem_cons.mpr ⟨List.mem_of_getElem? (i := 2) rfl, fun _ h => absurd h List.not_mem_nil⟩⟩⟩) ?_
  exact k1

theorem alcB_4 {l : aL} {P : aP} {kc ks : Nat} {i : Nat} {v : Int32} {M : aM} (hJ : ∀ e ∈ RK, M.2.2 e.1 e.2.1 = e.2.2) (hl0 : l.1.stackTraces = false) (r2 : ∀ (h1 : (M.1 17 0 : Int32) ≤ (nI i : Int32)), P (.inl (some (.int (v)))) SHF M) (o3 : ∀ (h1 : ¬ ((M.1 17 0 : Int32) ≤ (nI i : Int32))), vp_in (nI i) 6) (k4 : ∀ (h1 : ¬ ((M.1 17 0 : Int32) ≤ (nI i : Int32))), AW l (pI pg 71) P kc ks 4 [(2, .int ((nI i) + Int32.ofInt 1)), (1, .int ((v) + (M.1 19 (nI i).toNatClampNeg))), (0, .ref 17)] [] SHF M) : AW l (pI pg 71) P kc ks 4 [(2, .int (nI i)), (1, .int (v)), (0, .ref 17)] [] SHF M := by
  refine AW.iload_n (dq rfl) rfl ?_
  show AW l (pI pg 71) P kc ks 5 _ _ SHF _
  refine AW.aload_n (dq rfl) rfl rfl ?_
  show AW l (pI pg 71) P kc ks 6 _ _ SHF _
  refine fw_get (dq rfl) (pg_ok.2.1 71 _ _ _ _ rfl) rfl (v := .int (M.1 17 0)) rfl ?_
  show AW l (pI pg 71) P kc ks 9 _ _ SHF _
  refine AW.icmp_ge (dq rfl) (tgt := 27) (by decide) (fun h1 => ?_) (fun h1 => ?_)
  · have _ := h1
    refine AW.iload_n (dq rfl) rfl ?_
    show AW l (pI pg 71) P kc ks 28 _ _ SHF _
    refine AW.iret (dq rfl) rfl ?_
    exact r2 h1
  · have _ := h1
    refine AW.iload_n (dq rfl) rfl ?_
    show AW l (pI pg 71) P kc ks 13 _ _ SHF _
    refine AW.aload_n (dq rfl) rfl rfl ?_
    show AW l (pI pg 71) P kc ks 14 _ _ SHF _
    refine fw_get (dq rfl) (pg_ok.2.1 71 _ _ _ _ rfl) rfl (v := .ref 19) (isTA_ok rfl (rgR_ok hJ rfl)) ?_
    show AW l (pI pg 71) P kc ks 17 _ _ SHF _
    refine AW.iload_n (dq rfl) rfl ?_
    show AW l (pI pg 71) P kc ks 18 _ _ SHF _
    refine AW.iald (dq rfl) rfl (o3 h1) ?_
    show AW l (pI pg 71) P kc ks 19 _ _ SHF _
    refine AW.iadd (dq rfl) ?_
    show AW l (pI pg 71) P kc ks 20 _ _ SHF _
    refine AW.istore_n (dq rfl) (by decide +kernel) ?_
    show AW l (pI pg 71) P kc ks 21 [(1, .int ((v) + (M.1 19 (nI i).toNatClampNeg))), (2, .int (nI i)), (0, .ref 17)] [] SHF _
    refine AW.iinc (dq rfl) rfl (by decide +kernel) ?_
    show AW l (pI pg 71) P kc ks 24 [(2, .int ((nI i) + Int32.ofInt 1)), (1, .int ((v) + (M.1 19 (nI i).toNatClampNeg))), (0, .ref 17)] [] SHF _
    refine AW.goto (dq rfl) (tgt := 4) (by decide) ?_
    refine AW.drop (lv' := [(2, .int ((nI i) + Int32.ofInt 1)), (1, .int ((v) + (M.1 19 (nI i).toNatClampNeg))), (0, .ref 17)]) (List.forall_mem_cons.mpr ⟨List.mem_of_getElem? (i := 0) rfl, List.forall_mem_cons.mpr ⟨List.mem_of_getElem? (i := 1) rfl, List.forall_mem_cons.mpr ⟨List.mem_of_getElem? (i := 2) rfl, fun _ h => absurd h List.not_mem_nil⟩⟩⟩) ?_
    exact k4 h1

theorem rchB_0 {l : aL} {P : aP} {kc ks : Nat} {M : aM} (hJ : ∀ e ∈ RK, M.2.2 e.1 e.2.1 = e.2.2) (hl0 : l.1.stackTraces = false) (Q1 : Int32 → aM → Prop) (c2 : AC l (pI pg 67) (fcI M Q1) 0 0 [.ref 1, .int (Int32.ofInt 0), .int ((Int16.ofInt 1000).toInt32)] SHF M) (r4 : ∀ (y1 : Int32), ∀ (M1 : aM), ∀ (e1 : M1.2.2 = M.2.2), ∀ (q1 : Q1 y1 M1), ∀ (h3 : (y1 : Int32) = (Int32.ofInt (-1) : Int32)), P (.inl (some (.int (y1)))) SHF M1) (Q5 : Int32 → aM → Int32 → aM → Prop) (c6 : ∀ (y1 : Int32), ∀ (M1 : aM), ∀ (e1 : M1.2.2 = M.2.2), ∀ (q1 : Q1 y1 M1), ∀ (h3 : ¬ ((y1 : Int32) = (Int32.ofInt (-1) : Int32))), AC l (pI pg 71) (fcI M1 (Q5 y1 M1)) 0 0 [.ref 17] SHF M1) (r8 : ∀ (y1 : Int32), ∀ (M1 : aM), ∀ (e1 : M1.2.2 = M.2.2), ∀ (q1 : Q1 y1 M1), ∀ (h3 : ¬ ((y1 : Int32) = (Int32.ofInt (-1) : Int32))), ∀ (y5 : Int32), ∀ (M5 : aM), ∀ (e5 : M5.2.2 = M1.2.2), ∀ (q5 : (Q5 y1 M1) y5 M5), ∀ (h7 : ((y5) + (y1) : Int32) ≤ ((Int16.ofInt 1000).toInt32 : Int32)), P (.inl (some (.int (y1)))) SHF M5) (r10 : ∀ (y1 : Int32), ∀ (M1 : aM), ∀ (e1 : M1.2.2 = M.2.2), ∀ (q1 : Q1 y1 M1), ∀ (h3 : ¬ ((y1 : Int32) = (Int32.ofInt (-1) : Int32))), ∀ (y5 : Int32), ∀ (M5 : aM), ∀ (e5 : M5.2.2 = M1.2.2), ∀ (q5 : (Q5 y1 M1) y5 M5), ∀ (h7 : ¬ (((y5) + (y1) : Int32) ≤ ((Int16.ofInt 1000).toInt32 : Int32))), P (.inl (some (.int (Int32.ofInt (-1))))) SHF (rfM M5 (Int32.ofInt 5))) : AW l (pI pg 70) P kc ks 0 [(0, .ref 1), (1, .ref 17)] [] SHF M := by
  refine AW.aload_n (dq rfl) rfl rfl ?_
  show AW l (pI pg 70) P kc ks 1 _ _ SHF _
  refine AW.iconst (dq rfl) ?_
  show AW l (pI pg 70) P kc ks 2 _ _ SHF _
  refine AW.sipush (dq rfl) ?_
  show AW l (pI pg 70) P kc ks 5 _ _ SHF _
  refine fw_callVI (as := [.int (Int32.ofInt 0), .int ((Int16.ofInt 1000).toInt32)]) (dq rfl) (pg_ok.2.2.1 70 _ _ _ _ rfl) rfl (by decide +kernel) rfl rfl (c2) (fun y1 M1 e1 q1 => ?_)
  have hJ1 : ∀ e ∈ RK, M1.2.2 e.1 e.2.1 = e.2.2 := fun e he => by rw [e1]; exact hJ e he
  show AW l (pI pg 70) P kc ks 8 [(0, .ref 1), (1, .ref 17)] [.int (y1)] SHF _
  refine AW.istore_n (dq rfl) (by decide +kernel) ?_
  show AW l (pI pg 70) P kc ks 9 [(2, .int (y1)), (0, .ref 1), (1, .ref 17)] [] SHF _
  refine AW.iload_n (dq rfl) rfl ?_
  show AW l (pI pg 70) P kc ks 10 _ _ SHF _
  refine AW.iconst (dq rfl) ?_
  show AW l (pI pg 70) P kc ks 11 _ _ SHF _
  refine AW.icmp_eq (dq rfl) (tgt := 32) (by decide) (fun h3 => ?_) (fun h3 => ?_)
  · have _ := h3
    refine AW.iload_n (dq rfl) rfl ?_
    show AW l (pI pg 70) P kc ks 33 _ _ SHF _
    refine AW.iret (dq rfl) rfl ?_
    exact r4 y1 M1 e1 q1 h3
  · have _ := h3
    refine AW.aload_n (dq rfl) rfl rfl ?_
    show AW l (pI pg 70) P kc ks 15 _ _ SHF _
    refine fw_callVI (as := []) (dq rfl) (pg_ok.2.2.1 70 _ _ _ _ rfl) rfl (by decide +kernel) rfl rfl (c6 y1 M1 e1 q1 h3) (fun y5 M5 e5 q5 => ?_)
    have hJ5 : ∀ e ∈ RK, M5.2.2 e.1 e.2.1 = e.2.2 := fun e he => by rw [e5]; exact hJ1 e he
    show AW l (pI pg 70) P kc ks 18 [(2, .int (y1)), (0, .ref 1), (1, .ref 17)] [.int (y5)] SHF _
    refine AW.iload_n (dq rfl) rfl ?_
    show AW l (pI pg 70) P kc ks 19 _ _ SHF _
    refine AW.iadd (dq rfl) ?_
    show AW l (pI pg 70) P kc ks 20 _ _ SHF _
    refine AW.sipush (dq rfl) ?_
    show AW l (pI pg 70) P kc ks 23 _ _ SHF _
    refine AW.icmp_le (dq rfl) (tgt := 32) (by decide) (fun h7 => ?_) (fun h7 => ?_)
    · have _ := h7
      refine AW.iload_n (dq rfl) rfl ?_
      show AW l (pI pg 70) P kc ks 33 _ _ SHF _
      refine AW.iret (dq rfl) rfl ?_
      exact r8 y1 M1 e1 q1 h3 y5 M5 e5 q5 h7
    · have _ := h7
      refine AW.aload_n (dq rfl) rfl rfl ?_
      show AW l (pI pg 70) P kc ks 27 _ _ SHF _
      refine AW.iconst (dq rfl) ?_
      show AW l (pI pg 70) P kc ks 28 _ _ SHF _
      refine fw_callVI (as := [.int (Int32.ofInt 5)]) (dq rfl) (pg_ok.2.2.1 70 _ _ _ _ rfl) rfl (by decide +kernel) rfl rfl (ref_c hl0 (fun e he => hJ5 e he)) (fun y9 M9 e9 q9 => ?_)
      obtain ⟨rfl, rfl⟩ := q9
      show AW l (pI pg 70) P kc ks 31 [(2, .int (y1)), (0, .ref 1), (1, .ref 17)] [.int (Int32.ofInt (-1))] SHF _
      refine AW.iret (dq rfl) rfl ?_
      exact r10 y1 M1 e1 q1 h3 y5 M5 e5 q5 h7

theorem adpB_0 {l : aL} {P : aP} {kc ks : Nat} {x y : Int32} {M : aM} (hJ : ∀ e ∈ RK, M.2.2 e.1 e.2.1 = e.2.2) (hl0 : l.1.stackTraces = false) (r2 : ∀ (h1 : ((Int8.ofInt 6).toInt32 : Int32) ≤ (M.1 17 0 : Int32)), P (.inl none) SHF M) (o3 : ∀ (h1 : ¬ (((Int8.ofInt 6).toInt32 : Int32) ≤ (M.1 17 0 : Int32))), vp_in (M.1 17 0) 6) (o4 : ∀ (h1 : ¬ (((Int8.ofInt 6).toInt32 : Int32) ≤ (M.1 17 0 : Int32))), vp_in ((aset M 18 (M.1 17 0).toNatClampNeg (.int (x))).1 17 0) 6) (r5 : ∀ (h1 : ¬ (((Int8.ofInt 6).toInt32 : Int32) ≤ (M.1 17 0 : Int32))), P (.inl none) SHF (aset (aset (aset M 18 (M.1 17 0).toNatClampNeg (.int (x))) 19 ((aset M 18 (M.1 17 0).toNatClampNeg (.int (x))).1 17 0).toNatClampNeg (.int (y))) 17 0 (.int (((aset (aset M 18 (M.1 17 0).toNatClampNeg (.int (x))) 19 ((aset M 18 (M.1 17 0).toNatClampNeg (.int (x))).1 17 0).toNatClampNeg (.int (y))).1 17 0) + (Int32.ofInt 1))))) : AW l (pI pg 73) P kc ks 0 [(0, .ref 17), (1, .int (x)), (2, .int (y))] [] SHF M := by
  refine AW.aload_n (dq rfl) rfl rfl ?_
  show AW l (pI pg 73) P kc ks 1 _ _ SHF _
  refine fw_get (dq rfl) (pg_ok.2.1 73 _ _ _ _ rfl) rfl (v := .int (M.1 17 0)) rfl ?_
  show AW l (pI pg 73) P kc ks 4 _ _ SHF _
  refine AW.bipush (dq rfl) ?_
  show AW l (pI pg 73) P kc ks 6 _ _ SHF _
  refine AW.icmp_ge (dq rfl) (tgt := 39) (by decide) (fun h1 => ?_) (fun h1 => ?_)
  · have _ := h1
    refine AW.vret (dq rfl) rfl ?_
    exact r2 h1
  · have _ := h1
    refine AW.aload_n (dq rfl) rfl rfl ?_
    show AW l (pI pg 73) P kc ks 10 _ _ SHF _
    refine fw_get (dq rfl) (pg_ok.2.1 73 _ _ _ _ rfl) rfl (v := .ref 18) (isTA_ok rfl (rgR_ok hJ rfl)) ?_
    show AW l (pI pg 73) P kc ks 13 _ _ SHF _
    refine AW.aload_n (dq rfl) rfl rfl ?_
    show AW l (pI pg 73) P kc ks 14 _ _ SHF _
    refine fw_get (dq rfl) (pg_ok.2.1 73 _ _ _ _ rfl) rfl (v := .int (M.1 17 0)) rfl ?_
    show AW l (pI pg 73) P kc ks 17 _ _ SHF _
    refine AW.iload_n (dq rfl) rfl ?_
    show AW l (pI pg 73) P kc ks 18 _ _ SHF _
    refine AW.iast (dq rfl) rfl (o3 h1) ?_
    show AW l (pI pg 73) P kc ks 19 _ _ SHF _
    refine AW.aload_n (dq rfl) rfl rfl ?_
    show AW l (pI pg 73) P kc ks 20 _ _ SHF _
    refine fw_get (dq rfl) (pg_ok.2.1 73 _ _ _ _ rfl) rfl (v := .ref 19) (isTA_ok rfl (rgR_ok hJ rfl)) ?_
    show AW l (pI pg 73) P kc ks 23 _ _ SHF _
    refine AW.aload_n (dq rfl) rfl rfl ?_
    show AW l (pI pg 73) P kc ks 24 _ _ SHF _
    refine fw_get (dq rfl) (pg_ok.2.1 73 _ _ _ _ rfl) rfl (v := .int ((aset M 18 (M.1 17 0).toNatClampNeg (.int (x))).1 17 0)) rfl ?_
    show AW l (pI pg 73) P kc ks 27 _ _ SHF _
    refine AW.iload_n (dq rfl) rfl ?_
    show AW l (pI pg 73) P kc ks 28 _ _ SHF _
    refine AW.iast (dq rfl) rfl (o4 h1) ?_
    show AW l (pI pg 73) P kc ks 29 _ _ SHF _
    refine AW.aload_n (dq rfl) rfl rfl ?_
    show AW l (pI pg 73) P kc ks 30 _ _ SHF _
    refine AW.dup (dq rfl) rfl ?_
    show AW l (pI pg 73) P kc ks 31 _ _ SHF _
    refine fw_get (dq rfl) (pg_ok.2.1 73 _ _ _ _ rfl) rfl (v := .int ((aset (aset M 18 (M.1 17 0).toNatClampNeg (.int (x))) 19 ((aset M 18 (M.1 17 0).toNatClampNeg (.int (x))).1 17 0).toNatClampNeg (.int (y))).1 17 0)) rfl ?_
    show AW l (pI pg 73) P kc ks 34 _ _ SHF _
    refine AW.iconst (dq rfl) ?_
    show AW l (pI pg 73) P kc ks 35 _ _ SHF _
    refine AW.iadd (dq rfl) ?_
    show AW l (pI pg 73) P kc ks 36 _ _ SHF _
    refine fw_putI (dq rfl) (pg_ok.2.1 73 _ _ _ _ rfl) rfl rfl rfl ?_
    show AW l (pI pg 73) P kc ks 39 _ _ SHF _
    refine AW.vret (dq rfl) rfl ?_
    exact r5 h1

theorem adwB_0 {l : aL} {P : aP} {kc ks : Nat} {x y : Int32} {M : aM} (hJ : ∀ e ∈ RK, M.2.2 e.1 e.2.1 = e.2.2) (hl0 : l.1.stackTraces = false) (r2 : ∀ (h1 : ((Int8.ofInt 8).toInt32 : Int32) ≤ (M.1 17 1 : Int32)), P (.inl none) SHF M) (o3 : ∀ (h1 : ¬ (((Int8.ofInt 8).toInt32 : Int32) ≤ (M.1 17 1 : Int32))), vp_in (M.1 17 1) 8) (o4 : ∀ (h1 : ¬ (((Int8.ofInt 8).toInt32 : Int32) ≤ (M.1 17 1 : Int32))), vp_in ((aset M 22 (M.1 17 1).toNatClampNeg (.int (x))).1 17 1) 8) (r5 : ∀ (h1 : ¬ (((Int8.ofInt 8).toInt32 : Int32) ≤ (M.1 17 1 : Int32))), P (.inl none) SHF (aset (aset (aset M 22 (M.1 17 1).toNatClampNeg (.int (x))) 23 ((aset M 22 (M.1 17 1).toNatClampNeg (.int (x))).1 17 1).toNatClampNeg (.int (y))) 17 1 (.int (((aset (aset M 22 (M.1 17 1).toNatClampNeg (.int (x))) 23 ((aset M 22 (M.1 17 1).toNatClampNeg (.int (x))).1 17 1).toNatClampNeg (.int (y))).1 17 1) + (Int32.ofInt 1))))) : AW l (pI pg 77) P kc ks 0 [(0, .ref 17), (1, .int (x)), (2, .int (y))] [] SHF M := by
  refine AW.aload_n (dq rfl) rfl rfl ?_
  show AW l (pI pg 77) P kc ks 1 _ _ SHF _
  refine fw_get (dq rfl) (pg_ok.2.1 77 _ _ _ _ rfl) rfl (v := .int (M.1 17 1)) rfl ?_
  show AW l (pI pg 77) P kc ks 4 _ _ SHF _
  refine AW.bipush (dq rfl) ?_
  show AW l (pI pg 77) P kc ks 6 _ _ SHF _
  refine AW.icmp_ge (dq rfl) (tgt := 39) (by decide) (fun h1 => ?_) (fun h1 => ?_)
  · have _ := h1
    refine AW.vret (dq rfl) rfl ?_
    exact r2 h1
  · have _ := h1
    refine AW.aload_n (dq rfl) rfl rfl ?_
    show AW l (pI pg 77) P kc ks 10 _ _ SHF _
    refine fw_get (dq rfl) (pg_ok.2.1 77 _ _ _ _ rfl) rfl (v := .ref 22) (isTA_ok rfl (rgR_ok hJ rfl)) ?_
    show AW l (pI pg 77) P kc ks 13 _ _ SHF _
    refine AW.aload_n (dq rfl) rfl rfl ?_
    show AW l (pI pg 77) P kc ks 14 _ _ SHF _
    refine fw_get (dq rfl) (pg_ok.2.1 77 _ _ _ _ rfl) rfl (v := .int (M.1 17 1)) rfl ?_
    show AW l (pI pg 77) P kc ks 17 _ _ SHF _
    refine AW.iload_n (dq rfl) rfl ?_
    show AW l (pI pg 77) P kc ks 18 _ _ SHF _
    refine AW.iast (dq rfl) rfl (o3 h1) ?_
    show AW l (pI pg 77) P kc ks 19 _ _ SHF _
    refine AW.aload_n (dq rfl) rfl rfl ?_
    show AW l (pI pg 77) P kc ks 20 _ _ SHF _
    refine fw_get (dq rfl) (pg_ok.2.1 77 _ _ _ _ rfl) rfl (v := .ref 23) (isTA_ok rfl (rgR_ok hJ rfl)) ?_
    show AW l (pI pg 77) P kc ks 23 _ _ SHF _
    refine AW.aload_n (dq rfl) rfl rfl ?_
    show AW l (pI pg 77) P kc ks 24 _ _ SHF _
    refine fw_get (dq rfl) (pg_ok.2.1 77 _ _ _ _ rfl) rfl (v := .int ((aset M 22 (M.1 17 1).toNatClampNeg (.int (x))).1 17 1)) rfl ?_
    show AW l (pI pg 77) P kc ks 27 _ _ SHF _
    refine AW.iload_n (dq rfl) rfl ?_
    show AW l (pI pg 77) P kc ks 28 _ _ SHF _
    refine AW.iast (dq rfl) rfl (o4 h1) ?_
    show AW l (pI pg 77) P kc ks 29 _ _ SHF _
    refine AW.aload_n (dq rfl) rfl rfl ?_
    show AW l (pI pg 77) P kc ks 30 _ _ SHF _
    refine AW.dup (dq rfl) rfl ?_
    show AW l (pI pg 77) P kc ks 31 _ _ SHF _
    refine fw_get (dq rfl) (pg_ok.2.1 77 _ _ _ _ rfl) rfl (v := .int ((aset (aset M 22 (M.1 17 1).toNatClampNeg (.int (x))) 23 ((aset M 22 (M.1 17 1).toNatClampNeg (.int (x))).1 17 1).toNatClampNeg (.int (y))).1 17 1)) rfl ?_
    show AW l (pI pg 77) P kc ks 34 _ _ SHF _
    refine AW.iconst (dq rfl) ?_
    show AW l (pI pg 77) P kc ks 35 _ _ SHF _
    refine AW.iadd (dq rfl) ?_
    show AW l (pI pg 77) P kc ks 36 _ _ SHF _
    refine fw_putI (dq rfl) (pg_ok.2.1 77 _ _ _ _ rfl) rfl rfl rfl ?_
    show AW l (pI pg 77) P kc ks 39 _ _ SHF _
    refine AW.vret (dq rfl) rfl ?_
    exact r5 h1

theorem adsB_0 {l : aL} {P : aP} {kc ks : Nat} {x y z : Int32} {M : aM} (hJ : ∀ e ∈ RK, M.2.2 e.1 e.2.1 = e.2.2) (hl0 : l.1.stackTraces = false) (r3 : ∀ (h2 : (hpV (M.1 17 0) (x) : Int32) = 0), P (.inl none) SHF M) (r6 : ∀ (h2 : ¬ ((hpV (M.1 17 0) (x) : Int32) = 0)), ∀ (h5 : (hpV (M.1 17 1) (y) : Int32) = 0), P (.inl none) SHF M) (o7 : ∀ (h2 : ¬ ((hpV (M.1 17 0) (x) : Int32) = 0)), ∀ (h5 : ¬ ((hpV (M.1 17 1) (y) : Int32) = 0)), vp_in (((x) * ((Int8.ofInt 8).toInt32)) + (y)) 48) (o8 : ∀ (h2 : ¬ ((hpV (M.1 17 0) (x) : Int32) = 0)), ∀ (h5 : ¬ ((hpV (M.1 17 1) (y) : Int32) = 0)), vp_in (x) 6) (o9 : ∀ (h2 : ¬ ((hpV (M.1 17 0) (x) : Int32) = 0)), ∀ (h5 : ¬ ((hpV (M.1 17 1) (y) : Int32) = 0)), vp_in (y) 8) (r10 : ∀ (h2 : ¬ ((hpV (M.1 17 0) (x) : Int32) = 0)), ∀ (h5 : ¬ ((hpV (M.1 17 1) (y) : Int32) = 0)), P (.inl none) SHF (aset (aset (aset M 25 (((x) * ((Int8.ofInt 8).toInt32)) + (y)).toNatClampNeg (.int (z))) 20 (x).toNatClampNeg (.int (((aset M 25 (((x) * ((Int8.ofInt 8).toInt32)) + (y)).toNatClampNeg (.int (z))).1 20 (x).toNatClampNeg) ||| ((Int32.ofInt 1) <<< ((y) &&& 31))))) 24 (y).toNatClampNeg (.int (((aset (aset M 25 (((x) * ((Int8.ofInt 8).toInt32)) + (y)).toNatClampNeg (.int (z))) 20 (x).toNatClampNeg (.int (((aset M 25 (((x) * ((Int8.ofInt 8).toInt32)) + (y)).toNatClampNeg (.int (z))).1 20 (x).toNatClampNeg) ||| ((Int32.ofInt 1) <<< ((y) &&& 31))))).1 24 (y).toNatClampNeg) ||| ((Int32.ofInt 1) <<< ((x) &&& 31)))))) : AW l (pI pg 81) P kc ks 0 [(0, .ref 17), (1, .int (x)), (2, .int (y)), (3, .int (z))] [] SHF M := by
  refine AW.aload_n (dq rfl) rfl rfl ?_
  show AW l (pI pg 81) P kc ks 1 _ _ SHF _
  refine AW.iload_n (dq rfl) rfl ?_
  show AW l (pI pg 81) P kc ks 2 _ _ SHF _
  refine fw_callVI (as := [.int (x)]) (dq rfl) (pg_ok.2.2.1 81 _ _ _ _ rfl) rfl (by decide +kernel) rfl rfl (hpeB_c hl0 (fun e he => hJ e he)) (fun y1 M1 e1 q1 => ?_)
  obtain ⟨rfl, rfl⟩ := q1
  show AW l (pI pg 81) P kc ks 5 [(0, .ref 17), (1, .int (x)), (2, .int (y)), (3, .int (z))] [.int (hpV (M.1 17 0) (x))] SHF _
  refine AW.if_eq (dq rfl) (tgt := 52) (by decide) (fun h2 => ?_) (fun h2 => ?_)
  · have _ := h2
    refine AW.vret (dq rfl) rfl ?_
    exact r3 h2
  · have _ := h2
    refine AW.aload_n (dq rfl) rfl rfl ?_
    show AW l (pI pg 81) P kc ks 9 _ _ SHF _
    refine AW.iload_n (dq rfl) rfl ?_
    show AW l (pI pg 81) P kc ks 10 _ _ SHF _
    refine fw_callVI (as := [.int (y)]) (dq rfl) (pg_ok.2.2.1 81 _ _ _ _ rfl) rfl (by decide +kernel) rfl rfl (hwoB_c hl0 (fun e he => hJ e he)) (fun y4 M4 e4 q4 => ?_)
    obtain ⟨rfl, rfl⟩ := q4
    show AW l (pI pg 81) P kc ks 13 [(0, .ref 17), (1, .int (x)), (2, .int (y)), (3, .int (z))] [.int (hpV (M.1 17 1) (y))] SHF _
    refine AW.if_eq (dq rfl) (tgt := 52) (by decide) (fun h5 => ?_) (fun h5 => ?_)
    · have _ := h5
      refine AW.vret (dq rfl) rfl ?_
      exact r6 h2 h5
    · have _ := h5
      refine AW.aload_n (dq rfl) rfl rfl ?_
      show AW l (pI pg 81) P kc ks 17 _ _ SHF _
      refine fw_get (dq rfl) (pg_ok.2.1 81 _ _ _ _ rfl) rfl (v := .ref 25) (isTA_ok rfl (rgR_ok hJ rfl)) ?_
      show AW l (pI pg 81) P kc ks 20 _ _ SHF _
      refine AW.iload_n (dq rfl) rfl ?_
      show AW l (pI pg 81) P kc ks 21 _ _ SHF _
      refine AW.bipush (dq rfl) ?_
      show AW l (pI pg 81) P kc ks 23 _ _ SHF _
      refine AW.imul (dq rfl) ?_
      show AW l (pI pg 81) P kc ks 24 _ _ SHF _
      refine AW.iload_n (dq rfl) rfl ?_
      show AW l (pI pg 81) P kc ks 25 _ _ SHF _
      refine AW.iadd (dq rfl) ?_
      show AW l (pI pg 81) P kc ks 26 _ _ SHF _
      refine AW.iload_n (dq rfl) rfl ?_
      show AW l (pI pg 81) P kc ks 27 _ _ SHF _
      refine AW.iast (dq rfl) rfl (o7 h2 h5) ?_
      show AW l (pI pg 81) P kc ks 28 _ _ SHF _
      refine AW.aload_n (dq rfl) rfl rfl ?_
      show AW l (pI pg 81) P kc ks 29 _ _ SHF _
      refine fw_get (dq rfl) (pg_ok.2.1 81 _ _ _ _ rfl) rfl (v := .ref 20) (isTA_ok rfl (rgR_ok hJ rfl)) ?_
      show AW l (pI pg 81) P kc ks 32 _ _ SHF _
      refine AW.iload_n (dq rfl) rfl ?_
      show AW l (pI pg 81) P kc ks 33 _ _ SHF _
      refine AW.dup2_11 (dq rfl) rfl rfl ?_
      show AW l (pI pg 81) P kc ks 34 _ _ SHF _
      refine AW.iald (dq rfl) rfl (o8 h2 h5) ?_
      show AW l (pI pg 81) P kc ks 35 _ _ SHF _
      refine AW.iconst (dq rfl) ?_
      show AW l (pI pg 81) P kc ks 36 _ _ SHF _
      refine AW.iload_n (dq rfl) rfl ?_
      show AW l (pI pg 81) P kc ks 37 _ _ SHF _
      refine AW.ishl (dq rfl) ?_
      show AW l (pI pg 81) P kc ks 38 _ _ SHF _
      refine AW.ior (dq rfl) ?_
      show AW l (pI pg 81) P kc ks 39 _ _ SHF _
      refine AW.iast (dq rfl) rfl (o8 h2 h5) ?_
      show AW l (pI pg 81) P kc ks 40 _ _ SHF _
      refine AW.aload_n (dq rfl) rfl rfl ?_
      show AW l (pI pg 81) P kc ks 41 _ _ SHF _
      refine fw_get (dq rfl) (pg_ok.2.1 81 _ _ _ _ rfl) rfl (v := .ref 24) (isTA_ok rfl (rgR_ok hJ rfl)) ?_
      show AW l (pI pg 81) P kc ks 44 _ _ SHF _
      refine AW.iload_n (dq rfl) rfl ?_
      show AW l (pI pg 81) P kc ks 45 _ _ SHF _
      refine AW.dup2_11 (dq rfl) rfl rfl ?_
      show AW l (pI pg 81) P kc ks 46 _ _ SHF _
      refine AW.iald (dq rfl) rfl (o9 h2 h5) ?_
      show AW l (pI pg 81) P kc ks 47 _ _ SHF _
      refine AW.iconst (dq rfl) ?_
      show AW l (pI pg 81) P kc ks 48 _ _ SHF _
      refine AW.iload_n (dq rfl) rfl ?_
      show AW l (pI pg 81) P kc ks 49 _ _ SHF _
      refine AW.ishl (dq rfl) ?_
      show AW l (pI pg 81) P kc ks 50 _ _ SHF _
      refine AW.ior (dq rfl) ?_
      show AW l (pI pg 81) P kc ks 51 _ _ SHF _
      refine AW.iast (dq rfl) rfl (o9 h2 h5) ?_
      show AW l (pI pg 81) P kc ks 52 _ _ SHF _
      refine AW.vret (dq rfl) rfl ?_
      exact r10 h2 h5

theorem adtB_0 {l : aL} {P : aP} {kc ks : Nat} {x y z v : Int32} {M : aM} (hJ : ∀ e ∈ RK, M.2.2 e.1 e.2.1 = e.2.2) (hl0 : l.1.stackTraces = false) (r2 : ∀ (h1 : ((Int8.ofInt 8).toInt32 : Int32) ≤ (M.1 17 2 : Int32)), P (.inl none) SHF M) (r5 : ∀ (h1 : ¬ (((Int8.ofInt 8).toInt32 : Int32) ≤ (M.1 17 2 : Int32))), ∀ (h4 : (hpV (M.1 17 0) (x) : Int32) = 0), P (.inl none) SHF M) (r8 : ∀ (h1 : ¬ (((Int8.ofInt 8).toInt32 : Int32) ≤ (M.1 17 2 : Int32))), ∀ (h4 : ¬ ((hpV (M.1 17 0) (x) : Int32) = 0)), ∀ (h7 : (hpV (M.1 17 1) (y) : Int32) = 0), P (.inl none) SHF M) (o9 : ∀ (h1 : ¬ (((Int8.ofInt 8).toInt32 : Int32) ≤ (M.1 17 2 : Int32))), ∀ (h4 : ¬ ((hpV (M.1 17 0) (x) : Int32) = 0)), ∀ (h7 : ¬ ((hpV (M.1 17 1) (y) : Int32) = 0)), vp_in (M.1 17 2) 8) (o10 : ∀ (h1 : ¬ (((Int8.ofInt 8).toInt32 : Int32) ≤ (M.1 17 2 : Int32))), ∀ (h4 : ¬ ((hpV (M.1 17 0) (x) : Int32) = 0)), ∀ (h7 : ¬ ((hpV (M.1 17 1) (y) : Int32) = 0)), vp_in ((aset M 26 (M.1 17 2).toNatClampNeg (.int (x))).1 17 2) 8) (o11 : ∀ (h1 : ¬ (((Int8.ofInt 8).toInt32 : Int32) ≤ (M.1 17 2 : Int32))), ∀ (h4 : ¬ ((hpV (M.1 17 0) (x) : Int32) = 0)), ∀ (h7 : ¬ ((hpV (M.1 17 1) (y) : Int32) = 0)), vp_in ((aset (aset M 26 (M.1 17 2).toNatClampNeg (.int (x))) 27 ((aset M 26 (M.1 17 2).toNatClampNeg (.int (x))).1 17 2).toNatClampNeg (.int (y))).1 17 2) 8) (o12 : ∀ (h1 : ¬ (((Int8.ofInt 8).toInt32 : Int32) ≤ (M.1 17 2 : Int32))), ∀ (h4 : ¬ ((hpV (M.1 17 0) (x) : Int32) = 0)), ∀ (h7 : ¬ ((hpV (M.1 17 1) (y) : Int32) = 0)), vp_in ((aset (aset (aset M 26 (M.1 17 2).toNatClampNeg (.int (x))) 27 ((aset M 26 (M.1 17 2).toNatClampNeg (.int (x))).1 17 2).toNatClampNeg (.int (y))) 28 ((aset (aset M 26 (M.1 17 2).toNatClampNeg (.int (x))) 27 ((aset M 26 (M.1 17 2).toNatClampNeg (.int (x))).1 17 2).toNatClampNeg (.int (y))).1 17 2).toNatClampNeg (.int (z))).1 17 2) 8) (o13 : ∀ (h1 : ¬ (((Int8.ofInt 8).toInt32 : Int32) ≤ (M.1 17 2 : Int32))), ∀ (h4 : ¬ ((hpV (M.1 17 0) (x) : Int32) = 0)), ∀ (h7 : ¬ ((hpV (M.1 17 1) (y) : Int32) = 0)), vp_in (x) 6) (r14 : ∀ (h1 : ¬ (((Int8.ofInt 8).toInt32 : Int32) ≤ (M.1 17 2 : Int32))), ∀ (h4 : ¬ ((hpV (M.1 17 0) (x) : Int32) = 0)), ∀ (h7 : ¬ ((hpV (M.1 17 1) (y) : Int32) = 0)), P (.inl none) SHF (aset (aset (aset (aset (aset (aset M 26 (M.1 17 2).toNatClampNeg (.int (x))) 27 ((aset M 26 (M.1 17 2).toNatClampNeg (.int (x))).1 17 2).toNatClampNeg (.int (y))) 28 ((aset (aset M 26 (M.1 17 2).toNatClampNeg (.int (x))) 27 ((aset M 26 (M.1 17 2).toNatClampNeg (.int (x))).1 17 2).toNatClampNeg (.int (y))).1 17 2).toNatClampNeg (.int (z))) 29 ((aset (aset (aset M 26 (M.1 17 2).toNatClampNeg (.int (x))) 27 ((aset M 26 (M.1 17 2).toNatClampNeg (.int (x))).1 17 2).toNatClampNeg (.int (y))) 28 ((aset (aset M 26 (M.1 17 2).toNatClampNeg (.int (x))) 27 ((aset M 26 (M.1 17 2).toNatClampNeg (.int (x))).1 17 2).toNatClampNeg (.int (y))).1 17 2).toNatClampNeg (.int (z))).1 17 2).toNatClampNeg (.int (v))) 21 (x).toNatClampNeg (.int (((aset (aset (aset (aset M 26 (M.1 17 2).toNatClampNeg (.int (x))) 27 ((aset M 26 (M.1 17 2).toNatClampNeg (.int (x))).1 17 2).toNatClampNeg (.int (y))) 28 ((aset (aset M 26 (M.1 17 2).toNatClampNeg (.int (x))) 27 ((aset M 26 (M.1 17 2).toNatClampNeg (.int (x))).1 17 2).toNatClampNeg (.int (y))).1 17 2).toNatClampNeg (.int (z))) 29 ((aset (aset (aset M 26 (M.1 17 2).toNatClampNeg (.int (x))) 27 ((aset M 26 (M.1 17 2).toNatClampNeg (.int (x))).1 17 2).toNatClampNeg (.int (y))) 28 ((aset (aset M 26 (M.1 17 2).toNatClampNeg (.int (x))) 27 ((aset M 26 (M.1 17 2).toNatClampNeg (.int (x))).1 17 2).toNatClampNeg (.int (y))).1 17 2).toNatClampNeg (.int (z))).1 17 2).toNatClampNeg (.int (v))).1 21 (x).toNatClampNeg) ||| ((Int32.ofInt 1) <<< ((y) &&& 31))))) 17 2 (.int (((aset (aset (aset (aset (aset M 26 (M.1 17 2).toNatClampNeg (.int (x))) 27 ((aset M 26 (M.1 17 2).toNatClampNeg (.int (x))).1 17 2).toNatClampNeg (.int (y))) 28 ((aset (aset M 26 (M.1 17 2).toNatClampNeg (.int (x))) 27 ((aset M 26 (M.1 17 2).toNatClampNeg (.int (x))).1 17 2).toNatClampNeg (.int (y))).1 17 2).toNatClampNeg (.int (z))) 29 ((aset (aset (aset M 26 (M.1 17 2).toNatClampNeg (.int (x))) 27 ((aset M 26 (M.1 17 2).toNatClampNeg (.int (x))).1 17 2).toNatClampNeg (.int (y))) 28 ((aset (aset M 26 (M.1 17 2).toNatClampNeg (.int (x))) 27 ((aset M 26 (M.1 17 2).toNatClampNeg (.int (x))).1 17 2).toNatClampNeg (.int (y))).1 17 2).toNatClampNeg (.int (z))).1 17 2).toNatClampNeg (.int (v))) 21 (x).toNatClampNeg (.int (((aset (aset (aset (aset M 26 (M.1 17 2).toNatClampNeg (.int (x))) 27 ((aset M 26 (M.1 17 2).toNatClampNeg (.int (x))).1 17 2).toNatClampNeg (.int (y))) 28 ((aset (aset M 26 (M.1 17 2).toNatClampNeg (.int (x))) 27 ((aset M 26 (M.1 17 2).toNatClampNeg (.int (x))).1 17 2).toNatClampNeg (.int (y))).1 17 2).toNatClampNeg (.int (z))) 29 ((aset (aset (aset M 26 (M.1 17 2).toNatClampNeg (.int (x))) 27 ((aset M 26 (M.1 17 2).toNatClampNeg (.int (x))).1 17 2).toNatClampNeg (.int (y))) 28 ((aset (aset M 26 (M.1 17 2).toNatClampNeg (.int (x))) 27 ((aset M 26 (M.1 17 2).toNatClampNeg (.int (x))).1 17 2).toNatClampNeg (.int (y))).1 17 2).toNatClampNeg (.int (z))).1 17 2).toNatClampNeg (.int (v))).1 21 (x).toNatClampNeg) ||| ((Int32.ofInt 1) <<< ((y) &&& 31))))).1 17 2) + (Int32.ofInt 1))))) : AW l (pI pg 83) P kc ks 0 [(0, .ref 17), (1, .int (x)), (2, .int (y)), (3, .int (z)), (4, .int (v))] [] SHF M := by
  refine AW.aload_n (dq rfl) rfl rfl ?_
  show AW l (pI pg 83) P kc ks 1 _ _ SHF _
  refine fw_get (dq rfl) (pg_ok.2.1 83 _ _ _ _ rfl) rfl (v := .int (M.1 17 2)) rfl ?_
  show AW l (pI pg 83) P kc ks 4 _ _ SHF _
  refine AW.bipush (dq rfl) ?_
  show AW l (pI pg 83) P kc ks 6 _ _ SHF _
  refine AW.icmp_ge (dq rfl) (tgt := 88) (by decide) (fun h1 => ?_) (fun h1 => ?_)
  · have _ := h1
    refine AW.vret (dq rfl) rfl ?_
    exact r2 h1
  · have _ := h1
    refine AW.aload_n (dq rfl) rfl rfl ?_
    show AW l (pI pg 83) P kc ks 10 _ _ SHF _
    refine AW.iload_n (dq rfl) rfl ?_
    show AW l (pI pg 83) P kc ks 11 _ _ SHF _
    refine fw_callVI (as := [.int (x)]) (dq rfl) (pg_ok.2.2.1 83 _ _ _ _ rfl) rfl (by decide +kernel) rfl rfl (hpeB_c hl0 (fun e he => hJ e he)) (fun y3 M3 e3 q3 => ?_)
    obtain ⟨rfl, rfl⟩ := q3
    show AW l (pI pg 83) P kc ks 14 [(0, .ref 17), (1, .int (x)), (2, .int (y)), (3, .int (z)), (4, .int (v))] [.int (hpV (M.1 17 0) (x))] SHF _
    refine AW.if_eq (dq rfl) (tgt := 88) (by decide) (fun h4 => ?_) (fun h4 => ?_)
    · have _ := h4
      refine AW.vret (dq rfl) rfl ?_
      exact r5 h1 h4
    · have _ := h4
      refine AW.aload_n (dq rfl) rfl rfl ?_
      show AW l (pI pg 83) P kc ks 18 _ _ SHF _
      refine AW.iload_n (dq rfl) rfl ?_
      show AW l (pI pg 83) P kc ks 19 _ _ SHF _
      refine fw_callVI (as := [.int (y)]) (dq rfl) (pg_ok.2.2.1 83 _ _ _ _ rfl) rfl (by decide +kernel) rfl rfl (hwoB_c hl0 (fun e he => hJ e he)) (fun y6 M6 e6 q6 => ?_)
      obtain ⟨rfl, rfl⟩ := q6
      show AW l (pI pg 83) P kc ks 22 [(0, .ref 17), (1, .int (x)), (2, .int (y)), (3, .int (z)), (4, .int (v))] [.int (hpV (M.1 17 1) (y))] SHF _
      refine AW.if_eq (dq rfl) (tgt := 88) (by decide) (fun h7 => ?_) (fun h7 => ?_)
      · have _ := h7
        refine AW.vret (dq rfl) rfl ?_
        exact r8 h1 h4 h7
      · have _ := h7
        refine AW.aload_n (dq rfl) rfl rfl ?_
        show AW l (pI pg 83) P kc ks 26 _ _ SHF _
        refine fw_get (dq rfl) (pg_ok.2.1 83 _ _ _ _ rfl) rfl (v := .ref 26) (isTA_ok rfl (rgR_ok hJ rfl)) ?_
        show AW l (pI pg 83) P kc ks 29 _ _ SHF _
        refine AW.aload_n (dq rfl) rfl rfl ?_
        show AW l (pI pg 83) P kc ks 30 _ _ SHF _
        refine fw_get (dq rfl) (pg_ok.2.1 83 _ _ _ _ rfl) rfl (v := .int (M.1 17 2)) rfl ?_
        show AW l (pI pg 83) P kc ks 33 _ _ SHF _
        refine AW.iload_n (dq rfl) rfl ?_
        show AW l (pI pg 83) P kc ks 34 _ _ SHF _
        refine AW.iast (dq rfl) rfl (o9 h1 h4 h7) ?_
        show AW l (pI pg 83) P kc ks 35 _ _ SHF _
        refine AW.aload_n (dq rfl) rfl rfl ?_
        show AW l (pI pg 83) P kc ks 36 _ _ SHF _
        refine fw_get (dq rfl) (pg_ok.2.1 83 _ _ _ _ rfl) rfl (v := .ref 27) (isTA_ok rfl (rgR_ok hJ rfl)) ?_
        show AW l (pI pg 83) P kc ks 39 _ _ SHF _
        refine AW.aload_n (dq rfl) rfl rfl ?_
        show AW l (pI pg 83) P kc ks 40 _ _ SHF _
        refine fw_get (dq rfl) (pg_ok.2.1 83 _ _ _ _ rfl) rfl (v := .int ((aset M 26 (M.1 17 2).toNatClampNeg (.int (x))).1 17 2)) rfl ?_
        show AW l (pI pg 83) P kc ks 43 _ _ SHF _
        refine AW.iload_n (dq rfl) rfl ?_
        show AW l (pI pg 83) P kc ks 44 _ _ SHF _
        refine AW.iast (dq rfl) rfl (o10 h1 h4 h7) ?_
        show AW l (pI pg 83) P kc ks 45 _ _ SHF _
        refine AW.aload_n (dq rfl) rfl rfl ?_
        show AW l (pI pg 83) P kc ks 46 _ _ SHF _
        refine fw_get (dq rfl) (pg_ok.2.1 83 _ _ _ _ rfl) rfl (v := .ref 28) (isTA_ok rfl (rgR_ok hJ rfl)) ?_
        show AW l (pI pg 83) P kc ks 49 _ _ SHF _
        refine AW.aload_n (dq rfl) rfl rfl ?_
        show AW l (pI pg 83) P kc ks 50 _ _ SHF _
        refine fw_get (dq rfl) (pg_ok.2.1 83 _ _ _ _ rfl) rfl (v := .int ((aset (aset M 26 (M.1 17 2).toNatClampNeg (.int (x))) 27 ((aset M 26 (M.1 17 2).toNatClampNeg (.int (x))).1 17 2).toNatClampNeg (.int (y))).1 17 2)) rfl ?_
        show AW l (pI pg 83) P kc ks 53 _ _ SHF _
        refine AW.iload_n (dq rfl) rfl ?_
        show AW l (pI pg 83) P kc ks 54 _ _ SHF _
        refine AW.iast (dq rfl) rfl (o11 h1 h4 h7) ?_
        show AW l (pI pg 83) P kc ks 55 _ _ SHF _
        refine AW.aload_n (dq rfl) rfl rfl ?_
        show AW l (pI pg 83) P kc ks 56 _ _ SHF _
        refine fw_get (dq rfl) (pg_ok.2.1 83 _ _ _ _ rfl) rfl (v := .ref 29) (isTA_ok rfl (rgR_ok hJ rfl)) ?_
        show AW l (pI pg 83) P kc ks 59 _ _ SHF _
        refine AW.aload_n (dq rfl) rfl rfl ?_
        show AW l (pI pg 83) P kc ks 60 _ _ SHF _
        refine fw_get (dq rfl) (pg_ok.2.1 83 _ _ _ _ rfl) rfl (v := .int ((aset (aset (aset M 26 (M.1 17 2).toNatClampNeg (.int (x))) 27 ((aset M 26 (M.1 17 2).toNatClampNeg (.int (x))).1 17 2).toNatClampNeg (.int (y))) 28 ((aset (aset M 26 (M.1 17 2).toNatClampNeg (.int (x))) 27 ((aset M 26 (M.1 17 2).toNatClampNeg (.int (x))).1 17 2).toNatClampNeg (.int (y))).1 17 2).toNatClampNeg (.int (z))).1 17 2)) rfl ?_
        show AW l (pI pg 83) P kc ks 63 _ _ SHF _
        refine AW.iload (dq rfl) rfl ?_
        show AW l (pI pg 83) P kc ks 65 _ _ SHF _
        refine AW.iast (dq rfl) rfl (o12 h1 h4 h7) ?_
        show AW l (pI pg 83) P kc ks 66 _ _ SHF _
        refine AW.aload_n (dq rfl) rfl rfl ?_
        show AW l (pI pg 83) P kc ks 67 _ _ SHF _
        refine fw_get (dq rfl) (pg_ok.2.1 83 _ _ _ _ rfl) rfl (v := .ref 21) (isTA_ok rfl (rgR_ok hJ rfl)) ?_
        show AW l (pI pg 83) P kc ks 70 _ _ SHF _
        refine AW.iload_n (dq rfl) rfl ?_
        show AW l (pI pg 83) P kc ks 71 _ _ SHF _
        refine AW.dup2_11 (dq rfl) rfl rfl ?_
        show AW l (pI pg 83) P kc ks 72 _ _ SHF _
        refine AW.iald (dq rfl) rfl (o13 h1 h4 h7) ?_
        show AW l (pI pg 83) P kc ks 73 _ _ SHF _
        refine AW.iconst (dq rfl) ?_
        show AW l (pI pg 83) P kc ks 74 _ _ SHF _
        refine AW.iload_n (dq rfl) rfl ?_
        show AW l (pI pg 83) P kc ks 75 _ _ SHF _
        refine AW.ishl (dq rfl) ?_
        show AW l (pI pg 83) P kc ks 76 _ _ SHF _
        refine AW.ior (dq rfl) ?_
        show AW l (pI pg 83) P kc ks 77 _ _ SHF _
        refine AW.iast (dq rfl) rfl (o13 h1 h4 h7) ?_
        show AW l (pI pg 83) P kc ks 78 _ _ SHF _
        refine AW.aload_n (dq rfl) rfl rfl ?_
        show AW l (pI pg 83) P kc ks 79 _ _ SHF _
        refine AW.dup (dq rfl) rfl ?_
        show AW l (pI pg 83) P kc ks 80 _ _ SHF _
        refine fw_get (dq rfl) (pg_ok.2.1 83 _ _ _ _ rfl) rfl (v := .int ((aset (aset (aset (aset (aset M 26 (M.1 17 2).toNatClampNeg (.int (x))) 27 ((aset M 26 (M.1 17 2).toNatClampNeg (.int (x))).1 17 2).toNatClampNeg (.int (y))) 28 ((aset (aset M 26 (M.1 17 2).toNatClampNeg (.int (x))) 27 ((aset M 26 (M.1 17 2).toNatClampNeg (.int (x))).1 17 2).toNatClampNeg (.int (y))).1 17 2).toNatClampNeg (.int (z))) 29 ((aset (aset (aset M 26 (M.1 17 2).toNatClampNeg (.int (x))) 27 ((aset M 26 (M.1 17 2).toNatClampNeg (.int (x))).1 17 2).toNatClampNeg (.int (y))) 28 ((aset (aset M 26 (M.1 17 2).toNatClampNeg (.int (x))) 27 ((aset M 26 (M.1 17 2).toNatClampNeg (.int (x))).1 17 2).toNatClampNeg (.int (y))).1 17 2).toNatClampNeg (.int (z))).1 17 2).toNatClampNeg (.int (v))) 21 (x).toNatClampNeg (.int (((aset (aset (aset (aset M 26 (M.1 17 2).toNatClampNeg (.int (x))) 27 ((aset M 26 (M.1 17 2).toNatClampNeg (.int (x))).1 17 2).toNatClampNeg (.int (y))) 28 ((aset (aset M 26 (M.1 17 2).toNatClampNeg (.int (x))) 27 ((aset M 26 (M.1 17 2).toNatClampNeg (.int (x))).1 17 2).toNatClampNeg (.int (y))).1 17 2).toNatClampNeg (.int (z))) 29 ((aset (aset (aset M 26 (M.1 17 2).toNatClampNeg (.int (x))) 27 ((aset M 26 (M.1 17 2).toNatClampNeg (.int (x))).1 17 2).toNatClampNeg (.int (y))) 28 ((aset (aset M 26 (M.1 17 2).toNatClampNeg (.int (x))) 27 ((aset M 26 (M.1 17 2).toNatClampNeg (.int (x))).1 17 2).toNatClampNeg (.int (y))).1 17 2).toNatClampNeg (.int (z))).1 17 2).toNatClampNeg (.int (v))).1 21 (x).toNatClampNeg) ||| ((Int32.ofInt 1) <<< ((y) &&& 31))))).1 17 2)) rfl ?_
        show AW l (pI pg 83) P kc ks 83 _ _ SHF _
        refine AW.iconst (dq rfl) ?_
        show AW l (pI pg 83) P kc ks 84 _ _ SHF _
        refine AW.iadd (dq rfl) ?_
        show AW l (pI pg 83) P kc ks 85 _ _ SHF _
        refine fw_putI (dq rfl) (pg_ok.2.1 83 _ _ _ _ rfl) rfl rfl rfl ?_
        show AW l (pI pg 83) P kc ks 88 _ _ SHF _
        refine AW.vret (dq rfl) rfl ?_
        exact r14 h1 h4 h7

theorem rpeB_0 {l : aL} {P : aP} {kc ks : Nat} {M : aM} (hJ : ∀ e ∈ RK, M.2.2 e.1 e.2.1 = e.2.2) (hl0 : l.1.stackTraces = false) (Q2 : Int32 → aM → Prop) (c3 : ∀ (h1 : (M.1 17 0 : Int32) < ((Int8.ofInt 6).toInt32 : Int32)), AC l (pI pg 67) (fcI M Q2) 0 0 [.ref 1, .int (Int32.ofInt 0), .int ((Int8.ofInt 24).toInt32)] SHF M) (k5 : ∀ (h1 : (M.1 17 0 : Int32) < ((Int8.ofInt 6).toInt32 : Int32)), ∀ (y2 : Int32), ∀ (M2 : aM), ∀ (e2 : M2.2.2 = M.2.2), ∀ (q2 : Q2 y2 M2), ∀ (h4 : ¬ (y2 : Int32) = (Int32.ofInt (-1) : Int32)), AW l (pI pg 65) P kc ks 32 [(0, .ref 1), (1, .ref 17), (2, .int (y2)), (3, .int (Int32.ofInt 0))] [] SHF M2) (r6 : ∀ (h1 : (M.1 17 0 : Int32) < ((Int8.ofInt 6).toInt32 : Int32)), ∀ (y2 : Int32), ∀ (M2 : aM), ∀ (e2 : M2.2.2 = M.2.2), ∀ (q2 : Q2 y2 M2), ∀ (h4 : (y2 : Int32) = (Int32.ofInt (-1) : Int32)), P (.inl none) SHF M2) (r8 : ∀ (h1 : ¬ ((M.1 17 0 : Int32) < ((Int8.ofInt 6).toInt32 : Int32))), P (.inl none) SHF (rfM M (Int32.ofInt 2))) : AW l (pI pg 65) P kc ks 0 [(0, .ref 1), (1, .ref 17)] [] SHF M := by
  refine AW.aload_n (dq rfl) rfl rfl ?_
  show AW l (pI pg 65) P kc ks 1 _ _ SHF _
  refine fw_get (dq rfl) (pg_ok.2.1 65 _ _ _ _ rfl) rfl (v := .int (M.1 17 0)) rfl ?_
  show AW l (pI pg 65) P kc ks 4 _ _ SHF _
  refine AW.bipush (dq rfl) ?_
  show AW l (pI pg 65) P kc ks 6 _ _ SHF _
  refine AW.icmp_lt (dq rfl) (tgt := 16) (by decide) (fun h1 => ?_) (fun h1 => ?_)
  · have _ := h1
    refine AW.aload_n (dq rfl) rfl rfl ?_
    show AW l (pI pg 65) P kc ks 17 _ _ SHF _
    refine AW.iconst (dq rfl) ?_
    show AW l (pI pg 65) P kc ks 18 _ _ SHF _
    refine AW.bipush (dq rfl) ?_
    show AW l (pI pg 65) P kc ks 20 _ _ SHF _
    refine fw_callVI (as := [.int (Int32.ofInt 0), .int ((Int8.ofInt 24).toInt32)]) (dq rfl) (pg_ok.2.2.1 65 _ _ _ _ rfl) rfl (by decide +kernel) rfl rfl (c3 h1) (fun y2 M2 e2 q2 => ?_)
    have hJ2 : ∀ e ∈ RK, M2.2.2 e.1 e.2.1 = e.2.2 := fun e he => by rw [e2]; exact hJ e he
    show AW l (pI pg 65) P kc ks 23 [(0, .ref 1), (1, .ref 17)] [.int (y2)] SHF _
    refine AW.istore_n (dq rfl) (by decide +kernel) ?_
    show AW l (pI pg 65) P kc ks 24 [(2, .int (y2)), (0, .ref 1), (1, .ref 17)] [] SHF _
    refine AW.iload_n (dq rfl) rfl ?_
    show AW l (pI pg 65) P kc ks 25 _ _ SHF _
    refine AW.iconst (dq rfl) ?_
    show AW l (pI pg 65) P kc ks 26 _ _ SHF _
    refine AW.icmp_ne (dq rfl) (tgt := 30) (by decide) (fun h4 => ?_) (fun h4 => ?_)
    · have _ := h4
      refine AW.iconst (dq rfl) ?_
      show AW l (pI pg 65) P kc ks 31 _ _ SHF _
      refine AW.istore_n (dq rfl) (by decide +kernel) ?_
      show AW l (pI pg 65) P kc ks 32 [(3, .int (Int32.ofInt 0)), (2, .int (y2)), (0, .ref 1), (1, .ref 17)] [] SHF _
      refine AW.drop (lv' := [(0, .ref 1), (1, .ref 17), (2, .int (y2)), (3, .int (Int32.ofInt 0))]) (List.forall_mem_cons.mpr ⟨List.mem_of_getElem? (i := 2) rfl, List.forall_mem_cons.mpr ⟨List.mem_of_getElem? (i := 3) rfl, List.forall_mem_cons.mpr ⟨List.mem_of_getElem? (i := 1) rfl, List.forall_mem_cons.mpr ⟨List.mem_of_getElem? (i := 0) rfl, fun _ h => absurd h List.not_mem_nil⟩⟩⟩⟩) ?_
      exact k5 h1 y2 M2 e2 q2 h4
    · have _ := h4
      refine AW.vret (dq rfl) rfl ?_
      exact r6 h1 y2 M2 e2 q2 h4
  · have _ := h1
    refine AW.aload_n (dq rfl) rfl rfl ?_
    show AW l (pI pg 65) P kc ks 10 _ _ SHF _
    refine AW.iconst (dq rfl) ?_
    show AW l (pI pg 65) P kc ks 11 _ _ SHF _
    refine fw_callVI (as := [.int (Int32.ofInt 2)]) (dq rfl) (pg_ok.2.2.1 65 _ _ _ _ rfl) rfl (by decide +kernel) rfl rfl (ref_c hl0 (fun e he => hJ e he)) (fun y7 M7 e7 q7 => ?_)
    obtain ⟨rfl, rfl⟩ := q7
    show AW l (pI pg 65) P kc ks 14 [(0, .ref 1), (1, .ref 17)] [.int (Int32.ofInt (-1))] SHF _
    refine AW.pop (dq rfl) rfl ?_
    show AW l (pI pg 65) P kc ks 15 _ _ SHF _
    refine AW.vret (dq rfl) rfl ?_
    exact r8 h1

theorem rpeB_32 {l : aL} {P : aP} {kc ks : Nat} {a b : Int32} {M : aM} (hJ : ∀ e ∈ RK, M.2.2 e.1 e.2.1 = e.2.2) (hl0 : l.1.stackTraces = false) (Q1 : aM → Prop) (c2 : AC l (pI pg 48) (fcV M Q1) 0 0 [.ref 2] SHF M) (Q3 : aM → Int32 → aM → Prop) (c4 : ∀ (M1 : aM), ∀ (e1 : M1.2.2 = M.2.2), ∀ (q1 : Q1 M1), AC l (pI pg 53) (fcI M1 (Q3 M1)) 0 0 [.ref 2, .retAddr 3] SHF M1) (k6 : ∀ (M1 : aM), ∀ (e1 : M1.2.2 = M.2.2), ∀ (q1 : Q1 M1), ∀ (y3 : Int32), ∀ (M3 : aM), ∀ (e3 : M3.2.2 = M1.2.2), ∀ (q3 : (Q3 M1) y3 M3), ∀ (h5 : (y3 : Int32) = 0), AW l (pI pg 65) P kc ks 70 [(0, .ref 1), (1, .ref 17), (2, .int (a)), (3, .int (b))] [] SHF M3) (Q7 : aM → Int32 → aM → Int32 → aM → Prop) (c8 : ∀ (M1 : aM), ∀ (e1 : M1.2.2 = M.2.2), ∀ (q1 : Q1 M1), ∀ (y3 : Int32), ∀ (M3 : aM), ∀ (e3 : M3.2.2 = M1.2.2), ∀ (q3 : (Q3 M1) y3 M3), ∀ (h5 : ¬ ((y3 : Int32) = 0)), AC l (pI pg 70) (fcI M3 (Q7 M1 y3 M3)) 0 0 [.ref 1, .ref 17] SHF M3) (Q10 : aM → Int32 → aM → Int32 → aM → aM → Prop) (c11 : ∀ (M1 : aM), ∀ (e1 : M1.2.2 = M.2.2), ∀ (q1 : Q1 M1), ∀ (y3 : Int32), ∀ (M3 : aM), ∀ (e3 : M3.2.2 = M1.2.2), ∀ (q3 : (Q3 M1) y3 M3), ∀ (h5 : ¬ ((y3 : Int32) = 0)), ∀ (y7 : Int32), ∀ (M7 : aM), ∀ (e7 : M7.2.2 = M3.2.2), ∀ (q7 : (Q7 M1 y3 M3) y7 M7), ∀ (h9 : ¬ (y7 : Int32) = (Int32.ofInt (-1) : Int32)), AC l (pI pg 48) (fcV M7 (Q10 M1 y3 M3 y7 M7)) 0 0 [.ref 2] SHF M7) (k12 : ∀ (M1 : aM), ∀ (e1 : M1.2.2 = M.2.2), ∀ (q1 : Q1 M1), ∀ (y3 : Int32), ∀ (M3 : aM), ∀ (e3 : M3.2.2 = M1.2.2), ∀ (q3 : (Q3 M1) y3 M3), ∀ (h5 : ¬ ((y3 : Int32) = 0)), ∀ (y7 : Int32), ∀ (M7 : aM), ∀ (e7 : M7.2.2 = M3.2.2), ∀ (q7 : (Q7 M1 y3 M3) y7 M7), ∀ (h9 : ¬ (y7 : Int32) = (Int32.ofInt (-1) : Int32)), ∀ (M10 : aM), ∀ (e10 : M10.2.2 = M7.2.2), ∀ (q10 : (Q10 M1 y3 M3 y7 M7) M10), AW l (pI pg 65) P kc ks 70 [(0, .ref 1), (1, .ref 17), (2, .int (a)), (3, .int (y7))] [] SHF M10) (r13 : ∀ (M1 : aM), ∀ (e1 : M1.2.2 = M.2.2), ∀ (q1 : Q1 M1), ∀ (y3 : Int32), ∀ (M3 : aM), ∀ (e3 : M3.2.2 = M1.2.2), ∀ (q3 : (Q3 M1) y3 M3), ∀ (h5 : ¬ ((y3 : Int32) = 0)), ∀ (y7 : Int32), ∀ (M7 : aM), ∀ (e7 : M7.2.2 = M3.2.2), ∀ (q7 : (Q7 M1 y3 M3) y7 M7), ∀ (h9 : (y7 : Int32) = (Int32.ofInt (-1) : Int32)), P (.inl none) SHF M7) : AW l (pI pg 65) P kc ks 32 [(0, .ref 1), (1, .ref 17), (2, .int (a)), (3, .int (b))] [] SHF M := by
  refine AW.aload_n (dq rfl) rfl rfl ?_
  show AW l (pI pg 65) P kc ks 33 _ _ SHF _
  refine fw_get (dq rfl) (pg_ok.2.1 65 _ _ _ _ rfl) rfl (v := .ref 2) (isTA_ok rfl (rgR_ok hJ rfl)) ?_
  show AW l (pI pg 65) P kc ks 36 _ _ SHF _
  refine fw_callVV (as := []) (dq rfl) (pg_ok.2.2.1 65 _ _ _ _ rfl) rfl (by decide +kernel) rfl rfl (c2) (fun M1 e1 q1 => ?_)
  have hJ1 : ∀ e ∈ RK, M1.2.2 e.1 e.2.1 = e.2.2 := fun e he => by rw [e1]; exact hJ e he
  show AW l (pI pg 65) P kc ks 39 [(0, .ref 1), (1, .ref 17), (2, .int (a)), (3, .int (b))] [] SHF _
  refine AW.aload_n (dq rfl) rfl rfl ?_
  show AW l (pI pg 65) P kc ks 40 _ _ SHF _
  refine fw_get (dq rfl) (pg_ok.2.1 65 _ _ _ _ rfl) rfl (v := .ref 2) (isTA_ok rfl (rgR_ok hJ1 rfl)) ?_
  show AW l (pI pg 65) P kc ks 43 _ _ SHF _
  refine AW.ldcS (dq rfl) (List.mem_of_getElem? (i := 2) rfl) ?_
  show AW l (pI pg 65) P kc ks 45 _ _ SHF _
  refine fw_callVI (as := [.retAddr 3]) (dq rfl) (pg_ok.2.2.1 65 _ _ _ _ rfl) rfl (by decide +kernel) rfl rfl (c4 M1 e1 q1) (fun y3 M3 e3 q3 => ?_)
  have hJ3 : ∀ e ∈ RK, M3.2.2 e.1 e.2.1 = e.2.2 := fun e he => by rw [e3]; exact hJ1 e he
  show AW l (pI pg 65) P kc ks 48 [(0, .ref 1), (1, .ref 17), (2, .int (a)), (3, .int (b))] [.int (y3)] SHF _
  refine AW.if_eq (dq rfl) (tgt := 70) (by decide) (fun h5 => ?_) (fun h5 => ?_)
  · have _ := h5
    refine AW.drop (lv' := [(0, .ref 1), (1, .ref 17), (2, .int (a)), (3, .int (b))]) (List.forall_mem_cons.mpr ⟨List.mem_of_getElem? (i := 0) rfl, List.forall_mem_cons.mpr ⟨List.mem_of_getElem? (i := 1) rfl, List.forall_mem_cons.mpr ⟨List.mem_of_getElem? (i := 2) rfl, List.forall_mem_cons.mpr ⟨List.mem_of_getElem? (i := 3) rfl, fun _ h => absurd h List.not_mem_nil⟩⟩⟩⟩) ?_
    exact k6 M1 e1 q1 y3 M3 e3 q3 h5
  · have _ := h5
    refine AW.aload_n (dq rfl) rfl rfl ?_
    show AW l (pI pg 65) P kc ks 52 _ _ SHF _
    refine AW.aload_n (dq rfl) rfl rfl ?_
    show AW l (pI pg 65) P kc ks 53 _ _ SHF _
    refine fw_callVI (as := [.ref 17]) (dq rfl) (pg_ok.2.2.1 65 _ _ _ _ rfl) rfl (by decide +kernel) rfl rfl (c8 M1 e1 q1 y3 M3 e3 q3 h5) (fun y7 M7 e7 q7 => ?_)
    have hJ7 : ∀ e ∈ RK, M7.2.2 e.1 e.2.1 = e.2.2 := fun e he => by rw [e7]; exact hJ3 e he
    show AW l (pI pg 65) P kc ks 56 [(0, .ref 1), (1, .ref 17), (2, .int (a)), (3, .int (b))] [.int (y7)] SHF _
    refine AW.istore_n (dq rfl) (by decide +kernel) ?_
    show AW l (pI pg 65) P kc ks 57 [(3, .int (y7)), (0, .ref 1), (1, .ref 17), (2, .int (a))] [] SHF _
    refine AW.iload_n (dq rfl) rfl ?_
    show AW l (pI pg 65) P kc ks 58 _ _ SHF _
    refine AW.iconst (dq rfl) ?_
    show AW l (pI pg 65) P kc ks 59 _ _ SHF _
    refine AW.icmp_ne (dq rfl) (tgt := 63) (by decide) (fun h9 => ?_) (fun h9 => ?_)
    · have _ := h9
      refine AW.aload_n (dq rfl) rfl rfl ?_
      show AW l (pI pg 65) P kc ks 64 _ _ SHF _
      refine fw_get (dq rfl) (pg_ok.2.1 65 _ _ _ _ rfl) rfl (v := .ref 2) (isTA_ok rfl (rgR_ok hJ7 rfl)) ?_
      show AW l (pI pg 65) P kc ks 67 _ _ SHF _
      refine fw_callVV (as := []) (dq rfl) (pg_ok.2.2.1 65 _ _ _ _ rfl) rfl (by decide +kernel) rfl rfl (c11 M1 e1 q1 y3 M3 e3 q3 h5 y7 M7 e7 q7 h9) (fun M10 e10 q10 => ?_)
      have hJ10 : ∀ e ∈ RK, M10.2.2 e.1 e.2.1 = e.2.2 := fun e he => by rw [e10]; exact hJ7 e he
      show AW l (pI pg 65) P kc ks 70 [(3, .int (y7)), (0, .ref 1), (1, .ref 17), (2, .int (a))] [] SHF _
      refine AW.drop (lv' := [(0, .ref 1), (1, .ref 17), (2, .int (a)), (3, .int (y7))]) (List.forall_mem_cons.mpr ⟨List.mem_of_getElem? (i := 1) rfl, List.forall_mem_cons.mpr ⟨List.mem_of_getElem? (i := 2) rfl, List.forall_mem_cons.mpr ⟨List.mem_of_getElem? (i := 3) rfl, List.forall_mem_cons.mpr ⟨List.mem_of_getElem? (i := 0) rfl, fun _ h => absurd h List.not_mem_nil⟩⟩⟩⟩) ?_
      exact k12 M1 e1 q1 y3 M3 e3 q3 h5 y7 M7 e7 q7 h9 M10 e10 q10
    · have _ := h9
      refine AW.vret (dq rfl) rfl ?_
      exact r13 M1 e1 q1 y3 M3 e3 q3 h5 y7 M7 e7 q7 h9

theorem rpeB_70 {l : aL} {P : aP} {kc ks : Nat} {a b : Int32} {M : aM} (hJ : ∀ e ∈ RK, M.2.2 e.1 e.2.1 = e.2.2) (hl0 : l.1.stackTraces = false) (Q1 : Int32 → aM → Prop) (c2 : AC l (pI pg 72) (fcI M Q1) 0 0 [.ref 1] SHF M) (r4 : ∀ (y1 : Int32), ∀ (M1 : aM), ∀ (e1 : M1.2.2 = M.2.2), ∀ (q1 : Q1 y1 M1), ∀ (h3 : (y1 : Int32) = 0), P (.inl none) SHF M1) (Q5 : Int32 → aM → aM → Prop) (c6 : ∀ (y1 : Int32), ∀ (M1 : aM), ∀ (e1 : M1.2.2 = M.2.2), ∀ (q1 : Q1 y1 M1), ∀ (h3 : ¬ ((y1 : Int32) = 0)), AC l (pI pg 73) (fcV M1 (Q5 y1 M1)) 0 0 [.ref 17, .int (a), .int (b)] SHF M1) (r7 : ∀ (y1 : Int32), ∀ (M1 : aM), ∀ (e1 : M1.2.2 = M.2.2), ∀ (q1 : Q1 y1 M1), ∀ (h3 : ¬ ((y1 : Int32) = 0)), ∀ (M5 : aM), ∀ (e5 : M5.2.2 = M1.2.2), ∀ (q5 : (Q5 y1 M1) M5), P (.inl none) SHF M5) : AW l (pI pg 65) P kc ks 70 [(0, .ref 1), (1, .ref 17), (2, .int (a)), (3, .int (b))] [] SHF M := by
  refine AW.aload_n (dq rfl) rfl rfl ?_
  show AW l (pI pg 65) P kc ks 71 _ _ SHF _
  refine fw_callVI (as := []) (dq rfl) (pg_ok.2.2.1 65 _ _ _ _ rfl) rfl (by decide +kernel) rfl rfl (c2) (fun y1 M1 e1 q1 => ?_)
  have hJ1 : ∀ e ∈ RK, M1.2.2 e.1 e.2.1 = e.2.2 := fun e he => by rw [e1]; exact hJ e he
  show AW l (pI pg 65) P kc ks 74 [(0, .ref 1), (1, .ref 17), (2, .int (a)), (3, .int (b))] [.int (y1)] SHF _
  refine AW.if_eq (dq rfl) (tgt := 83) (by decide) (fun h3 => ?_) (fun h3 => ?_)
  · have _ := h3
    refine AW.vret (dq rfl) rfl ?_
    exact r4 y1 M1 e1 q1 h3
  · have _ := h3
    refine AW.aload_n (dq rfl) rfl rfl ?_
    show AW l (pI pg 65) P kc ks 78 _ _ SHF _
    refine AW.iload_n (dq rfl) rfl ?_
    show AW l (pI pg 65) P kc ks 79 _ _ SHF _
    refine AW.iload_n (dq rfl) rfl ?_
    show AW l (pI pg 65) P kc ks 80 _ _ SHF _
    refine fw_callVV (as := [.int (a), .int (b)]) (dq rfl) (pg_ok.2.2.1 65 _ _ _ _ rfl) rfl (by decide +kernel) rfl rfl (c6 y1 M1 e1 q1 h3) (fun M5 e5 q5 => ?_)
    have hJ5 : ∀ e ∈ RK, M5.2.2 e.1 e.2.1 = e.2.2 := fun e he => by rw [e5]; exact hJ1 e he
    show AW l (pI pg 65) P kc ks 83 [(0, .ref 1), (1, .ref 17), (2, .int (a)), (3, .int (b))] [] SHF _
    refine AW.vret (dq rfl) rfl ?_
    exact r7 y1 M1 e1 q1 h3 M5 e5 q5

theorem rwoB_0 {l : aL} {P : aP} {kc ks : Nat} {M : aM} (hJ : ∀ e ∈ RK, M.2.2 e.1 e.2.1 = e.2.2) (hl0 : l.1.stackTraces = false) (Q2 : Int32 → aM → Prop) (c3 : ∀ (h1 : (M.1 17 1 : Int32) < ((Int8.ofInt 8).toInt32 : Int32)), AC l (pI pg 67) (fcI M Q2) 0 0 [.ref 1, .int (Int32.ofInt 0), .int ((Int8.ofInt 23).toInt32)] SHF M) (k5 : ∀ (h1 : (M.1 17 1 : Int32) < ((Int8.ofInt 8).toInt32 : Int32)), ∀ (y2 : Int32), ∀ (M2 : aM), ∀ (e2 : M2.2.2 = M.2.2), ∀ (q2 : Q2 y2 M2), ∀ (h4 : ¬ (y2 : Int32) = (Int32.ofInt (-1) : Int32)), AW l (pI pg 74) P kc ks 30 [(0, .ref 1), (1, .ref 17), (2, .int (y2))] [] SHF M2) (r6 : ∀ (h1 : (M.1 17 1 : Int32) < ((Int8.ofInt 8).toInt32 : Int32)), ∀ (y2 : Int32), ∀ (M2 : aM), ∀ (e2 : M2.2.2 = M.2.2), ∀ (q2 : Q2 y2 M2), ∀ (h4 : (y2 : Int32) = (Int32.ofInt (-1) : Int32)), P (.inl none) SHF M2) (r8 : ∀ (h1 : ¬ ((M.1 17 1 : Int32) < ((Int8.ofInt 8).toInt32 : Int32))), P (.inl none) SHF (rfM M (Int32.ofInt 2))) : AW l (pI pg 74) P kc ks 0 [(0, .ref 1), (1, .ref 17)] [] SHF M := by
  refine AW.aload_n (dq rfl) rfl rfl ?_
  show AW l (pI pg 74) P kc ks 1 _ _ SHF _
  refine fw_get (dq rfl) (pg_ok.2.1 74 _ _ _ _ rfl) rfl (v := .int (M.1 17 1)) rfl ?_
  show AW l (pI pg 74) P kc ks 4 _ _ SHF _
  refine AW.bipush (dq rfl) ?_
  show AW l (pI pg 74) P kc ks 6 _ _ SHF _
  refine AW.icmp_lt (dq rfl) (tgt := 16) (by decide) (fun h1 => ?_) (fun h1 => ?_)
  · have _ := h1
    refine AW.aload_n (dq rfl) rfl rfl ?_
    show AW l (pI pg 74) P kc ks 17 _ _ SHF _
    refine AW.iconst (dq rfl) ?_
    show AW l (pI pg 74) P kc ks 18 _ _ SHF _
    refine AW.bipush (dq rfl) ?_
    show AW l (pI pg 74) P kc ks 20 _ _ SHF _
    refine fw_callVI (as := [.int (Int32.ofInt 0), .int ((Int8.ofInt 23).toInt32)]) (dq rfl) (pg_ok.2.2.1 74 _ _ _ _ rfl) rfl (by decide +kernel) rfl rfl (c3 h1) (fun y2 M2 e2 q2 => ?_)
    have hJ2 : ∀ e ∈ RK, M2.2.2 e.1 e.2.1 = e.2.2 := fun e he => by rw [e2]; exact hJ e he
    show AW l (pI pg 74) P kc ks 23 [(0, .ref 1), (1, .ref 17)] [.int (y2)] SHF _
    refine AW.istore_n (dq rfl) (by decide +kernel) ?_
    show AW l (pI pg 74) P kc ks 24 [(2, .int (y2)), (0, .ref 1), (1, .ref 17)] [] SHF _
    refine AW.iload_n (dq rfl) rfl ?_
    show AW l (pI pg 74) P kc ks 25 _ _ SHF _
    refine AW.iconst (dq rfl) ?_
    show AW l (pI pg 74) P kc ks 26 _ _ SHF _
    refine AW.icmp_ne (dq rfl) (tgt := 30) (by decide) (fun h4 => ?_) (fun h4 => ?_)
    · have _ := h4
      refine AW.drop (lv' := [(0, .ref 1), (1, .ref 17), (2, .int (y2))]) (List.forall_mem_cons.mpr ⟨List.mem_of_getElem? (i := 1) rfl, List.forall_mem_cons.mpr ⟨List.mem_of_getElem? (i := 2) rfl, List.forall_mem_cons.mpr ⟨List.mem_of_getElem? (i := 0) rfl, fun _ h => absurd h List.not_mem_nil⟩⟩⟩) ?_
      exact k5 h1 y2 M2 e2 q2 h4
    · have _ := h4
      refine AW.vret (dq rfl) rfl ?_
      exact r6 h1 y2 M2 e2 q2 h4
  · have _ := h1
    refine AW.aload_n (dq rfl) rfl rfl ?_
    show AW l (pI pg 74) P kc ks 10 _ _ SHF _
    refine AW.iconst (dq rfl) ?_
    show AW l (pI pg 74) P kc ks 11 _ _ SHF _
    refine fw_callVI (as := [.int (Int32.ofInt 2)]) (dq rfl) (pg_ok.2.2.1 74 _ _ _ _ rfl) rfl (by decide +kernel) rfl rfl (ref_c hl0 (fun e he => hJ e he)) (fun y7 M7 e7 q7 => ?_)
    obtain ⟨rfl, rfl⟩ := q7
    show AW l (pI pg 74) P kc ks 14 [(0, .ref 1), (1, .ref 17)] [.int (Int32.ofInt (-1))] SHF _
    refine AW.pop (dq rfl) rfl ?_
    show AW l (pI pg 74) P kc ks 15 _ _ SHF _
    refine AW.vret (dq rfl) rfl ?_
    exact r8 h1

theorem rwoB_30 {l : aL} {P : aP} {kc ks : Nat} {a : Int32} {M : aM} (hJ : ∀ e ∈ RK, M.2.2 e.1 e.2.1 = e.2.2) (hl0 : l.1.stackTraces = false) (Q1 : Int32 → aM → Prop) (c2 : AC l (pI pg 67) (fcI M Q1) 0 0 [.ref 1, .int (Int32.ofInt 1), .int (miV ((Int8.ofInt 8).toInt32) (((Int8.ofInt 24).toInt32) - (a)))] SHF M) (r4 : ∀ (y1 : Int32), ∀ (M1 : aM), ∀ (e1 : M1.2.2 = M.2.2), ∀ (q1 : Q1 y1 M1), ∀ (h3 : (y1 : Int32) = (Int32.ofInt (-1) : Int32)), P (.inl none) SHF M1) (k5 : ∀ (y1 : Int32), ∀ (M1 : aM), ∀ (e1 : M1.2.2 = M.2.2), ∀ (q1 : Q1 y1 M1), ∀ (h3 : ¬ ((y1 : Int32) = (Int32.ofInt (-1) : Int32))), AW l (pI pg 74) P kc ks 50 [(0, .ref 1), (1, .ref 17), (2, .int (a)), (3, .int (y1))] [] SHF M1) : AW l (pI pg 74) P kc ks 30 [(0, .ref 1), (1, .ref 17), (2, .int (a))] [] SHF M := by
  refine AW.aload_n (dq rfl) rfl rfl ?_
  show AW l (pI pg 74) P kc ks 31 _ _ SHF _
  refine AW.iconst (dq rfl) ?_
  show AW l (pI pg 74) P kc ks 32 _ _ SHF _
  refine AW.bipush (dq rfl) ?_
  show AW l (pI pg 74) P kc ks 34 _ _ SHF _
  refine AW.bipush (dq rfl) ?_
  show AW l (pI pg 74) P kc ks 36 _ _ SHF _
  refine AW.iload_n (dq rfl) rfl ?_
  show AW l (pI pg 74) P kc ks 37 _ _ SHF _
  refine AW.isub (dq rfl) ?_
  show AW l (pI pg 74) P kc ks 38 _ _ SHF _
  refine AW.mmin (dq rfl) (mt_0 74 rfl) (by decide +kernel) (by decide +kernel) ?_
  show AW l (pI pg 74) P kc ks 41 [(0, .ref 1), (1, .ref 17), (2, .int (a))] [.int (miV ((Int8.ofInt 8).toInt32) (((Int8.ofInt 24).toInt32) - (a))), .int (Int32.ofInt 1), .ref 1] SHF _
  refine fw_callVI (as := [.int (Int32.ofInt 1), .int (miV ((Int8.ofInt 8).toInt32) (((Int8.ofInt 24).toInt32) - (a)))]) (dq rfl) (pg_ok.2.2.1 74 _ _ _ _ rfl) rfl (by decide +kernel) rfl rfl (c2) (fun y1 M1 e1 q1 => ?_)
  have hJ1 : ∀ e ∈ RK, M1.2.2 e.1 e.2.1 = e.2.2 := fun e he => by rw [e1]; exact hJ e he
  show AW l (pI pg 74) P kc ks 44 [(0, .ref 1), (1, .ref 17), (2, .int (a))] [.int (y1)] SHF _
  refine AW.istore_n (dq rfl) (by decide +kernel) ?_
  show AW l (pI pg 74) P kc ks 45 [(3, .int (y1)), (0, .ref 1), (1, .ref 17), (2, .int (a))] [] SHF _
  refine AW.iload_n (dq rfl) rfl ?_
  show AW l (pI pg 74) P kc ks 46 _ _ SHF _
  refine AW.iconst (dq rfl) ?_
  show AW l (pI pg 74) P kc ks 47 _ _ SHF _
  refine AW.icmp_eq (dq rfl) (tgt := 63) (by decide) (fun h3 => ?_) (fun h3 => ?_)
  · have _ := h3
    refine AW.vret (dq rfl) rfl ?_
    exact r4 y1 M1 e1 q1 h3
  · have _ := h3
    refine AW.drop (lv' := [(0, .ref 1), (1, .ref 17), (2, .int (a)), (3, .int (y1))]) (List.forall_mem_cons.mpr ⟨List.mem_of_getElem? (i := 1) rfl, List.forall_mem_cons.mpr ⟨List.mem_of_getElem? (i := 2) rfl, List.forall_mem_cons.mpr ⟨List.mem_of_getElem? (i := 3) rfl, List.forall_mem_cons.mpr ⟨List.mem_of_getElem? (i := 0) rfl, fun _ h => absurd h List.not_mem_nil⟩⟩⟩⟩) ?_
    exact k5 y1 M1 e1 q1 h3

theorem rwoB_50 {l : aL} {P : aP} {kc ks : Nat} {a b : Int32} {M : aM} (hJ : ∀ e ∈ RK, M.2.2 e.1 e.2.1 = e.2.2) (hl0 : l.1.stackTraces = false) (Q1 : Int32 → aM → Prop) (c2 : AC l (pI pg 76) (fcI M Q1) 0 0 [.ref 1] SHF M) (r4 : ∀ (y1 : Int32), ∀ (M1 : aM), ∀ (e1 : M1.2.2 = M.2.2), ∀ (q1 : Q1 y1 M1), ∀ (h3 : (y1 : Int32) = 0), P (.inl none) SHF M1) (Q5 : Int32 → aM → aM → Prop) (c6 : ∀ (y1 : Int32), ∀ (M1 : aM), ∀ (e1 : M1.2.2 = M.2.2), ∀ (q1 : Q1 y1 M1), ∀ (h3 : ¬ ((y1 : Int32) = 0)), AC l (pI pg 77) (fcV M1 (Q5 y1 M1)) 0 0 [.ref 17, .int (a), .int (b)] SHF M1) (r7 : ∀ (y1 : Int32), ∀ (M1 : aM), ∀ (e1 : M1.2.2 = M.2.2), ∀ (q1 : Q1 y1 M1), ∀ (h3 : ¬ ((y1 : Int32) = 0)), ∀ (M5 : aM), ∀ (e5 : M5.2.2 = M1.2.2), ∀ (q5 : (Q5 y1 M1) M5), P (.inl none) SHF M5) : AW l (pI pg 74) P kc ks 50 [(0, .ref 1), (1, .ref 17), (2, .int (a)), (3, .int (b))] [] SHF M := by
  refine AW.aload_n (dq rfl) rfl rfl ?_
  show AW l (pI pg 74) P kc ks 51 _ _ SHF _
  refine fw_callVI (as := []) (dq rfl) (pg_ok.2.2.1 74 _ _ _ _ rfl) rfl (by decide +kernel) rfl rfl (c2) (fun y1 M1 e1 q1 => ?_)
  have hJ1 : ∀ e ∈ RK, M1.2.2 e.1 e.2.1 = e.2.2 := fun e he => by rw [e1]; exact hJ e he
  show AW l (pI pg 74) P kc ks 54 [(0, .ref 1), (1, .ref 17), (2, .int (a)), (3, .int (b))] [.int (y1)] SHF _
  refine AW.if_eq (dq rfl) (tgt := 63) (by decide) (fun h3 => ?_) (fun h3 => ?_)
  · have _ := h3
    refine AW.vret (dq rfl) rfl ?_
    exact r4 y1 M1 e1 q1 h3
  · have _ := h3
    refine AW.aload_n (dq rfl) rfl rfl ?_
    show AW l (pI pg 74) P kc ks 58 _ _ SHF _
    refine AW.iload_n (dq rfl) rfl ?_
    show AW l (pI pg 74) P kc ks 59 _ _ SHF _
    refine AW.iload_n (dq rfl) rfl ?_
    show AW l (pI pg 74) P kc ks 60 _ _ SHF _
    refine fw_callVV (as := [.int (a), .int (b)]) (dq rfl) (pg_ok.2.2.1 74 _ _ _ _ rfl) rfl (by decide +kernel) rfl rfl (c6 y1 M1 e1 q1 h3) (fun M5 e5 q5 => ?_)
    have hJ5 : ∀ e ∈ RK, M5.2.2 e.1 e.2.1 = e.2.2 := fun e he => by rw [e5]; exact hJ1 e he
    show AW l (pI pg 74) P kc ks 63 [(0, .ref 1), (1, .ref 17), (2, .int (a)), (3, .int (b))] [] SHF _
    refine AW.vret (dq rfl) rfl ?_
    exact r7 y1 M1 e1 q1 h3 M5 e5 q5

theorem rcaB_0 {l : aL} {P : aP} {kc ks : Nat} {M : aM} (hJ : ∀ e ∈ RK, M.2.2 e.1 e.2.1 = e.2.2) (hl0 : l.1.stackTraces = false) (Q1 : Int32 → aM → Prop) (c2 : AC l (pI pg 79) (fcI M Q1) 0 0 [.ref 1, .ref 17] SHF M) (k4 : ∀ (y1 : Int32), ∀ (M1 : aM), ∀ (e1 : M1.2.2 = M.2.2), ∀ (q1 : Q1 y1 M1), ∀ (h3 : ¬ (y1 : Int32) = (Int32.ofInt (-1) : Int32)), AW l (pI pg 78) P kc ks 12 [(0, .ref 1), (1, .ref 17), (2, .int (y1))] [] SHF M1) (r5 : ∀ (y1 : Int32), ∀ (M1 : aM), ∀ (e1 : M1.2.2 = M.2.2), ∀ (q1 : Q1 y1 M1), ∀ (h3 : (y1 : Int32) = (Int32.ofInt (-1) : Int32)), P (.inl none) SHF M1) : AW l (pI pg 78) P kc ks 0 [(0, .ref 1), (1, .ref 17)] [] SHF M := by
  refine AW.aload_n (dq rfl) rfl rfl ?_
  show AW l (pI pg 78) P kc ks 1 _ _ SHF _
  refine AW.aload_n (dq rfl) rfl rfl ?_
  show AW l (pI pg 78) P kc ks 2 _ _ SHF _
  refine fw_callVI (as := [.ref 17]) (dq rfl) (pg_ok.2.2.1 78 _ _ _ _ rfl) rfl (by decide +kernel) rfl rfl (c2) (fun y1 M1 e1 q1 => ?_)
  have hJ1 : ∀ e ∈ RK, M1.2.2 e.1 e.2.1 = e.2.2 := fun e he => by rw [e1]; exact hJ e he
  show AW l (pI pg 78) P kc ks 5 [(0, .ref 1), (1, .ref 17)] [.int (y1)] SHF _
  refine AW.istore_n (dq rfl) (by decide +kernel) ?_
  show AW l (pI pg 78) P kc ks 6 [(2, .int (y1)), (0, .ref 1), (1, .ref 17)] [] SHF _
  refine AW.iload_n (dq rfl) rfl ?_
  show AW l (pI pg 78) P kc ks 7 _ _ SHF _
  refine AW.iconst (dq rfl) ?_
  show AW l (pI pg 78) P kc ks 8 _ _ SHF _
  refine AW.icmp_ne (dq rfl) (tgt := 12) (by decide) (fun h3 => ?_) (fun h3 => ?_)
  · have _ := h3
    refine AW.drop (lv' := [(0, .ref 1), (1, .ref 17), (2, .int (y1))]) (List.forall_mem_cons.mpr ⟨List.mem_of_getElem? (i := 1) rfl, List.forall_mem_cons.mpr ⟨List.mem_of_getElem? (i := 2) rfl, List.forall_mem_cons.mpr ⟨List.mem_of_getElem? (i := 0) rfl, fun _ h => absurd h List.not_mem_nil⟩⟩⟩) ?_
    exact k4 y1 M1 e1 q1 h3
  · have _ := h3
    refine AW.vret (dq rfl) rfl ?_
    exact r5 y1 M1 e1 q1 h3

theorem rcaB_12 {l : aL} {P : aP} {kc ks : Nat} {a : Int32} {M : aM} (hJ : ∀ e ∈ RK, M.2.2 e.1 e.2.1 = e.2.2) (hl0 : l.1.stackTraces = false) (Q1 : Int32 → aM → Prop) (c2 : AC l (pI pg 80) (fcI M Q1) 0 0 [.ref 1, .ref 17, .int (a)] SHF M) (k4 : ∀ (y1 : Int32), ∀ (M1 : aM), ∀ (e1 : M1.2.2 = M.2.2), ∀ (q1 : Q1 y1 M1), ∀ (h3 : ¬ (y1 : Int32) = (Int32.ofInt (-1) : Int32)), AW l (pI pg 78) P kc ks 25 [(0, .ref 1), (1, .ref 17), (2, .int (a)), (3, .int (y1))] [] SHF M1) (r5 : ∀ (y1 : Int32), ∀ (M1 : aM), ∀ (e1 : M1.2.2 = M.2.2), ∀ (q1 : Q1 y1 M1), ∀ (h3 : (y1 : Int32) = (Int32.ofInt (-1) : Int32)), P (.inl none) SHF M1) : AW l (pI pg 78) P kc ks 12 [(0, .ref 1), (1, .ref 17), (2, .int (a))] [] SHF M := by
  refine AW.aload_n (dq rfl) rfl rfl ?_
  show AW l (pI pg 78) P kc ks 13 _ _ SHF _
  refine AW.aload_n (dq rfl) rfl rfl ?_
  show AW l (pI pg 78) P kc ks 14 _ _ SHF _
  refine AW.iload_n (dq rfl) rfl ?_
  show AW l (pI pg 78) P kc ks 15 _ _ SHF _
  refine fw_callVI (as := [.ref 17, .int (a)]) (dq rfl) (pg_ok.2.2.1 78 _ _ _ _ rfl) rfl (by decide +kernel) rfl rfl (c2) (fun y1 M1 e1 q1 => ?_)
  have hJ1 : ∀ e ∈ RK, M1.2.2 e.1 e.2.1 = e.2.2 := fun e he => by rw [e1]; exact hJ e he
  show AW l (pI pg 78) P kc ks 18 [(0, .ref 1), (1, .ref 17), (2, .int (a))] [.int (y1)] SHF _
  refine AW.istore_n (dq rfl) (by decide +kernel) ?_
  show AW l (pI pg 78) P kc ks 19 [(3, .int (y1)), (0, .ref 1), (1, .ref 17), (2, .int (a))] [] SHF _
  refine AW.iload_n (dq rfl) rfl ?_
  show AW l (pI pg 78) P kc ks 20 _ _ SHF _
  refine AW.iconst (dq rfl) ?_
  show AW l (pI pg 78) P kc ks 21 _ _ SHF _
  refine AW.icmp_ne (dq rfl) (tgt := 25) (by decide) (fun h3 => ?_) (fun h3 => ?_)
  · have _ := h3
    refine AW.drop (lv' := [(0, .ref 1), (1, .ref 17), (2, .int (a)), (3, .int (y1))]) (List.forall_mem_cons.mpr ⟨List.mem_of_getElem? (i := 1) rfl, List.forall_mem_cons.mpr ⟨List.mem_of_getElem? (i := 2) rfl, List.forall_mem_cons.mpr ⟨List.mem_of_getElem? (i := 3) rfl, List.forall_mem_cons.mpr ⟨List.mem_of_getElem? (i := 0) rfl, fun _ h => absurd h List.not_mem_nil⟩⟩⟩⟩) ?_
    exact k4 y1 M1 e1 q1 h3
  · have _ := h3
    refine AW.vret (dq rfl) rfl ?_
    exact r5 y1 M1 e1 q1 h3

theorem rcaB_25 {l : aL} {P : aP} {kc ks : Nat} {a b : Int32} {M : aM} (hJ : ∀ e ∈ RK, M.2.2 e.1 e.2.1 = e.2.2) (hl0 : l.1.stackTraces = false) (Q1 : Int32 → aM → Prop) (c2 : AC l (pI pg 67) (fcI M Q1) 0 0 [.ref 1, .int (Int32.ofInt 1), .int ((Int8.ofInt 9).toInt32)] SHF M) (r4 : ∀ (y1 : Int32), ∀ (M1 : aM), ∀ (e1 : M1.2.2 = M.2.2), ∀ (q1 : Q1 y1 M1), ∀ (h3 : (y1 : Int32) = (Int32.ofInt (-1) : Int32)), P (.inl none) SHF M1) (k5 : ∀ (y1 : Int32), ∀ (M1 : aM), ∀ (e1 : M1.2.2 = M.2.2), ∀ (q1 : Q1 y1 M1), ∀ (h3 : ¬ ((y1 : Int32) = (Int32.ofInt (-1) : Int32))), AW l (pI pg 78) P kc ks 40 [(0, .ref 1), (1, .ref 17), (2, .int (a)), (3, .int (b)), (4, .int (y1))] [] SHF M1) : AW l (pI pg 78) P kc ks 25 [(0, .ref 1), (1, .ref 17), (2, .int (a)), (3, .int (b))] [] SHF M := by
  refine AW.aload_n (dq rfl) rfl rfl ?_
  show AW l (pI pg 78) P kc ks 26 _ _ SHF _
  refine AW.iconst (dq rfl) ?_
  show AW l (pI pg 78) P kc ks 27 _ _ SHF _
  refine AW.bipush (dq rfl) ?_
  show AW l (pI pg 78) P kc ks 29 _ _ SHF _
  refine fw_callVI (as := [.int (Int32.ofInt 1), .int ((Int8.ofInt 9).toInt32)]) (dq rfl) (pg_ok.2.2.1 78 _ _ _ _ rfl) rfl (by decide +kernel) rfl rfl (c2) (fun y1 M1 e1 q1 => ?_)
  have hJ1 : ∀ e ∈ RK, M1.2.2 e.1 e.2.1 = e.2.2 := fun e he => by rw [e1]; exact hJ e he
  show AW l (pI pg 78) P kc ks 32 [(0, .ref 1), (1, .ref 17), (2, .int (a)), (3, .int (b))] [.int (y1)] SHF _
  refine AW.istore (dq rfl) (by decide +kernel) ?_
  show AW l (pI pg 78) P kc ks 34 [(4, .int (y1)), (0, .ref 1), (1, .ref 17), (2, .int (a)), (3, .int (b))] [] SHF _
  refine AW.iload (dq rfl) rfl ?_
  show AW l (pI pg 78) P kc ks 36 _ _ SHF _
  refine AW.iconst (dq rfl) ?_
  show AW l (pI pg 78) P kc ks 37 _ _ SHF _
  refine AW.icmp_eq (dq rfl) (tgt := 55) (by decide) (fun h3 => ?_) (fun h3 => ?_)
  · have _ := h3
    refine AW.vret (dq rfl) rfl ?_
    exact r4 y1 M1 e1 q1 h3
  · have _ := h3
    refine AW.drop (lv' := [(0, .ref 1), (1, .ref 17), (2, .int (a)), (3, .int (b)), (4, .int (y1))]) (List.forall_mem_cons.mpr ⟨List.mem_of_getElem? (i := 1) rfl, List.forall_mem_cons.mpr ⟨List.mem_of_getElem? (i := 2) rfl, List.forall_mem_cons.mpr ⟨List.mem_of_getElem? (i := 3) rfl, List.forall_mem_cons.mpr ⟨List.mem_of_getElem? (i := 4) rfl, List.forall_mem_cons.mpr ⟨List.mem_of_getElem? (i := 0) rfl, fun _ h => absurd h List.not_mem_nil⟩⟩⟩⟩⟩) ?_
    exact k5 y1 M1 e1 q1 h3

theorem rcaB_40 {l : aL} {P : aP} {kc ks : Nat} {a b c : Int32} {M : aM} (hJ : ∀ e ∈ RK, M.2.2 e.1 e.2.1 = e.2.2) (hl0 : l.1.stackTraces = false) (Q1 : Int32 → aM → Prop) (c2 : AC l (pI pg 76) (fcI M Q1) 0 0 [.ref 1] SHF M) (r4 : ∀ (y1 : Int32), ∀ (M1 : aM), ∀ (e1 : M1.2.2 = M.2.2), ∀ (q1 : Q1 y1 M1), ∀ (h3 : (y1 : Int32) = 0), P (.inl none) SHF M1) (Q5 : Int32 → aM → aM → Prop) (c6 : ∀ (y1 : Int32), ∀ (M1 : aM), ∀ (e1 : M1.2.2 = M.2.2), ∀ (q1 : Q1 y1 M1), ∀ (h3 : ¬ ((y1 : Int32) = 0)), AC l (pI pg 81) (fcV M1 (Q5 y1 M1)) 0 0 [.ref 17, .int (a), .int (b), .int (c)] SHF M1) (r7 : ∀ (y1 : Int32), ∀ (M1 : aM), ∀ (e1 : M1.2.2 = M.2.2), ∀ (q1 : Q1 y1 M1), ∀ (h3 : ¬ ((y1 : Int32) = 0)), ∀ (M5 : aM), ∀ (e5 : M5.2.2 = M1.2.2), ∀ (q5 : (Q5 y1 M1) M5), P (.inl none) SHF M5) : AW l (pI pg 78) P kc ks 40 [(0, .ref 1), (1, .ref 17), (2, .int (a)), (3, .int (b)), (4, .int (c))] [] SHF M := by
  refine AW.aload_n (dq rfl) rfl rfl ?_
  show AW l (pI pg 78) P kc ks 41 _ _ SHF _
  refine fw_callVI (as := []) (dq rfl) (pg_ok.2.2.1 78 _ _ _ _ rfl) rfl (by decide +kernel) rfl rfl (c2) (fun y1 M1 e1 q1 => ?_)
  have hJ1 : ∀ e ∈ RK, M1.2.2 e.1 e.2.1 = e.2.2 := fun e he => by rw [e1]; exact hJ e he
  show AW l (pI pg 78) P kc ks 44 [(0, .ref 1), (1, .ref 17), (2, .int (a)), (3, .int (b)), (4, .int (c))] [.int (y1)] SHF _
  refine AW.if_eq (dq rfl) (tgt := 55) (by decide) (fun h3 => ?_) (fun h3 => ?_)
  · have _ := h3
    refine AW.vret (dq rfl) rfl ?_
    exact r4 y1 M1 e1 q1 h3
  · have _ := h3
    refine AW.aload_n (dq rfl) rfl rfl ?_
    show AW l (pI pg 78) P kc ks 48 _ _ SHF _
    refine AW.iload_n (dq rfl) rfl ?_
    show AW l (pI pg 78) P kc ks 49 _ _ SHF _
    refine AW.iload_n (dq rfl) rfl ?_
    show AW l (pI pg 78) P kc ks 50 _ _ SHF _
    refine AW.iload (dq rfl) rfl ?_
    show AW l (pI pg 78) P kc ks 52 _ _ SHF _
    refine fw_callVV (as := [.int (a), .int (b), .int (c)]) (dq rfl) (pg_ok.2.2.1 78 _ _ _ _ rfl) rfl (by decide +kernel) rfl rfl (c6 y1 M1 e1 q1 h3) (fun M5 e5 q5 => ?_)
    have hJ5 : ∀ e ∈ RK, M5.2.2 e.1 e.2.1 = e.2.2 := fun e he => by rw [e5]; exact hJ1 e he
    show AW l (pI pg 78) P kc ks 55 [(0, .ref 1), (1, .ref 17), (2, .int (a)), (3, .int (b)), (4, .int (c))] [] SHF _
    refine AW.vret (dq rfl) rfl ?_
    exact r7 y1 M1 e1 q1 h3 M5 e5 q5

theorem rlrB_0 {l : aL} {P : aP} {kc ks : Nat} {M : aM} (hJ : ∀ e ∈ RK, M.2.2 e.1 e.2.1 = e.2.2) (hl0 : l.1.stackTraces = false) (Q2 : Int32 → aM → Prop) (c3 : ∀ (h1 : (M.1 17 2 : Int32) < ((Int8.ofInt 8).toInt32 : Int32)), AC l (pI pg 79) (fcI M Q2) 0 0 [.ref 1, .ref 17] SHF M) (k5 : ∀ (h1 : (M.1 17 2 : Int32) < ((Int8.ofInt 8).toInt32 : Int32)), ∀ (y2 : Int32), ∀ (M2 : aM), ∀ (e2 : M2.2.2 = M.2.2), ∀ (q2 : Q2 y2 M2), ∀ (h4 : ¬ (y2 : Int32) = (Int32.ofInt (-1) : Int32)), AW l (pI pg 82) P kc ks 28 [(0, .ref 1), (1, .ref 17), (2, .int (y2))] [] SHF M2) (r6 : ∀ (h1 : (M.1 17 2 : Int32) < ((Int8.ofInt 8).toInt32 : Int32)), ∀ (y2 : Int32), ∀ (M2 : aM), ∀ (e2 : M2.2.2 = M.2.2), ∀ (q2 : Q2 y2 M2), ∀ (h4 : (y2 : Int32) = (Int32.ofInt (-1) : Int32)), P (.inl none) SHF M2) (r8 : ∀ (h1 : ¬ ((M.1 17 2 : Int32) < ((Int8.ofInt 8).toInt32 : Int32))), P (.inl none) SHF (rfM M (Int32.ofInt 2))) : AW l (pI pg 82) P kc ks 0 [(0, .ref 1), (1, .ref 17)] [] SHF M := by
  refine AW.aload_n (dq rfl) rfl rfl ?_
  show AW l (pI pg 82) P kc ks 1 _ _ SHF _
  refine fw_get (dq rfl) (pg_ok.2.1 82 _ _ _ _ rfl) rfl (v := .int (M.1 17 2)) rfl ?_
  show AW l (pI pg 82) P kc ks 4 _ _ SHF _
  refine AW.bipush (dq rfl) ?_
  show AW l (pI pg 82) P kc ks 6 _ _ SHF _
  refine AW.icmp_lt (dq rfl) (tgt := 16) (by decide) (fun h1 => ?_) (fun h1 => ?_)
  · have _ := h1
    refine AW.aload_n (dq rfl) rfl rfl ?_
    show AW l (pI pg 82) P kc ks 17 _ _ SHF _
    refine AW.aload_n (dq rfl) rfl rfl ?_
    show AW l (pI pg 82) P kc ks 18 _ _ SHF _
    refine fw_callVI (as := [.ref 17]) (dq rfl) (pg_ok.2.2.1 82 _ _ _ _ rfl) rfl (by decide +kernel) rfl rfl (c3 h1) (fun y2 M2 e2 q2 => ?_)
    have hJ2 : ∀ e ∈ RK, M2.2.2 e.1 e.2.1 = e.2.2 := fun e he => by rw [e2]; exact hJ e he
    show AW l (pI pg 82) P kc ks 21 [(0, .ref 1), (1, .ref 17)] [.int (y2)] SHF _
    refine AW.istore_n (dq rfl) (by decide +kernel) ?_
    show AW l (pI pg 82) P kc ks 22 [(2, .int (y2)), (0, .ref 1), (1, .ref 17)] [] SHF _
    refine AW.iload_n (dq rfl) rfl ?_
    show AW l (pI pg 82) P kc ks 23 _ _ SHF _
    refine AW.iconst (dq rfl) ?_
    show AW l (pI pg 82) P kc ks 24 _ _ SHF _
    refine AW.icmp_ne (dq rfl) (tgt := 28) (by decide) (fun h4 => ?_) (fun h4 => ?_)
    · have _ := h4
      refine AW.drop (lv' := [(0, .ref 1), (1, .ref 17), (2, .int (y2))]) (List.forall_mem_cons.mpr ⟨List.mem_of_getElem? (i := 1) rfl, List.forall_mem_cons.mpr ⟨List.mem_of_getElem? (i := 2) rfl, List.forall_mem_cons.mpr ⟨List.mem_of_getElem? (i := 0) rfl, fun _ h => absurd h List.not_mem_nil⟩⟩⟩) ?_
      exact k5 h1 y2 M2 e2 q2 h4
    · have _ := h4
      refine AW.vret (dq rfl) rfl ?_
      exact r6 h1 y2 M2 e2 q2 h4
  · have _ := h1
    refine AW.aload_n (dq rfl) rfl rfl ?_
    show AW l (pI pg 82) P kc ks 10 _ _ SHF _
    refine AW.iconst (dq rfl) ?_
    show AW l (pI pg 82) P kc ks 11 _ _ SHF _
    refine fw_callVI (as := [.int (Int32.ofInt 2)]) (dq rfl) (pg_ok.2.2.1 82 _ _ _ _ rfl) rfl (by decide +kernel) rfl rfl (ref_c hl0 (fun e he => hJ e he)) (fun y7 M7 e7 q7 => ?_)
    obtain ⟨rfl, rfl⟩ := q7
    show AW l (pI pg 82) P kc ks 14 [(0, .ref 1), (1, .ref 17)] [.int (Int32.ofInt (-1))] SHF _
    refine AW.pop (dq rfl) rfl ?_
    show AW l (pI pg 82) P kc ks 15 _ _ SHF _
    refine AW.vret (dq rfl) rfl ?_
    exact r8 h1

theorem rlrB_28 {l : aL} {P : aP} {kc ks : Nat} {a : Int32} {M : aM} (hJ : ∀ e ∈ RK, M.2.2 e.1 e.2.1 = e.2.2) (hl0 : l.1.stackTraces = false) (Q1 : Int32 → aM → Prop) (c2 : AC l (pI pg 80) (fcI M Q1) 0 0 [.ref 1, .ref 17, .int (a)] SHF M) (k4 : ∀ (y1 : Int32), ∀ (M1 : aM), ∀ (e1 : M1.2.2 = M.2.2), ∀ (q1 : Q1 y1 M1), ∀ (h3 : ¬ (y1 : Int32) = (Int32.ofInt (-1) : Int32)), AW l (pI pg 82) P kc ks 41 [(0, .ref 1), (1, .ref 17), (2, .int (a)), (3, .int (y1))] [] SHF M1) (r5 : ∀ (y1 : Int32), ∀ (M1 : aM), ∀ (e1 : M1.2.2 = M.2.2), ∀ (q1 : Q1 y1 M1), ∀ (h3 : (y1 : Int32) = (Int32.ofInt (-1) : Int32)), P (.inl none) SHF M1) : AW l (pI pg 82) P kc ks 28 [(0, .ref 1), (1, .ref 17), (2, .int (a))] [] SHF M := by
  refine AW.aload_n (dq rfl) rfl rfl ?_
  show AW l (pI pg 82) P kc ks 29 _ _ SHF _
  refine AW.aload_n (dq rfl) rfl rfl ?_
  show AW l (pI pg 82) P kc ks 30 _ _ SHF _
  refine AW.iload_n (dq rfl) rfl ?_
  show AW l (pI pg 82) P kc ks 31 _ _ SHF _
  refine fw_callVI (as := [.ref 17, .int (a)]) (dq rfl) (pg_ok.2.2.1 82 _ _ _ _ rfl) rfl (by decide +kernel) rfl rfl (c2) (fun y1 M1 e1 q1 => ?_)
  have hJ1 : ∀ e ∈ RK, M1.2.2 e.1 e.2.1 = e.2.2 := fun e he => by rw [e1]; exact hJ e he
  show AW l (pI pg 82) P kc ks 34 [(0, .ref 1), (1, .ref 17), (2, .int (a))] [.int (y1)] SHF _
  refine AW.istore_n (dq rfl) (by decide +kernel) ?_
  show AW l (pI pg 82) P kc ks 35 [(3, .int (y1)), (0, .ref 1), (1, .ref 17), (2, .int (a))] [] SHF _
  refine AW.iload_n (dq rfl) rfl ?_
  show AW l (pI pg 82) P kc ks 36 _ _ SHF _
  refine AW.iconst (dq rfl) ?_
  show AW l (pI pg 82) P kc ks 37 _ _ SHF _
  refine AW.icmp_ne (dq rfl) (tgt := 41) (by decide) (fun h3 => ?_) (fun h3 => ?_)
  · have _ := h3
    refine AW.drop (lv' := [(0, .ref 1), (1, .ref 17), (2, .int (a)), (3, .int (y1))]) (List.forall_mem_cons.mpr ⟨List.mem_of_getElem? (i := 1) rfl, List.forall_mem_cons.mpr ⟨List.mem_of_getElem? (i := 2) rfl, List.forall_mem_cons.mpr ⟨List.mem_of_getElem? (i := 3) rfl, List.forall_mem_cons.mpr ⟨List.mem_of_getElem? (i := 0) rfl, fun _ h => absurd h List.not_mem_nil⟩⟩⟩⟩) ?_
    exact k4 y1 M1 e1 q1 h3
  · have _ := h3
    refine AW.vret (dq rfl) rfl ?_
    exact r5 y1 M1 e1 q1 h3

theorem rlrB_41 {l : aL} {P : aP} {kc ks : Nat} {a b : Int32} {M : aM} (hJ : ∀ e ∈ RK, M.2.2 e.1 e.2.1 = e.2.2) (hl0 : l.1.stackTraces = false) (Q1 : Int32 → aM → Prop) (c2 : AC l (pI pg 67) (fcI M Q1) 0 0 [.ref 1, .int (Int32.ofInt 1), .int ((Int8.ofInt 9).toInt32)] SHF M) (k4 : ∀ (y1 : Int32), ∀ (M1 : aM), ∀ (e1 : M1.2.2 = M.2.2), ∀ (q1 : Q1 y1 M1), ∀ (h3 : ¬ (y1 : Int32) = (Int32.ofInt (-1) : Int32)), AW l (pI pg 82) P kc ks 57 [(0, .ref 1), (1, .ref 17), (2, .int (a)), (3, .int (b)), (4, .int (y1))] [] SHF M1) (r5 : ∀ (y1 : Int32), ∀ (M1 : aM), ∀ (e1 : M1.2.2 = M.2.2), ∀ (q1 : Q1 y1 M1), ∀ (h3 : (y1 : Int32) = (Int32.ofInt (-1) : Int32)), P (.inl none) SHF M1) : AW l (pI pg 82) P kc ks 41 [(0, .ref 1), (1, .ref 17), (2, .int (a)), (3, .int (b))] [] SHF M := by
  refine AW.aload_n (dq rfl) rfl rfl ?_
  show AW l (pI pg 82) P kc ks 42 _ _ SHF _
  refine AW.iconst (dq rfl) ?_
  show AW l (pI pg 82) P kc ks 43 _ _ SHF _
  refine AW.bipush (dq rfl) ?_
  show AW l (pI pg 82) P kc ks 45 _ _ SHF _
  refine fw_callVI (as := [.int (Int32.ofInt 1), .int ((Int8.ofInt 9).toInt32)]) (dq rfl) (pg_ok.2.2.1 82 _ _ _ _ rfl) rfl (by decide +kernel) rfl rfl (c2) (fun y1 M1 e1 q1 => ?_)
  have hJ1 : ∀ e ∈ RK, M1.2.2 e.1 e.2.1 = e.2.2 := fun e he => by rw [e1]; exact hJ e he
  show AW l (pI pg 82) P kc ks 48 [(0, .ref 1), (1, .ref 17), (2, .int (a)), (3, .int (b))] [.int (y1)] SHF _
  refine AW.istore (dq rfl) (by decide +kernel) ?_
  show AW l (pI pg 82) P kc ks 50 [(4, .int (y1)), (0, .ref 1), (1, .ref 17), (2, .int (a)), (3, .int (b))] [] SHF _
  refine AW.iload (dq rfl) rfl ?_
  show AW l (pI pg 82) P kc ks 52 _ _ SHF _
  refine AW.iconst (dq rfl) ?_
  show AW l (pI pg 82) P kc ks 53 _ _ SHF _
  refine AW.icmp_ne (dq rfl) (tgt := 57) (by decide) (fun h3 => ?_) (fun h3 => ?_)
  · have _ := h3
    refine AW.drop (lv' := [(0, .ref 1), (1, .ref 17), (2, .int (a)), (3, .int (b)), (4, .int (y1))]) (List.forall_mem_cons.mpr ⟨List.mem_of_getElem? (i := 1) rfl, List.forall_mem_cons.mpr ⟨List.mem_of_getElem? (i := 2) rfl, List.forall_mem_cons.mpr ⟨List.mem_of_getElem? (i := 3) rfl, List.forall_mem_cons.mpr ⟨List.mem_of_getElem? (i := 4) rfl, List.forall_mem_cons.mpr ⟨List.mem_of_getElem? (i := 0) rfl, fun _ h => absurd h List.not_mem_nil⟩⟩⟩⟩⟩) ?_
    exact k4 y1 M1 e1 q1 h3
  · have _ := h3
    refine AW.vret (dq rfl) rfl ?_
    exact r5 y1 M1 e1 q1 h3

theorem rlrB_57 {l : aL} {P : aP} {kc ks : Nat} {a b c : Int32} {M : aM} (hJ : ∀ e ∈ RK, M.2.2 e.1 e.2.1 = e.2.2) (hl0 : l.1.stackTraces = false) (Q1 : Int32 → aM → Prop) (c2 : AC l (pI pg 67) (fcI M Q1) 0 0 [.ref 1, .int (Int32.ofInt 1), .int ((Int8.ofInt 99).toInt32)] SHF M) (r4 : ∀ (y1 : Int32), ∀ (M1 : aM), ∀ (e1 : M1.2.2 = M.2.2), ∀ (q1 : Q1 y1 M1), ∀ (h3 : (y1 : Int32) = (Int32.ofInt (-1) : Int32)), P (.inl none) SHF M1) (k5 : ∀ (y1 : Int32), ∀ (M1 : aM), ∀ (e1 : M1.2.2 = M.2.2), ∀ (q1 : Q1 y1 M1), ∀ (h3 : ¬ ((y1 : Int32) = (Int32.ofInt (-1) : Int32))), AW l (pI pg 82) P kc ks 72 [(0, .ref 1), (1, .ref 17), (2, .int (a)), (3, .int (b)), (4, .int (c)), (5, .int (y1))] [] SHF M1) : AW l (pI pg 82) P kc ks 57 [(0, .ref 1), (1, .ref 17), (2, .int (a)), (3, .int (b)), (4, .int (c))] [] SHF M := by
  refine AW.aload_n (dq rfl) rfl rfl ?_
  show AW l (pI pg 82) P kc ks 58 _ _ SHF _
  refine AW.iconst (dq rfl) ?_
  show AW l (pI pg 82) P kc ks 59 _ _ SHF _
  refine AW.bipush (dq rfl) ?_
  show AW l (pI pg 82) P kc ks 61 _ _ SHF _
  refine fw_callVI (as := [.int (Int32.ofInt 1), .int ((Int8.ofInt 99).toInt32)]) (dq rfl) (pg_ok.2.2.1 82 _ _ _ _ rfl) rfl (by decide +kernel) rfl rfl (c2) (fun y1 M1 e1 q1 => ?_)
  have hJ1 : ∀ e ∈ RK, M1.2.2 e.1 e.2.1 = e.2.2 := fun e he => by rw [e1]; exact hJ e he
  show AW l (pI pg 82) P kc ks 64 [(0, .ref 1), (1, .ref 17), (2, .int (a)), (3, .int (b)), (4, .int (c))] [.int (y1)] SHF _
  refine AW.istore (dq rfl) (by decide +kernel) ?_
  show AW l (pI pg 82) P kc ks 66 [(5, .int (y1)), (0, .ref 1), (1, .ref 17), (2, .int (a)), (3, .int (b)), (4, .int (c))] [] SHF _
  refine AW.iload (dq rfl) rfl ?_
  show AW l (pI pg 82) P kc ks 68 _ _ SHF _
  refine AW.iconst (dq rfl) ?_
  show AW l (pI pg 82) P kc ks 69 _ _ SHF _
  refine AW.icmp_eq (dq rfl) (tgt := 89) (by decide) (fun h3 => ?_) (fun h3 => ?_)
  · have _ := h3
    refine AW.vret (dq rfl) rfl ?_
    exact r4 y1 M1 e1 q1 h3
  · have _ := h3
    refine AW.drop (lv' := [(0, .ref 1), (1, .ref 17), (2, .int (a)), (3, .int (b)), (4, .int (c)), (5, .int (y1))]) (List.forall_mem_cons.mpr ⟨List.mem_of_getElem? (i := 1) rfl, List.forall_mem_cons.mpr ⟨List.mem_of_getElem? (i := 2) rfl, List.forall_mem_cons.mpr ⟨List.mem_of_getElem? (i := 3) rfl, List.forall_mem_cons.mpr ⟨List.mem_of_getElem? (i := 4) rfl, List.forall_mem_cons.mpr ⟨List.mem_of_getElem? (i := 5) rfl, List.forall_mem_cons.mpr ⟨List.mem_of_getElem? (i := 0) rfl, fun _ h => absurd h List.not_mem_nil⟩⟩⟩⟩⟩⟩) ?_
    exact k5 y1 M1 e1 q1 h3

theorem rlrB_72 {l : aL} {P : aP} {kc ks : Nat} {a b c d : Int32} {M : aM} (hJ : ∀ e ∈ RK, M.2.2 e.1 e.2.1 = e.2.2) (hl0 : l.1.stackTraces = false) (Q1 : Int32 → aM → Prop) (c2 : AC l (pI pg 76) (fcI M Q1) 0 0 [.ref 1] SHF M) (r4 : ∀ (y1 : Int32), ∀ (M1 : aM), ∀ (e1 : M1.2.2 = M.2.2), ∀ (q1 : Q1 y1 M1), ∀ (h3 : (y1 : Int32) = 0), P (.inl none) SHF M1) (Q5 : Int32 → aM → aM → Prop) (c6 : ∀ (y1 : Int32), ∀ (M1 : aM), ∀ (e1 : M1.2.2 = M.2.2), ∀ (q1 : Q1 y1 M1), ∀ (h3 : ¬ ((y1 : Int32) = 0)), AC l (pI pg 83) (fcV M1 (Q5 y1 M1)) 0 0 [.ref 17, .int (a), .int (b), .int (c), .int (d)] SHF M1) (r7 : ∀ (y1 : Int32), ∀ (M1 : aM), ∀ (e1 : M1.2.2 = M.2.2), ∀ (q1 : Q1 y1 M1), ∀ (h3 : ¬ ((y1 : Int32) = 0)), ∀ (M5 : aM), ∀ (e5 : M5.2.2 = M1.2.2), ∀ (q5 : (Q5 y1 M1) M5), P (.inl none) SHF M5) : AW l (pI pg 82) P kc ks 72 [(0, .ref 1), (1, .ref 17), (2, .int (a)), (3, .int (b)), (4, .int (c)), (5, .int (d))] [] SHF M := by
  refine AW.aload_n (dq rfl) rfl rfl ?_
  show AW l (pI pg 82) P kc ks 73 _ _ SHF _
  refine fw_callVI (as := []) (dq rfl) (pg_ok.2.2.1 82 _ _ _ _ rfl) rfl (by decide +kernel) rfl rfl (c2) (fun y1 M1 e1 q1 => ?_)
  have hJ1 : ∀ e ∈ RK, M1.2.2 e.1 e.2.1 = e.2.2 := fun e he => by rw [e1]; exact hJ e he
  show AW l (pI pg 82) P kc ks 76 [(0, .ref 1), (1, .ref 17), (2, .int (a)), (3, .int (b)), (4, .int (c)), (5, .int (d))] [.int (y1)] SHF _
  refine AW.if_eq (dq rfl) (tgt := 89) (by decide) (fun h3 => ?_) (fun h3 => ?_)
  · have _ := h3
    refine AW.vret (dq rfl) rfl ?_
    exact r4 y1 M1 e1 q1 h3
  · have _ := h3
    refine AW.aload_n (dq rfl) rfl rfl ?_
    show AW l (pI pg 82) P kc ks 80 _ _ SHF _
    refine AW.iload_n (dq rfl) rfl ?_
    show AW l (pI pg 82) P kc ks 81 _ _ SHF _
    refine AW.iload_n (dq rfl) rfl ?_
    show AW l (pI pg 82) P kc ks 82 _ _ SHF _
    refine AW.iload (dq rfl) rfl ?_
    show AW l (pI pg 82) P kc ks 84 _ _ SHF _
    refine AW.iload (dq rfl) rfl ?_
    show AW l (pI pg 82) P kc ks 86 _ _ SHF _
    refine fw_callVV (as := [.int (a), .int (b), .int (c), .int (d)]) (dq rfl) (pg_ok.2.2.1 82 _ _ _ _ rfl) rfl (by decide +kernel) rfl rfl (c6 y1 M1 e1 q1 h3) (fun M5 e5 q5 => ?_)
    have hJ5 : ∀ e ∈ RK, M5.2.2 e.1 e.2.1 = e.2.2 := fun e he => by rw [e5]; exact hJ1 e he
    show AW l (pI pg 82) P kc ks 89 [(0, .ref 1), (1, .ref 17), (2, .int (a)), (3, .int (b)), (4, .int (c)), (5, .int (d))] [] SHF _
    refine AW.vret (dq rfl) rfl ?_
    exact r7 y1 M1 e1 q1 h3 M5 e5 q5

theorem rfoB_0 {l : aL} {P : aP} {kc ks : Nat} {M : aM} (hJ : ∀ e ∈ RK, M.2.2 e.1 e.2.1 = e.2.2) (hl0 : l.1.stackTraces = false) (Q2 : Int32 → aM → Prop) (c3 : ∀ (h1 : (M.1 17 3 : Int32) = 0), AC l (pI pg 67) (fcI M Q2) 0 0 [.ref 1, .int (Int32.ofInt 1), .int ((Int8.ofInt 50).toInt32)] SHF M) (r5 : ∀ (h1 : (M.1 17 3 : Int32) = 0), ∀ (y2 : Int32), ∀ (M2 : aM), ∀ (e2 : M2.2.2 = M.2.2), ∀ (q2 : Q2 y2 M2), ∀ (h4 : (y2 : Int32) = (Int32.ofInt (-1) : Int32)), P (.inl none) SHF M2) (k6 : ∀ (h1 : (M.1 17 3 : Int32) = 0), ∀ (y2 : Int32), ∀ (M2 : aM), ∀ (e2 : M2.2.2 = M.2.2), ∀ (q2 : Q2 y2 M2), ∀ (h4 : ¬ ((y2 : Int32) = (Int32.ofInt (-1) : Int32))), AW l (pI pg 84) P kc ks 27 [(0, .ref 1), (1, .ref 17), (2, .int (y2))] [] SHF M2) (r8 : ∀ (h1 : ¬ ((M.1 17 3 : Int32) = 0)), P (.inl none) SHF (rfM M (Int32.ofInt 5))) : AW l (pI pg 84) P kc ks 0 [(0, .ref 1), (1, .ref 17)] [] SHF M := by
  refine AW.aload_n (dq rfl) rfl rfl ?_
  show AW l (pI pg 84) P kc ks 1 _ _ SHF _
  refine fw_get (dq rfl) (pg_ok.2.1 84 _ _ _ _ rfl) rfl (v := .int (M.1 17 3)) rfl ?_
  show AW l (pI pg 84) P kc ks 4 _ _ SHF _
  refine AW.if_eq (dq rfl) (tgt := 14) (by decide) (fun h1 => ?_) (fun h1 => ?_)
  · have _ := h1
    refine AW.aload_n (dq rfl) rfl rfl ?_
    show AW l (pI pg 84) P kc ks 15 _ _ SHF _
    refine AW.iconst (dq rfl) ?_
    show AW l (pI pg 84) P kc ks 16 _ _ SHF _
    refine AW.bipush (dq rfl) ?_
    show AW l (pI pg 84) P kc ks 18 _ _ SHF _
    refine fw_callVI (as := [.int (Int32.ofInt 1), .int ((Int8.ofInt 50).toInt32)]) (dq rfl) (pg_ok.2.2.1 84 _ _ _ _ rfl) rfl (by decide +kernel) rfl rfl (c3 h1) (fun y2 M2 e2 q2 => ?_)
    have hJ2 : ∀ e ∈ RK, M2.2.2 e.1 e.2.1 = e.2.2 := fun e he => by rw [e2]; exact hJ e he
    show AW l (pI pg 84) P kc ks 21 [(0, .ref 1), (1, .ref 17)] [.int (y2)] SHF _
    refine AW.istore_n (dq rfl) (by decide +kernel) ?_
    show AW l (pI pg 84) P kc ks 22 [(2, .int (y2)), (0, .ref 1), (1, .ref 17)] [] SHF _
    refine AW.iload_n (dq rfl) rfl ?_
    show AW l (pI pg 84) P kc ks 23 _ _ SHF _
    refine AW.iconst (dq rfl) ?_
    show AW l (pI pg 84) P kc ks 24 _ _ SHF _
    refine AW.icmp_eq (dq rfl) (tgt := 39) (by decide) (fun h4 => ?_) (fun h4 => ?_)
    · have _ := h4
      refine AW.vret (dq rfl) rfl ?_
      exact r5 h1 y2 M2 e2 q2 h4
    · have _ := h4
      refine AW.drop (lv' := [(0, .ref 1), (1, .ref 17), (2, .int (y2))]) (List.forall_mem_cons.mpr ⟨List.mem_of_getElem? (i := 1) rfl, List.forall_mem_cons.mpr ⟨List.mem_of_getElem? (i := 2) rfl, List.forall_mem_cons.mpr ⟨List.mem_of_getElem? (i := 0) rfl, fun _ h => absurd h List.not_mem_nil⟩⟩⟩) ?_
      exact k6 h1 y2 M2 e2 q2 h4
  · have _ := h1
    refine AW.aload_n (dq rfl) rfl rfl ?_
    show AW l (pI pg 84) P kc ks 8 _ _ SHF _
    refine AW.iconst (dq rfl) ?_
    show AW l (pI pg 84) P kc ks 9 _ _ SHF _
    refine fw_callVI (as := [.int (Int32.ofInt 5)]) (dq rfl) (pg_ok.2.2.1 84 _ _ _ _ rfl) rfl (by decide +kernel) rfl rfl (ref_c hl0 (fun e he => hJ e he)) (fun y7 M7 e7 q7 => ?_)
    obtain ⟨rfl, rfl⟩ := q7
    show AW l (pI pg 84) P kc ks 12 [(0, .ref 1), (1, .ref 17)] [.int (Int32.ofInt (-1))] SHF _
    refine AW.pop (dq rfl) rfl ?_
    show AW l (pI pg 84) P kc ks 13 _ _ SHF _
    refine AW.vret (dq rfl) rfl ?_
    exact r8 h1

theorem rfoB_27 {l : aL} {P : aP} {kc ks : Nat} {a : Int32} {M : aM} (hJ : ∀ e ∈ RK, M.2.2 e.1 e.2.1 = e.2.2) (hl0 : l.1.stackTraces = false) (Q1 : Int32 → aM → Prop) (c2 : AC l (pI pg 76) (fcI M Q1) 0 0 [.ref 1] SHF M) (r4 : ∀ (y1 : Int32), ∀ (M1 : aM), ∀ (e1 : M1.2.2 = M.2.2), ∀ (q1 : Q1 y1 M1), ∀ (h3 : (y1 : Int32) = 0), P (.inl none) SHF M1) (r5 : ∀ (y1 : Int32), ∀ (M1 : aM), ∀ (e1 : M1.2.2 = M.2.2), ∀ (q1 : Q1 y1 M1), ∀ (h3 : ¬ ((y1 : Int32) = 0)), P (.inl none) SHF (aset M1 17 3 (.int (a)))) : AW l (pI pg 84) P kc ks 27 [(0, .ref 1), (1, .ref 17), (2, .int (a))] [] SHF M := by
  refine AW.aload_n (dq rfl) rfl rfl ?_
  show AW l (pI pg 84) P kc ks 28 _ _ SHF _
  refine fw_callVI (as := []) (dq rfl) (pg_ok.2.2.1 84 _ _ _ _ rfl) rfl (by decide +kernel) rfl rfl (c2) (fun y1 M1 e1 q1 => ?_)
  have hJ1 : ∀ e ∈ RK, M1.2.2 e.1 e.2.1 = e.2.2 := fun e he => by rw [e1]; exact hJ e he
  show AW l (pI pg 84) P kc ks 31 [(0, .ref 1), (1, .ref 17), (2, .int (a))] [.int (y1)] SHF _
  refine AW.if_eq (dq rfl) (tgt := 39) (by decide) (fun h3 => ?_) (fun h3 => ?_)
  · have _ := h3
    refine AW.vret (dq rfl) rfl ?_
    exact r4 y1 M1 e1 q1 h3
  · have _ := h3
    refine AW.aload_n (dq rfl) rfl rfl ?_
    show AW l (pI pg 84) P kc ks 35 _ _ SHF _
    refine AW.iload_n (dq rfl) rfl ?_
    show AW l (pI pg 84) P kc ks 36 _ _ SHF _
    refine fw_putI (dq rfl) (pg_ok.2.1 84 _ _ _ _ rfl) rfl rfl rfl ?_
    show AW l (pI pg 84) P kc ks 39 _ _ SHF _
    refine AW.vret (dq rfl) rfl ?_
    exact r5 y1 M1 e1 q1 h3

theorem rliB_0 {l : aL} {P : aP} {kc ks : Nat} {M : aM} (hJ : ∀ e ∈ RK, M.2.2 e.1 e.2.1 = e.2.2) (hl0 : l.1.stackTraces = false) (Q1 : Int32 → aM → Prop) (c2 : AC l (pI pg 53) (fcI M Q1) 0 0 [.ref 2, .retAddr 2] SHF M) (k4 : ∀ (y1 : Int32), ∀ (M1 : aM), ∀ (e1 : M1.2.2 = M.2.2), ∀ (q1 : Q1 y1 M1), ∀ (h3 : (y1 : Int32) = 0), AW l (pI pg 52) P kc ks 20 [(0, .ref 1), (1, .ref 17)] [] SHF M1) (Q5 : Int32 → aM → aM → Prop) (c6 : ∀ (y1 : Int32), ∀ (M1 : aM), ∀ (e1 : M1.2.2 = M.2.2), ∀ (q1 : Q1 y1 M1), ∀ (h3 : ¬ ((y1 : Int32) = 0)), AC l (pI pg 65) (fcV M1 (Q5 y1 M1)) 0 0 [.ref 1, .ref 17] SHF M1) (r7 : ∀ (y1 : Int32), ∀ (M1 : aM), ∀ (e1 : M1.2.2 = M.2.2), ∀ (q1 : Q1 y1 M1), ∀ (h3 : ¬ ((y1 : Int32) = 0)), ∀ (M5 : aM), ∀ (e5 : M5.2.2 = M1.2.2), ∀ (q5 : (Q5 y1 M1) M5), P (.inl none) SHF M5) : AW l (pI pg 52) P kc ks 0 [(0, .ref 1), (1, .ref 17)] [] SHF M := by
  refine AW.aload_n (dq rfl) rfl rfl ?_
  show AW l (pI pg 52) P kc ks 1 _ _ SHF _
  refine fw_get (dq rfl) (pg_ok.2.1 52 _ _ _ _ rfl) rfl (v := .ref 2) (isTA_ok rfl (rgR_ok hJ rfl)) ?_
  show AW l (pI pg 52) P kc ks 4 _ _ SHF _
  refine AW.ldcS (dq rfl) (List.mem_of_getElem? (i := 1) rfl) ?_
  show AW l (pI pg 52) P kc ks 6 _ _ SHF _
  refine fw_callVI (as := [.retAddr 2]) (dq rfl) (pg_ok.2.2.1 52 _ _ _ _ rfl) rfl (by decide +kernel) rfl rfl (c2) (fun y1 M1 e1 q1 => ?_)
  have hJ1 : ∀ e ∈ RK, M1.2.2 e.1 e.2.1 = e.2.2 := fun e he => by rw [e1]; exact hJ e he
  show AW l (pI pg 52) P kc ks 9 [(0, .ref 1), (1, .ref 17)] [.int (y1)] SHF _
  refine AW.if_eq (dq rfl) (tgt := 20) (by decide) (fun h3 => ?_) (fun h3 => ?_)
  · have _ := h3
    refine AW.drop (lv' := [(0, .ref 1), (1, .ref 17)]) (List.forall_mem_cons.mpr ⟨List.mem_of_getElem? (i := 0) rfl, List.forall_mem_cons.mpr ⟨List.mem_of_getElem? (i := 1) rfl, fun _ h => absurd h List.not_mem_nil⟩⟩) ?_
    exact k4 y1 M1 e1 q1 h3
  · have _ := h3
    refine AW.aload_n (dq rfl) rfl rfl ?_
    show AW l (pI pg 52) P kc ks 13 _ _ SHF _
    refine AW.aload_n (dq rfl) rfl rfl ?_
    show AW l (pI pg 52) P kc ks 14 _ _ SHF _
    refine fw_callVV (as := [.ref 17]) (dq rfl) (pg_ok.2.2.1 52 _ _ _ _ rfl) rfl (by decide +kernel) rfl rfl (c6 y1 M1 e1 q1 h3) (fun M5 e5 q5 => ?_)
    have hJ5 : ∀ e ∈ RK, M5.2.2 e.1 e.2.1 = e.2.2 := fun e he => by rw [e5]; exact hJ1 e he
    show AW l (pI pg 52) P kc ks 17 [(0, .ref 1), (1, .ref 17)] [] SHF _
    refine AW.goto (dq rfl) (tgt := 106) (by decide) ?_
    refine AW.vret (dq rfl) rfl ?_
    exact r7 y1 M1 e1 q1 h3 M5 e5 q5

theorem rliB_20 {l : aL} {P : aP} {kc ks : Nat} {M : aM} (hJ : ∀ e ∈ RK, M.2.2 e.1 e.2.1 = e.2.2) (hl0 : l.1.stackTraces = false) (Q1 : Int32 → aM → Prop) (c2 : AC l (pI pg 53) (fcI M Q1) 0 0 [.ref 2, .retAddr 4] SHF M) (k4 : ∀ (y1 : Int32), ∀ (M1 : aM), ∀ (e1 : M1.2.2 = M.2.2), ∀ (q1 : Q1 y1 M1), ∀ (h3 : (y1 : Int32) = 0), AW l (pI pg 52) P kc ks 40 [(0, .ref 1), (1, .ref 17)] [] SHF M1) (Q5 : Int32 → aM → aM → Prop) (c6 : ∀ (y1 : Int32), ∀ (M1 : aM), ∀ (e1 : M1.2.2 = M.2.2), ∀ (q1 : Q1 y1 M1), ∀ (h3 : ¬ ((y1 : Int32) = 0)), AC l (pI pg 74) (fcV M1 (Q5 y1 M1)) 0 0 [.ref 1, .ref 17] SHF M1) (r7 : ∀ (y1 : Int32), ∀ (M1 : aM), ∀ (e1 : M1.2.2 = M.2.2), ∀ (q1 : Q1 y1 M1), ∀ (h3 : ¬ ((y1 : Int32) = 0)), ∀ (M5 : aM), ∀ (e5 : M5.2.2 = M1.2.2), ∀ (q5 : (Q5 y1 M1) M5), P (.inl none) SHF M5) : AW l (pI pg 52) P kc ks 20 [(0, .ref 1), (1, .ref 17)] [] SHF M := by
  refine AW.aload_n (dq rfl) rfl rfl ?_
  show AW l (pI pg 52) P kc ks 21 _ _ SHF _
  refine fw_get (dq rfl) (pg_ok.2.1 52 _ _ _ _ rfl) rfl (v := .ref 2) (isTA_ok rfl (rgR_ok hJ rfl)) ?_
  show AW l (pI pg 52) P kc ks 24 _ _ SHF _
  refine AW.ldcS (dq rfl) (List.mem_of_getElem? (i := 3) rfl) ?_
  show AW l (pI pg 52) P kc ks 26 _ _ SHF _
  refine fw_callVI (as := [.retAddr 4]) (dq rfl) (pg_ok.2.2.1 52 _ _ _ _ rfl) rfl (by decide +kernel) rfl rfl (c2) (fun y1 M1 e1 q1 => ?_)
  have hJ1 : ∀ e ∈ RK, M1.2.2 e.1 e.2.1 = e.2.2 := fun e he => by rw [e1]; exact hJ e he
  show AW l (pI pg 52) P kc ks 29 [(0, .ref 1), (1, .ref 17)] [.int (y1)] SHF _
  refine AW.if_eq (dq rfl) (tgt := 40) (by decide) (fun h3 => ?_) (fun h3 => ?_)
  · have _ := h3
    refine AW.drop (lv' := [(0, .ref 1), (1, .ref 17)]) (List.forall_mem_cons.mpr ⟨List.mem_of_getElem? (i := 0) rfl, List.forall_mem_cons.mpr ⟨List.mem_of_getElem? (i := 1) rfl, fun _ h => absurd h List.not_mem_nil⟩⟩) ?_
    exact k4 y1 M1 e1 q1 h3
  · have _ := h3
    refine AW.aload_n (dq rfl) rfl rfl ?_
    show AW l (pI pg 52) P kc ks 33 _ _ SHF _
    refine AW.aload_n (dq rfl) rfl rfl ?_
    show AW l (pI pg 52) P kc ks 34 _ _ SHF _
    refine fw_callVV (as := [.ref 17]) (dq rfl) (pg_ok.2.2.1 52 _ _ _ _ rfl) rfl (by decide +kernel) rfl rfl (c6 y1 M1 e1 q1 h3) (fun M5 e5 q5 => ?_)
    have hJ5 : ∀ e ∈ RK, M5.2.2 e.1 e.2.1 = e.2.2 := fun e he => by rw [e5]; exact hJ1 e he
    show AW l (pI pg 52) P kc ks 37 [(0, .ref 1), (1, .ref 17)] [] SHF _
    refine AW.goto (dq rfl) (tgt := 106) (by decide) ?_
    refine AW.vret (dq rfl) rfl ?_
    exact r7 y1 M1 e1 q1 h3 M5 e5 q5

theorem rliB_40 {l : aL} {P : aP} {kc ks : Nat} {M : aM} (hJ : ∀ e ∈ RK, M.2.2 e.1 e.2.1 = e.2.2) (hl0 : l.1.stackTraces = false) (Q1 : Int32 → aM → Prop) (c2 : AC l (pI pg 53) (fcI M Q1) 0 0 [.ref 2, .retAddr 5] SHF M) (k4 : ∀ (y1 : Int32), ∀ (M1 : aM), ∀ (e1 : M1.2.2 = M.2.2), ∀ (q1 : Q1 y1 M1), ∀ (h3 : (y1 : Int32) = 0), AW l (pI pg 52) P kc ks 60 [(0, .ref 1), (1, .ref 17)] [] SHF M1) (Q5 : Int32 → aM → aM → Prop) (c6 : ∀ (y1 : Int32), ∀ (M1 : aM), ∀ (e1 : M1.2.2 = M.2.2), ∀ (q1 : Q1 y1 M1), ∀ (h3 : ¬ ((y1 : Int32) = 0)), AC l (pI pg 78) (fcV M1 (Q5 y1 M1)) 0 0 [.ref 1, .ref 17] SHF M1) (r7 : ∀ (y1 : Int32), ∀ (M1 : aM), ∀ (e1 : M1.2.2 = M.2.2), ∀ (q1 : Q1 y1 M1), ∀ (h3 : ¬ ((y1 : Int32) = 0)), ∀ (M5 : aM), ∀ (e5 : M5.2.2 = M1.2.2), ∀ (q5 : (Q5 y1 M1) M5), P (.inl none) SHF M5) : AW l (pI pg 52) P kc ks 40 [(0, .ref 1), (1, .ref 17)] [] SHF M := by
  refine AW.aload_n (dq rfl) rfl rfl ?_
  show AW l (pI pg 52) P kc ks 41 _ _ SHF _
  refine fw_get (dq rfl) (pg_ok.2.1 52 _ _ _ _ rfl) rfl (v := .ref 2) (isTA_ok rfl (rgR_ok hJ rfl)) ?_
  show AW l (pI pg 52) P kc ks 44 _ _ SHF _
  refine AW.ldcS (dq rfl) (List.mem_of_getElem? (i := 4) rfl) ?_
  show AW l (pI pg 52) P kc ks 46 _ _ SHF _
  refine fw_callVI (as := [.retAddr 5]) (dq rfl) (pg_ok.2.2.1 52 _ _ _ _ rfl) rfl (by decide +kernel) rfl rfl (c2) (fun y1 M1 e1 q1 => ?_)
  have hJ1 : ∀ e ∈ RK, M1.2.2 e.1 e.2.1 = e.2.2 := fun e he => by rw [e1]; exact hJ e he
  show AW l (pI pg 52) P kc ks 49 [(0, .ref 1), (1, .ref 17)] [.int (y1)] SHF _
  refine AW.if_eq (dq rfl) (tgt := 60) (by decide) (fun h3 => ?_) (fun h3 => ?_)
  · have _ := h3
    refine AW.drop (lv' := [(0, .ref 1), (1, .ref 17)]) (List.forall_mem_cons.mpr ⟨List.mem_of_getElem? (i := 0) rfl, List.forall_mem_cons.mpr ⟨List.mem_of_getElem? (i := 1) rfl, fun _ h => absurd h List.not_mem_nil⟩⟩) ?_
    exact k4 y1 M1 e1 q1 h3
  · have _ := h3
    refine AW.aload_n (dq rfl) rfl rfl ?_
    show AW l (pI pg 52) P kc ks 53 _ _ SHF _
    refine AW.aload_n (dq rfl) rfl rfl ?_
    show AW l (pI pg 52) P kc ks 54 _ _ SHF _
    refine fw_callVV (as := [.ref 17]) (dq rfl) (pg_ok.2.2.1 52 _ _ _ _ rfl) rfl (by decide +kernel) rfl rfl (c6 y1 M1 e1 q1 h3) (fun M5 e5 q5 => ?_)
    have hJ5 : ∀ e ∈ RK, M5.2.2 e.1 e.2.1 = e.2.2 := fun e he => by rw [e5]; exact hJ1 e he
    show AW l (pI pg 52) P kc ks 57 [(0, .ref 1), (1, .ref 17)] [] SHF _
    refine AW.goto (dq rfl) (tgt := 106) (by decide) ?_
    refine AW.vret (dq rfl) rfl ?_
    exact r7 y1 M1 e1 q1 h3 M5 e5 q5

theorem rliB_60 {l : aL} {P : aP} {kc ks : Nat} {M : aM} (hJ : ∀ e ∈ RK, M.2.2 e.1 e.2.1 = e.2.2) (hl0 : l.1.stackTraces = false) (Q1 : Int32 → aM → Prop) (c2 : AC l (pI pg 53) (fcI M Q1) 0 0 [.ref 2, .retAddr 6] SHF M) (k4 : ∀ (y1 : Int32), ∀ (M1 : aM), ∀ (e1 : M1.2.2 = M.2.2), ∀ (q1 : Q1 y1 M1), ∀ (h3 : (y1 : Int32) = 0), AW l (pI pg 52) P kc ks 80 [(0, .ref 1), (1, .ref 17)] [] SHF M1) (Q5 : Int32 → aM → aM → Prop) (c6 : ∀ (y1 : Int32), ∀ (M1 : aM), ∀ (e1 : M1.2.2 = M.2.2), ∀ (q1 : Q1 y1 M1), ∀ (h3 : ¬ ((y1 : Int32) = 0)), AC l (pI pg 82) (fcV M1 (Q5 y1 M1)) 0 0 [.ref 1, .ref 17] SHF M1) (r7 : ∀ (y1 : Int32), ∀ (M1 : aM), ∀ (e1 : M1.2.2 = M.2.2), ∀ (q1 : Q1 y1 M1), ∀ (h3 : ¬ ((y1 : Int32) = 0)), ∀ (M5 : aM), ∀ (e5 : M5.2.2 = M1.2.2), ∀ (q5 : (Q5 y1 M1) M5), P (.inl none) SHF M5) : AW l (pI pg 52) P kc ks 60 [(0, .ref 1), (1, .ref 17)] [] SHF M := by
  refine AW.aload_n (dq rfl) rfl rfl ?_
  show AW l (pI pg 52) P kc ks 61 _ _ SHF _
  refine fw_get (dq rfl) (pg_ok.2.1 52 _ _ _ _ rfl) rfl (v := .ref 2) (isTA_ok rfl (rgR_ok hJ rfl)) ?_
  show AW l (pI pg 52) P kc ks 64 _ _ SHF _
  refine AW.ldcS (dq rfl) (List.mem_of_getElem? (i := 5) rfl) ?_
  show AW l (pI pg 52) P kc ks 66 _ _ SHF _
  refine fw_callVI (as := [.retAddr 6]) (dq rfl) (pg_ok.2.2.1 52 _ _ _ _ rfl) rfl (by decide +kernel) rfl rfl (c2) (fun y1 M1 e1 q1 => ?_)
  have hJ1 : ∀ e ∈ RK, M1.2.2 e.1 e.2.1 = e.2.2 := fun e he => by rw [e1]; exact hJ e he
  show AW l (pI pg 52) P kc ks 69 [(0, .ref 1), (1, .ref 17)] [.int (y1)] SHF _
  refine AW.if_eq (dq rfl) (tgt := 80) (by decide) (fun h3 => ?_) (fun h3 => ?_)
  · have _ := h3
    refine AW.drop (lv' := [(0, .ref 1), (1, .ref 17)]) (List.forall_mem_cons.mpr ⟨List.mem_of_getElem? (i := 0) rfl, List.forall_mem_cons.mpr ⟨List.mem_of_getElem? (i := 1) rfl, fun _ h => absurd h List.not_mem_nil⟩⟩) ?_
    exact k4 y1 M1 e1 q1 h3
  · have _ := h3
    refine AW.aload_n (dq rfl) rfl rfl ?_
    show AW l (pI pg 52) P kc ks 73 _ _ SHF _
    refine AW.aload_n (dq rfl) rfl rfl ?_
    show AW l (pI pg 52) P kc ks 74 _ _ SHF _
    refine fw_callVV (as := [.ref 17]) (dq rfl) (pg_ok.2.2.1 52 _ _ _ _ rfl) rfl (by decide +kernel) rfl rfl (c6 y1 M1 e1 q1 h3) (fun M5 e5 q5 => ?_)
    have hJ5 : ∀ e ∈ RK, M5.2.2 e.1 e.2.1 = e.2.2 := fun e he => by rw [e5]; exact hJ1 e he
    show AW l (pI pg 52) P kc ks 77 [(0, .ref 1), (1, .ref 17)] [] SHF _
    refine AW.goto (dq rfl) (tgt := 106) (by decide) ?_
    refine AW.vret (dq rfl) rfl ?_
    exact r7 y1 M1 e1 q1 h3 M5 e5 q5

theorem rliB_80 {l : aL} {P : aP} {kc ks : Nat} {M : aM} (hJ : ∀ e ∈ RK, M.2.2 e.1 e.2.1 = e.2.2) (hl0 : l.1.stackTraces = false) (Q1 : Int32 → aM → Prop) (c2 : AC l (pI pg 53) (fcI M Q1) 0 0 [.ref 2, .retAddr 7] SHF M) (k4 : ∀ (y1 : Int32), ∀ (M1 : aM), ∀ (e1 : M1.2.2 = M.2.2), ∀ (q1 : Q1 y1 M1), ∀ (h3 : (y1 : Int32) = 0), AW l (pI pg 52) P kc ks 100 [(0, .ref 1), (1, .ref 17)] [] SHF M1) (Q5 : Int32 → aM → aM → Prop) (c6 : ∀ (y1 : Int32), ∀ (M1 : aM), ∀ (e1 : M1.2.2 = M.2.2), ∀ (q1 : Q1 y1 M1), ∀ (h3 : ¬ ((y1 : Int32) = 0)), AC l (pI pg 84) (fcV M1 (Q5 y1 M1)) 0 0 [.ref 1, .ref 17] SHF M1) (r7 : ∀ (y1 : Int32), ∀ (M1 : aM), ∀ (e1 : M1.2.2 = M.2.2), ∀ (q1 : Q1 y1 M1), ∀ (h3 : ¬ ((y1 : Int32) = 0)), ∀ (M5 : aM), ∀ (e5 : M5.2.2 = M1.2.2), ∀ (q5 : (Q5 y1 M1) M5), P (.inl none) SHF M5) : AW l (pI pg 52) P kc ks 80 [(0, .ref 1), (1, .ref 17)] [] SHF M := by
  refine AW.aload_n (dq rfl) rfl rfl ?_
  show AW l (pI pg 52) P kc ks 81 _ _ SHF _
  refine fw_get (dq rfl) (pg_ok.2.1 52 _ _ _ _ rfl) rfl (v := .ref 2) (isTA_ok rfl (rgR_ok hJ rfl)) ?_
  show AW l (pI pg 52) P kc ks 84 _ _ SHF _
  refine AW.ldcS (dq rfl) (List.mem_of_getElem? (i := 6) rfl) ?_
  show AW l (pI pg 52) P kc ks 86 _ _ SHF _
  refine fw_callVI (as := [.retAddr 7]) (dq rfl) (pg_ok.2.2.1 52 _ _ _ _ rfl) rfl (by decide +kernel) rfl rfl (c2) (fun y1 M1 e1 q1 => ?_)
  have hJ1 : ∀ e ∈ RK, M1.2.2 e.1 e.2.1 = e.2.2 := fun e he => by rw [e1]; exact hJ e he
  show AW l (pI pg 52) P kc ks 89 [(0, .ref 1), (1, .ref 17)] [.int (y1)] SHF _
  refine AW.if_eq (dq rfl) (tgt := 100) (by decide) (fun h3 => ?_) (fun h3 => ?_)
  · have _ := h3
    refine AW.drop (lv' := [(0, .ref 1), (1, .ref 17)]) (List.forall_mem_cons.mpr ⟨List.mem_of_getElem? (i := 0) rfl, List.forall_mem_cons.mpr ⟨List.mem_of_getElem? (i := 1) rfl, fun _ h => absurd h List.not_mem_nil⟩⟩) ?_
    exact k4 y1 M1 e1 q1 h3
  · have _ := h3
    refine AW.aload_n (dq rfl) rfl rfl ?_
    show AW l (pI pg 52) P kc ks 93 _ _ SHF _
    refine AW.aload_n (dq rfl) rfl rfl ?_
    show AW l (pI pg 52) P kc ks 94 _ _ SHF _
    refine fw_callVV (as := [.ref 17]) (dq rfl) (pg_ok.2.2.1 52 _ _ _ _ rfl) rfl (by decide +kernel) rfl rfl (c6 y1 M1 e1 q1 h3) (fun M5 e5 q5 => ?_)
    have hJ5 : ∀ e ∈ RK, M5.2.2 e.1 e.2.1 = e.2.2 := fun e he => by rw [e5]; exact hJ1 e he
    show AW l (pI pg 52) P kc ks 97 [(0, .ref 1), (1, .ref 17)] [] SHF _
    refine AW.goto (dq rfl) (tgt := 106) (by decide) ?_
    refine AW.vret (dq rfl) rfl ?_
    exact r7 y1 M1 e1 q1 h3 M5 e5 q5

theorem rliB_100 {l : aL} {P : aP} {kc ks : Nat} {M : aM} (hJ : ∀ e ∈ RK, M.2.2 e.1 e.2.1 = e.2.2) (hl0 : l.1.stackTraces = false) (r2 : P (.inl none) SHF (rfM M (Int32.ofInt 1))) : AW l (pI pg 52) P kc ks 100 [(0, .ref 1), (1, .ref 17)] [] SHF M := by
  refine AW.aload_n (dq rfl) rfl rfl ?_
  show AW l (pI pg 52) P kc ks 101 _ _ SHF _
  refine AW.iconst (dq rfl) ?_
  show AW l (pI pg 52) P kc ks 102 _ _ SHF _
  refine fw_callVI (as := [.int (Int32.ofInt 1)]) (dq rfl) (pg_ok.2.2.1 52 _ _ _ _ rfl) rfl (by decide +kernel) rfl rfl (ref_c hl0 (fun e he => hJ e he)) (fun y1 M1 e1 q1 => ?_)
  obtain ⟨rfl, rfl⟩ := q1
  show AW l (pI pg 52) P kc ks 105 [(0, .ref 1), (1, .ref 17)] [.int (Int32.ofInt (-1))] SHF _
  refine AW.pop (dq rfl) rfl ?_
  show AW l (pI pg 52) P kc ks 106 _ _ SHF _
  refine AW.vret (dq rfl) rfl ?_
  exact r2

theorem fil20_0 {l : aL} {P : aP} {kc ks : Nat} {x : Int32} {M : aM}  (hl0 : l.1.stackTraces = false) (k1 : AW l (pI pg 12) P kc ks 5 [(0, .ref 20), (1, .int (x)), (2, .int (Int32.ofInt 0)), (3, .int (Int32.ofNat 6))] [] SHF M) : AW l (pI pg 12) P kc ks 0 [(0, .ref 20), (1, .int (x))] [] SHF M := by
  refine AW.iconst (dq rfl) ?_
  show AW l (pI pg 12) P kc ks 1 _ _ SHF _
  refine AW.istore_n (dq rfl) (by decide +kernel) ?_
  show AW l (pI pg 12) P kc ks 2 [(2, .int (Int32.ofInt 0)), (0, .ref 20), (1, .int (x))] [] SHF _
  refine AW.aload_n (dq rfl) rfl rfl ?_
  show AW l (pI pg 12) P kc ks 3 _ _ SHF _
  refine AW.alen (dq rfl) rfl ?_
  show AW l (pI pg 12) P kc ks 4 _ _ SHF _
  refine AW.istore_n (dq rfl) (by decide +kernel) ?_
  show AW l (pI pg 12) P kc ks 5 [(3, .int (Int32.ofNat 6)), (2, .int (Int32.ofInt 0)), (0, .ref 20), (1, .int (x))] [] SHF _
  refine AW.drop (lv' := [(0, .ref 20), (1, .int (x)), (2, .int (Int32.ofInt 0)), (3, .int (Int32.ofNat 6))]) (List.forall_mem_cons.mpr ⟨List.mem_of_getElem? (i := 2) rfl, List.forall_mem_cons.mpr ⟨List.mem_of_getElem? (i := 3) rfl, List.forall_mem_cons.mpr ⟨List.mem_of_getElem? (i := 1) rfl, List.forall_mem_cons.mpr ⟨List.mem_of_getElem? (i := 0) rfl, fun _ h => absurd h List.not_mem_nil⟩⟩⟩⟩) ?_
  exact k1

theorem fil20_5 {l : aL} {P : aP} {kc ks : Nat} {i : Nat} {x : Int32} {M : aM}  (hl0 : l.1.stackTraces = false) (r2 : ∀ (h1 : (Int32.ofNat 6 : Int32) ≤ (nI i : Int32)), P (.inl none) SHF M) (o3 : ∀ (h1 : ¬ ((Int32.ofNat 6 : Int32) ≤ (nI i : Int32))), vp_in (nI i) 6) (k4 : ∀ (h1 : ¬ ((Int32.ofNat 6 : Int32) ≤ (nI i : Int32))), AW l (pI pg 12) P kc ks 5 [(0, .ref 20), (1, .int (x)), (2, .int ((nI i) + Int32.ofInt 1)), (3, .int (Int32.ofNat 6))] [] SHF (aset M 20 (nI i).toNatClampNeg (.int (x)))) : AW l (pI pg 12) P kc ks 5 [(0, .ref 20), (1, .int (x)), (2, .int (nI i)), (3, .int (Int32.ofNat 6))] [] SHF M := by
  refine AW.iload_n (dq rfl) rfl ?_
  show AW l (pI pg 12) P kc ks 6 _ _ SHF _
  refine AW.iload_n (dq rfl) rfl ?_
  show AW l (pI pg 12) P kc ks 7 _ _ SHF _
  refine AW.icmp_ge (dq rfl) (tgt := 20) (by decide) (fun h1 => ?_) (fun h1 => ?_)
  · have _ := h1
    refine AW.vret (dq rfl) rfl ?_
    exact r2 h1
  · have _ := h1
    refine AW.aload_n (dq rfl) rfl rfl ?_
    show AW l (pI pg 12) P kc ks 11 _ _ SHF _
    refine AW.iload_n (dq rfl) rfl ?_
    show AW l (pI pg 12) P kc ks 12 _ _ SHF _
    refine AW.iload_n (dq rfl) rfl ?_
    show AW l (pI pg 12) P kc ks 13 _ _ SHF _
    refine AW.iast (dq rfl) rfl (o3 h1) ?_
    show AW l (pI pg 12) P kc ks 14 _ _ SHF _
    refine AW.iinc (dq rfl) rfl (by decide +kernel) ?_
    show AW l (pI pg 12) P kc ks 17 [(2, .int ((nI i) + Int32.ofInt 1)), (0, .ref 20), (1, .int (x)), (3, .int (Int32.ofNat 6))] [] SHF _
    refine AW.goto (dq rfl) (tgt := 5) (by decide) ?_
    refine AW.drop (lv' := [(0, .ref 20), (1, .int (x)), (2, .int ((nI i) + Int32.ofInt 1)), (3, .int (Int32.ofNat 6))]) (List.forall_mem_cons.mpr ⟨List.mem_of_getElem? (i := 1) rfl, List.forall_mem_cons.mpr ⟨List.mem_of_getElem? (i := 2) rfl, List.forall_mem_cons.mpr ⟨List.mem_of_getElem? (i := 0) rfl, List.forall_mem_cons.mpr ⟨List.mem_of_getElem? (i := 3) rfl, fun _ h => absurd h List.not_mem_nil⟩⟩⟩⟩) ?_
    exact k4 h1

theorem fil21_0 {l : aL} {P : aP} {kc ks : Nat} {x : Int32} {M : aM}  (hl0 : l.1.stackTraces = false) (k1 : AW l (pI pg 12) P kc ks 5 [(0, .ref 21), (1, .int (x)), (2, .int (Int32.ofInt 0)), (3, .int (Int32.ofNat 6))] [] SHF M) : AW l (pI pg 12) P kc ks 0 [(0, .ref 21), (1, .int (x))] [] SHF M := by
  refine AW.iconst (dq rfl) ?_
  show AW l (pI pg 12) P kc ks 1 _ _ SHF _
  refine AW.istore_n (dq rfl) (by decide +kernel) ?_
  show AW l (pI pg 12) P kc ks 2 [(2, .int (Int32.ofInt 0)), (0, .ref 21), (1, .int (x))] [] SHF _
  refine AW.aload_n (dq rfl) rfl rfl ?_
  show AW l (pI pg 12) P kc ks 3 _ _ SHF _
  refine AW.alen (dq rfl) rfl ?_
  show AW l (pI pg 12) P kc ks 4 _ _ SHF _
  refine AW.istore_n (dq rfl) (by decide +kernel) ?_
  show AW l (pI pg 12) P kc ks 5 [(3, .int (Int32.ofNat 6)), (2, .int (Int32.ofInt 0)), (0, .ref 21), (1, .int (x))] [] SHF _
  refine AW.drop (lv' := [(0, .ref 21), (1, .int (x)), (2, .int (Int32.ofInt 0)), (3, .int (Int32.ofNat 6))]) (List.forall_mem_cons.mpr ⟨List.mem_of_getElem? (i := 2) rfl, List.forall_mem_cons.mpr ⟨List.mem_of_getElem? (i := 3) rfl, List.forall_mem_cons.mpr ⟨List.mem_of_getElem? (i := 1) rfl, List.forall_mem_cons.mpr ⟨List.mem_of_getElem? (i := 0) rfl, fun _ h => absurd h List.not_mem_nil⟩⟩⟩⟩) ?_
  exact k1

theorem fil21_5 {l : aL} {P : aP} {kc ks : Nat} {i : Nat} {x : Int32} {M : aM}  (hl0 : l.1.stackTraces = false) (r2 : ∀ (h1 : (Int32.ofNat 6 : Int32) ≤ (nI i : Int32)), P (.inl none) SHF M) (o3 : ∀ (h1 : ¬ ((Int32.ofNat 6 : Int32) ≤ (nI i : Int32))), vp_in (nI i) 6) (k4 : ∀ (h1 : ¬ ((Int32.ofNat 6 : Int32) ≤ (nI i : Int32))), AW l (pI pg 12) P kc ks 5 [(0, .ref 21), (1, .int (x)), (2, .int ((nI i) + Int32.ofInt 1)), (3, .int (Int32.ofNat 6))] [] SHF (aset M 21 (nI i).toNatClampNeg (.int (x)))) : AW l (pI pg 12) P kc ks 5 [(0, .ref 21), (1, .int (x)), (2, .int (nI i)), (3, .int (Int32.ofNat 6))] [] SHF M := by
  refine AW.iload_n (dq rfl) rfl ?_
  show AW l (pI pg 12) P kc ks 6 _ _ SHF _
  refine AW.iload_n (dq rfl) rfl ?_
  show AW l (pI pg 12) P kc ks 7 _ _ SHF _
  refine AW.icmp_ge (dq rfl) (tgt := 20) (by decide) (fun h1 => ?_) (fun h1 => ?_)
  · have _ := h1
    refine AW.vret (dq rfl) rfl ?_
    exact r2 h1
  · have _ := h1
    refine AW.aload_n (dq rfl) rfl rfl ?_
    show AW l (pI pg 12) P kc ks 11 _ _ SHF _
    refine AW.iload_n (dq rfl) rfl ?_
    show AW l (pI pg 12) P kc ks 12 _ _ SHF _
    refine AW.iload_n (dq rfl) rfl ?_
    show AW l (pI pg 12) P kc ks 13 _ _ SHF _
    refine AW.iast (dq rfl) rfl (o3 h1) ?_
    show AW l (pI pg 12) P kc ks 14 _ _ SHF _
    refine AW.iinc (dq rfl) rfl (by decide +kernel) ?_
    show AW l (pI pg 12) P kc ks 17 [(2, .int ((nI i) + Int32.ofInt 1)), (0, .ref 21), (1, .int (x)), (3, .int (Int32.ofNat 6))] [] SHF _
    refine AW.goto (dq rfl) (tgt := 5) (by decide) ?_
    refine AW.drop (lv' := [(0, .ref 21), (1, .int (x)), (2, .int ((nI i) + Int32.ofInt 1)), (3, .int (Int32.ofNat 6))]) (List.forall_mem_cons.mpr ⟨List.mem_of_getElem? (i := 1) rfl, List.forall_mem_cons.mpr ⟨List.mem_of_getElem? (i := 2) rfl, List.forall_mem_cons.mpr ⟨List.mem_of_getElem? (i := 0) rfl, List.forall_mem_cons.mpr ⟨List.mem_of_getElem? (i := 3) rfl, fun _ h => absurd h List.not_mem_nil⟩⟩⟩⟩) ?_
    exact k4 h1

theorem fil24_0 {l : aL} {P : aP} {kc ks : Nat} {x : Int32} {M : aM}  (hl0 : l.1.stackTraces = false) (k1 : AW l (pI pg 12) P kc ks 5 [(0, .ref 24), (1, .int (x)), (2, .int (Int32.ofInt 0)), (3, .int (Int32.ofNat 8))] [] SHF M) : AW l (pI pg 12) P kc ks 0 [(0, .ref 24), (1, .int (x))] [] SHF M := by
  refine AW.iconst (dq rfl) ?_
  show AW l (pI pg 12) P kc ks 1 _ _ SHF _
  refine AW.istore_n (dq rfl) (by decide +kernel) ?_
  show AW l (pI pg 12) P kc ks 2 [(2, .int (Int32.ofInt 0)), (0, .ref 24), (1, .int (x))] [] SHF _
  refine AW.aload_n (dq rfl) rfl rfl ?_
  show AW l (pI pg 12) P kc ks 3 _ _ SHF _
  refine AW.alen (dq rfl) rfl ?_
  show AW l (pI pg 12) P kc ks 4 _ _ SHF _
  refine AW.istore_n (dq rfl) (by decide +kernel) ?_
  show AW l (pI pg 12) P kc ks 5 [(3, .int (Int32.ofNat 8)), (2, .int (Int32.ofInt 0)), (0, .ref 24), (1, .int (x))] [] SHF _
  refine AW.drop (lv' := [(0, .ref 24), (1, .int (x)), (2, .int (Int32.ofInt 0)), (3, .int (Int32.ofNat 8))]) (List.forall_mem_cons.mpr ⟨List.mem_of_getElem? (i := 2) rfl, List.forall_mem_cons.mpr ⟨List.mem_of_getElem? (i := 3) rfl, List.forall_mem_cons.mpr ⟨List.mem_of_getElem? (i := 1) rfl, List.forall_mem_cons.mpr ⟨List.mem_of_getElem? (i := 0) rfl, fun _ h => absurd h List.not_mem_nil⟩⟩⟩⟩) ?_
  exact k1

theorem fil24_5 {l : aL} {P : aP} {kc ks : Nat} {i : Nat} {x : Int32} {M : aM}  (hl0 : l.1.stackTraces = false) (r2 : ∀ (h1 : (Int32.ofNat 8 : Int32) ≤ (nI i : Int32)), P (.inl none) SHF M) (o3 : ∀ (h1 : ¬ ((Int32.ofNat 8 : Int32) ≤ (nI i : Int32))), vp_in (nI i) 8) (k4 : ∀ (h1 : ¬ ((Int32.ofNat 8 : Int32) ≤ (nI i : Int32))), AW l (pI pg 12) P kc ks 5 [(0, .ref 24), (1, .int (x)), (2, .int ((nI i) + Int32.ofInt 1)), (3, .int (Int32.ofNat 8))] [] SHF (aset M 24 (nI i).toNatClampNeg (.int (x)))) : AW l (pI pg 12) P kc ks 5 [(0, .ref 24), (1, .int (x)), (2, .int (nI i)), (3, .int (Int32.ofNat 8))] [] SHF M := by
  refine AW.iload_n (dq rfl) rfl ?_
  show AW l (pI pg 12) P kc ks 6 _ _ SHF _
  refine AW.iload_n (dq rfl) rfl ?_
  show AW l (pI pg 12) P kc ks 7 _ _ SHF _
  refine AW.icmp_ge (dq rfl) (tgt := 20) (by decide) (fun h1 => ?_) (fun h1 => ?_)
  · have _ := h1
    refine AW.vret (dq rfl) rfl ?_
    exact r2 h1
  · have _ := h1
    refine AW.aload_n (dq rfl) rfl rfl ?_
    show AW l (pI pg 12) P kc ks 11 _ _ SHF _
    refine AW.iload_n (dq rfl) rfl ?_
    show AW l (pI pg 12) P kc ks 12 _ _ SHF _
    refine AW.iload_n (dq rfl) rfl ?_
    show AW l (pI pg 12) P kc ks 13 _ _ SHF _
    refine AW.iast (dq rfl) rfl (o3 h1) ?_
    show AW l (pI pg 12) P kc ks 14 _ _ SHF _
    refine AW.iinc (dq rfl) rfl (by decide +kernel) ?_
    show AW l (pI pg 12) P kc ks 17 [(2, .int ((nI i) + Int32.ofInt 1)), (0, .ref 24), (1, .int (x)), (3, .int (Int32.ofNat 8))] [] SHF _
    refine AW.goto (dq rfl) (tgt := 5) (by decide) ?_
    refine AW.drop (lv' := [(0, .ref 24), (1, .int (x)), (2, .int ((nI i) + Int32.ofInt 1)), (3, .int (Int32.ofNat 8))]) (List.forall_mem_cons.mpr ⟨List.mem_of_getElem? (i := 1) rfl, List.forall_mem_cons.mpr ⟨List.mem_of_getElem? (i := 2) rfl, List.forall_mem_cons.mpr ⟨List.mem_of_getElem? (i := 0) rfl, List.forall_mem_cons.mpr ⟨List.mem_of_getElem? (i := 3) rfl, fun _ h => absurd h List.not_mem_nil⟩⟩⟩⟩) ?_
    exact k4 h1

theorem fil25_0 {l : aL} {P : aP} {kc ks : Nat} {x : Int32} {M : aM}  (hl0 : l.1.stackTraces = false) (k1 : AW l (pI pg 12) P kc ks 5 [(0, .ref 25), (1, .int (x)), (2, .int (Int32.ofInt 0)), (3, .int (Int32.ofNat 48))] [] SHF M) : AW l (pI pg 12) P kc ks 0 [(0, .ref 25), (1, .int (x))] [] SHF M := by
  refine AW.iconst (dq rfl) ?_
  show AW l (pI pg 12) P kc ks 1 _ _ SHF _
  refine AW.istore_n (dq rfl) (by decide +kernel) ?_
  show AW l (pI pg 12) P kc ks 2 [(2, .int (Int32.ofInt 0)), (0, .ref 25), (1, .int (x))] [] SHF _
  refine AW.aload_n (dq rfl) rfl rfl ?_
  show AW l (pI pg 12) P kc ks 3 _ _ SHF _
  refine AW.alen (dq rfl) rfl ?_
  show AW l (pI pg 12) P kc ks 4 _ _ SHF _
  refine AW.istore_n (dq rfl) (by decide +kernel) ?_
  show AW l (pI pg 12) P kc ks 5 [(3, .int (Int32.ofNat 48)), (2, .int (Int32.ofInt 0)), (0, .ref 25), (1, .int (x))] [] SHF _
  refine AW.drop (lv' := [(0, .ref 25), (1, .int (x)), (2, .int (Int32.ofInt 0)), (3, .int (Int32.ofNat 48))]) (List.forall_mem_cons.mpr ⟨List.mem_of_getElem? (i := 2) rfl, List.forall_mem_cons.mpr ⟨List.mem_of_getElem? (i := 3) rfl, List.forall_mem_cons.mpr ⟨List.mem_of_getElem? (i := 1) rfl, List.forall_mem_cons.mpr ⟨List.mem_of_getElem? (i := 0) rfl, fun _ h => absurd h List.not_mem_nil⟩⟩⟩⟩) ?_
  exact k1

theorem fil25_5 {l : aL} {P : aP} {kc ks : Nat} {i : Nat} {x : Int32} {M : aM}  (hl0 : l.1.stackTraces = false) (r2 : ∀ (h1 : (Int32.ofNat 48 : Int32) ≤ (nI i : Int32)), P (.inl none) SHF M) (o3 : ∀ (h1 : ¬ ((Int32.ofNat 48 : Int32) ≤ (nI i : Int32))), vp_in (nI i) 48) (k4 : ∀ (h1 : ¬ ((Int32.ofNat 48 : Int32) ≤ (nI i : Int32))), AW l (pI pg 12) P kc ks 5 [(0, .ref 25), (1, .int (x)), (2, .int ((nI i) + Int32.ofInt 1)), (3, .int (Int32.ofNat 48))] [] SHF (aset M 25 (nI i).toNatClampNeg (.int (x)))) : AW l (pI pg 12) P kc ks 5 [(0, .ref 25), (1, .int (x)), (2, .int (nI i)), (3, .int (Int32.ofNat 48))] [] SHF M := by
  refine AW.iload_n (dq rfl) rfl ?_
  show AW l (pI pg 12) P kc ks 6 _ _ SHF _
  refine AW.iload_n (dq rfl) rfl ?_
  show AW l (pI pg 12) P kc ks 7 _ _ SHF _
  refine AW.icmp_ge (dq rfl) (tgt := 20) (by decide) (fun h1 => ?_) (fun h1 => ?_)
  · have _ := h1
    refine AW.vret (dq rfl) rfl ?_
    exact r2 h1
  · have _ := h1
    refine AW.aload_n (dq rfl) rfl rfl ?_
    show AW l (pI pg 12) P kc ks 11 _ _ SHF _
    refine AW.iload_n (dq rfl) rfl ?_
    show AW l (pI pg 12) P kc ks 12 _ _ SHF _
    refine AW.iload_n (dq rfl) rfl ?_
    show AW l (pI pg 12) P kc ks 13 _ _ SHF _
    refine AW.iast (dq rfl) rfl (o3 h1) ?_
    show AW l (pI pg 12) P kc ks 14 _ _ SHF _
    refine AW.iinc (dq rfl) rfl (by decide +kernel) ?_
    show AW l (pI pg 12) P kc ks 17 [(2, .int ((nI i) + Int32.ofInt 1)), (0, .ref 25), (1, .int (x)), (3, .int (Int32.ofNat 48))] [] SHF _
    refine AW.goto (dq rfl) (tgt := 5) (by decide) ?_
    refine AW.drop (lv' := [(0, .ref 25), (1, .int (x)), (2, .int ((nI i) + Int32.ofInt 1)), (3, .int (Int32.ofNat 48))]) (List.forall_mem_cons.mpr ⟨List.mem_of_getElem? (i := 1) rfl, List.forall_mem_cons.mpr ⟨List.mem_of_getElem? (i := 2) rfl, List.forall_mem_cons.mpr ⟨List.mem_of_getElem? (i := 0) rfl, List.forall_mem_cons.mpr ⟨List.mem_of_getElem? (i := 3) rfl, fun _ h => absurd h List.not_mem_nil⟩⟩⟩⟩) ?_
    exact k4 h1

theorem cleB_0 {l : aL} {P : aP} {kc ks : Nat} {M : aM} (hJ : ∀ e ∈ RK, M.2.2 e.1 e.2.1 = e.2.2) (hl0 : l.1.stackTraces = false) (Q1 : aM → Prop) (c2 : AC l (pI pg 12) (fcV (aset (aset (aset (aset M 17 0 (.int (Int32.ofInt 0))) 17 1 (.int (Int32.ofInt 0))) 17 2 (.int (Int32.ofInt 0))) 17 3 (.int (Int32.ofInt 0))) Q1) 0 0 [.ref 20, .int (Int32.ofInt 0)] SHF (aset (aset (aset (aset M 17 0 (.int (Int32.ofInt 0))) 17 1 (.int (Int32.ofInt 0))) 17 2 (.int (Int32.ofInt 0))) 17 3 (.int (Int32.ofInt 0)))) (Q3 : aM → aM → Prop) (c4 : ∀ (M1 : aM), ∀ (e1 : M1.2.2 = (aset (aset (aset (aset M 17 0 (.int (Int32.ofInt 0))) 17 1 (.int (Int32.ofInt 0))) 17 2 (.int (Int32.ofInt 0))) 17 3 (.int (Int32.ofInt 0))).2.2), ∀ (q1 : Q1 M1), AC l (pI pg 12) (fcV M1 (Q3 M1)) 0 0 [.ref 21, .int (Int32.ofInt 0)] SHF M1) (Q5 : aM → aM → aM → Prop) (c6 : ∀ (M1 : aM), ∀ (e1 : M1.2.2 = (aset (aset (aset (aset M 17 0 (.int (Int32.ofInt 0))) 17 1 (.int (Int32.ofInt 0))) 17 2 (.int (Int32.ofInt 0))) 17 3 (.int (Int32.ofInt 0))).2.2), ∀ (q1 : Q1 M1), ∀ (M3 : aM), ∀ (e3 : M3.2.2 = M1.2.2), ∀ (q3 : (Q3 M1) M3), AC l (pI pg 12) (fcV M3 (Q5 M1 M3)) 0 0 [.ref 24, .int (Int32.ofInt 0)] SHF M3) (Q7 : aM → aM → aM → aM → Prop) (c8 : ∀ (M1 : aM), ∀ (e1 : M1.2.2 = (aset (aset (aset (aset M 17 0 (.int (Int32.ofInt 0))) 17 1 (.int (Int32.ofInt 0))) 17 2 (.int (Int32.ofInt 0))) 17 3 (.int (Int32.ofInt 0))).2.2), ∀ (q1 : Q1 M1), ∀ (M3 : aM), ∀ (e3 : M3.2.2 = M1.2.2), ∀ (q3 : (Q3 M1) M3), ∀ (M5 : aM), ∀ (e5 : M5.2.2 = M3.2.2), ∀ (q5 : (Q5 M1 M3) M5), AC l (pI pg 12) (fcV M5 (Q7 M1 M3 M5)) 0 0 [.ref 25, .int (Int32.ofInt 0)] SHF M5) (r9 : ∀ (M1 : aM), ∀ (e1 : M1.2.2 = (aset (aset (aset (aset M 17 0 (.int (Int32.ofInt 0))) 17 1 (.int (Int32.ofInt 0))) 17 2 (.int (Int32.ofInt 0))) 17 3 (.int (Int32.ofInt 0))).2.2), ∀ (q1 : Q1 M1), ∀ (M3 : aM), ∀ (e3 : M3.2.2 = M1.2.2), ∀ (q3 : (Q3 M1) M3), ∀ (M5 : aM), ∀ (e5 : M5.2.2 = M3.2.2), ∀ (q5 : (Q5 M1 M3) M5), ∀ (M7 : aM), ∀ (e7 : M7.2.2 = M5.2.2), ∀ (q7 : (Q7 M1 M3 M5) M7), P (.inl none) SHF M7) : AW l (pI pg 46) P kc ks 0 [(0, .ref 17)] [] SHF M := by
  refine AW.aload_n (dq rfl) rfl rfl ?_
  show AW l (pI pg 46) P kc ks 1 _ _ SHF _
  refine AW.iconst (dq rfl) ?_
  show AW l (pI pg 46) P kc ks 2 _ _ SHF _
  refine fw_putI (dq rfl) (pg_ok.2.1 46 _ _ _ _ rfl) rfl rfl rfl ?_
  show AW l (pI pg 46) P kc ks 5 _ _ SHF _
  refine AW.aload_n (dq rfl) rfl rfl ?_
  show AW l (pI pg 46) P kc ks 6 _ _ SHF _
  refine AW.iconst (dq rfl) ?_
  show AW l (pI pg 46) P kc ks 7 _ _ SHF _
  refine fw_putI (dq rfl) (pg_ok.2.1 46 _ _ _ _ rfl) rfl rfl rfl ?_
  show AW l (pI pg 46) P kc ks 10 _ _ SHF _
  refine AW.aload_n (dq rfl) rfl rfl ?_
  show AW l (pI pg 46) P kc ks 11 _ _ SHF _
  refine AW.iconst (dq rfl) ?_
  show AW l (pI pg 46) P kc ks 12 _ _ SHF _
  refine fw_putI (dq rfl) (pg_ok.2.1 46 _ _ _ _ rfl) rfl rfl rfl ?_
  show AW l (pI pg 46) P kc ks 15 _ _ SHF _
  refine AW.aload_n (dq rfl) rfl rfl ?_
  show AW l (pI pg 46) P kc ks 16 _ _ SHF _
  refine AW.iconst (dq rfl) ?_
  show AW l (pI pg 46) P kc ks 17 _ _ SHF _
  refine fw_putI (dq rfl) (pg_ok.2.1 46 _ _ _ _ rfl) rfl rfl rfl ?_
  show AW l (pI pg 46) P kc ks 20 _ _ SHF _
  refine AW.aload_n (dq rfl) rfl rfl ?_
  show AW l (pI pg 46) P kc ks 21 _ _ SHF _
  refine fw_get (dq rfl) (pg_ok.2.1 46 _ _ _ _ rfl) rfl (v := .ref 20) (isTA_ok rfl (rgR_ok hJ rfl)) ?_
  show AW l (pI pg 46) P kc ks 24 _ _ SHF _
  refine AW.iconst (dq rfl) ?_
  show AW l (pI pg 46) P kc ks 25 _ _ SHF _
  refine fw_callSV (as := [.ref 20, .int (Int32.ofInt 0)]) (dq rfl) (pg_ok.2.2.1 46 _ _ _ _ rfl) (by decide +kernel) rfl rfl (c2) (fun M1 e1 q1 => ?_)
  have hJ1 : ∀ e ∈ RK, M1.2.2 e.1 e.2.1 = e.2.2 := fun e he => by rw [e1]; exact hJ e he
  show AW l (pI pg 46) P kc ks 28 [(0, .ref 17)] [] SHF _
  refine AW.aload_n (dq rfl) rfl rfl ?_
  show AW l (pI pg 46) P kc ks 29 _ _ SHF _
  refine fw_get (dq rfl) (pg_ok.2.1 46 _ _ _ _ rfl) rfl (v := .ref 21) (isTA_ok rfl (rgR_ok hJ1 rfl)) ?_
  show AW l (pI pg 46) P kc ks 32 _ _ SHF _
  refine AW.iconst (dq rfl) ?_
  show AW l (pI pg 46) P kc ks 33 _ _ SHF _
  refine fw_callSV (as := [.ref 21, .int (Int32.ofInt 0)]) (dq rfl) (pg_ok.2.2.1 46 _ _ _ _ rfl) (by decide +kernel) rfl rfl (c4 M1 e1 q1) (fun M3 e3 q3 => ?_)
  have hJ3 : ∀ e ∈ RK, M3.2.2 e.1 e.2.1 = e.2.2 := fun e he => by rw [e3]; exact hJ1 e he
  show AW l (pI pg 46) P kc ks 36 [(0, .ref 17)] [] SHF _
  refine AW.aload_n (dq rfl) rfl rfl ?_
  show AW l (pI pg 46) P kc ks 37 _ _ SHF _
  refine fw_get (dq rfl) (pg_ok.2.1 46 _ _ _ _ rfl) rfl (v := .ref 24) (isTA_ok rfl (rgR_ok hJ3 rfl)) ?_
  show AW l (pI pg 46) P kc ks 40 _ _ SHF _
  refine AW.iconst (dq rfl) ?_
  show AW l (pI pg 46) P kc ks 41 _ _ SHF _
  refine fw_callSV (as := [.ref 24, .int (Int32.ofInt 0)]) (dq rfl) (pg_ok.2.2.1 46 _ _ _ _ rfl) (by decide +kernel) rfl rfl (c6 M1 e1 q1 M3 e3 q3) (fun M5 e5 q5 => ?_)
  have hJ5 : ∀ e ∈ RK, M5.2.2 e.1 e.2.1 = e.2.2 := fun e he => by rw [e5]; exact hJ3 e he
  show AW l (pI pg 46) P kc ks 44 [(0, .ref 17)] [] SHF _
  refine AW.aload_n (dq rfl) rfl rfl ?_
  show AW l (pI pg 46) P kc ks 45 _ _ SHF _
  refine fw_get (dq rfl) (pg_ok.2.1 46 _ _ _ _ rfl) rfl (v := .ref 25) (isTA_ok rfl (rgR_ok hJ5 rfl)) ?_
  show AW l (pI pg 46) P kc ks 48 _ _ SHF _
  refine AW.iconst (dq rfl) ?_
  show AW l (pI pg 46) P kc ks 49 _ _ SHF _
  refine fw_callSV (as := [.ref 25, .int (Int32.ofInt 0)]) (dq rfl) (pg_ok.2.2.1 46 _ _ _ _ rfl) (by decide +kernel) rfl rfl (c8 M1 e1 q1 M3 e3 q3 M5 e5 q5) (fun M7 e7 q7 => ?_)
  have hJ7 : ∀ e ∈ RK, M7.2.2 e.1 e.2.1 = e.2.2 := fun e he => by rw [e7]; exact hJ5 e he
  show AW l (pI pg 46) P kc ks 52 [(0, .ref 17)] [] SHF _
  refine AW.vret (dq rfl) rfl ?_
  exact r9 M1 e1 q1 M3 e3 q3 M5 e5 q5 M7 e7 q7

theorem reaB_0 {l : aL} {P : aP} {kc ks : Nat} {x : Int32} {M : aM} (hJ : ∀ e ∈ RK, M.2.2 e.1 e.2.1 = e.2.2) (hl0 : l.1.stackTraces = false) (Q1 : aM → Prop) (c2 : AC l (pI pg 46) (fcV M Q1) 0 0 [.ref 17] SHF M) (Q3 : aM → aM → Prop) (c4 : ∀ (M1 : aM), ∀ (e1 : M1.2.2 = M.2.2), ∀ (q1 : Q1 M1), AC l (pI pg 47) (fcV M1 (Q3 M1)) 0 0 [.ref 2, .int (x)] SHF M1) (k5 : ∀ (M1 : aM), ∀ (e1 : M1.2.2 = M.2.2), ∀ (q1 : Q1 M1), ∀ (M3 : aM), ∀ (e3 : M3.2.2 = M1.2.2), ∀ (q3 : (Q3 M1) M3), AW l (pI pg 45) P kc ks 24 [(3, .int (Int32.ofInt 0)), (2, .int (x)), (1, .ref 17), (0, .ref 1)] [] SHF (aset (aset M3 1 1 (.int (Int32.ofInt 0))) 1 2 (.int (Int32.ofInt (-1))))) : AW l (pI pg 45) P kc ks 0 [(0, .ref 1), (1, .ref 17), (2, .int (x))] [] SHF M := by
  refine AW.aload_n (dq rfl) rfl rfl ?_
  show AW l (pI pg 45) P kc ks 1 _ _ SHF _
  refine fw_callVV (as := []) (dq rfl) (pg_ok.2.2.1 45 _ _ _ _ rfl) rfl (by decide +kernel) rfl rfl (c2) (fun M1 e1 q1 => ?_)
  have hJ1 : ∀ e ∈ RK, M1.2.2 e.1 e.2.1 = e.2.2 := fun e he => by rw [e1]; exact hJ e he
  show AW l (pI pg 45) P kc ks 4 [(0, .ref 1), (1, .ref 17), (2, .int (x))] [] SHF _
  refine AW.aload_n (dq rfl) rfl rfl ?_
  show AW l (pI pg 45) P kc ks 5 _ _ SHF _
  refine fw_get (dq rfl) (pg_ok.2.1 45 _ _ _ _ rfl) rfl (v := .ref 2) (isTA_ok rfl (rgR_ok hJ1 rfl)) ?_
  show AW l (pI pg 45) P kc ks 8 _ _ SHF _
  refine AW.iload_n (dq rfl) rfl ?_
  show AW l (pI pg 45) P kc ks 9 _ _ SHF _
  refine fw_callVV (as := [.int (x)]) (dq rfl) (pg_ok.2.2.1 45 _ _ _ _ rfl) rfl (by decide +kernel) rfl rfl (c4 M1 e1 q1) (fun M3 e3 q3 => ?_)
  have hJ3 : ∀ e ∈ RK, M3.2.2 e.1 e.2.1 = e.2.2 := fun e he => by rw [e3]; exact hJ1 e he
  show AW l (pI pg 45) P kc ks 12 [(0, .ref 1), (1, .ref 17), (2, .int (x))] [] SHF _
  refine AW.aload_n (dq rfl) rfl rfl ?_
  show AW l (pI pg 45) P kc ks 13 _ _ SHF _
  refine AW.iconst (dq rfl) ?_
  show AW l (pI pg 45) P kc ks 14 _ _ SHF _
  refine fw_putI (dq rfl) (pg_ok.2.1 45 _ _ _ _ rfl) rfl rfl rfl ?_
  show AW l (pI pg 45) P kc ks 17 _ _ SHF _
  refine AW.aload_n (dq rfl) rfl rfl ?_
  show AW l (pI pg 45) P kc ks 18 _ _ SHF _
  refine AW.iconst (dq rfl) ?_
  show AW l (pI pg 45) P kc ks 19 _ _ SHF _
  refine fw_putI (dq rfl) (pg_ok.2.1 45 _ _ _ _ rfl) rfl rfl rfl ?_
  show AW l (pI pg 45) P kc ks 22 _ _ SHF _
  refine AW.iconst (dq rfl) ?_
  show AW l (pI pg 45) P kc ks 23 _ _ SHF _
  refine AW.istore_n (dq rfl) (by decide +kernel) ?_
  show AW l (pI pg 45) P kc ks 24 [(3, .int (Int32.ofInt 0)), (0, .ref 1), (1, .ref 17), (2, .int (x))] [] SHF _
  refine AW.drop (lv' := [(3, .int (Int32.ofInt 0)), (2, .int (x)), (1, .ref 17), (0, .ref 1)]) (List.forall_mem_cons.mpr ⟨List.mem_of_getElem? (i := 0) rfl, List.forall_mem_cons.mpr ⟨List.mem_of_getElem? (i := 3) rfl, List.forall_mem_cons.mpr ⟨List.mem_of_getElem? (i := 2) rfl, List.forall_mem_cons.mpr ⟨List.mem_of_getElem? (i := 1) rfl, fun _ h => absurd h List.not_mem_nil⟩⟩⟩⟩) ?_
  exact k5 M1 e1 q1 M3 e3 q3

theorem reaB_24 {l : aL} {P : aP} {kc ks : Nat} {i n : Nat} {M : aM} (hJ : ∀ e ∈ RK, M.2.2 e.1 e.2.1 = e.2.2) (hl0 : l.1.stackTraces = false) (r2 : ∀ (h1 : (nI n : Int32) < (nI i : Int32)), P (.inl (some (.int (M.1 1 1)))) SHF M) (r4 : ∀ (h1 : ¬ ((nI n : Int32) < (nI i : Int32))), ∀ (h3 : ¬ (M.1 1 1 : Int32) = 0), P (.inl (some (.int (M.1 1 1)))) SHF M) (Q5 : aM → Prop) (c6 : ∀ (h1 : ¬ ((nI n : Int32) < (nI i : Int32))), ∀ (h3 : (M.1 1 1 : Int32) = 0), AC l (pI pg 48) (fcV M Q5) 0 0 [.ref 2] SHF M) (Q8 : aM → aM → Prop) (c9 : ∀ (h1 : ¬ ((nI n : Int32) < (nI i : Int32))), ∀ (h3 : (M.1 1 1 : Int32) = 0), ∀ (M5 : aM), ∀ (e5 : M5.2.2 = M.2.2), ∀ (q5 : Q5 M5), ∀ (h7 : ¬ (M5.1 2 3 : Int32) = 0), AC l (pI pg 52) (fcV M5 (Q8 M5)) 0 0 [.ref 1, .ref 17] SHF M5) (k10 : ∀ (h1 : ¬ ((nI n : Int32) < (nI i : Int32))), ∀ (h3 : (M.1 1 1 : Int32) = 0), ∀ (M5 : aM), ∀ (e5 : M5.2.2 = M.2.2), ∀ (q5 : Q5 M5), ∀ (h7 : ¬ (M5.1 2 3 : Int32) = 0), ∀ (M8 : aM), ∀ (e8 : M8.2.2 = M5.2.2), ∀ (q8 : (Q8 M5) M8), AW l (pI pg 45) P kc ks 24 [(3, .int ((nI i) + Int32.ofInt 1)), (2, .int (nI n)), (1, .ref 17), (0, .ref 1)] [] SHF M8) (r11 : ∀ (h1 : ¬ ((nI n : Int32) < (nI i : Int32))), ∀ (h3 : (M.1 1 1 : Int32) = 0), ∀ (M5 : aM), ∀ (e5 : M5.2.2 = M.2.2), ∀ (q5 : Q5 M5), ∀ (h7 : (M5.1 2 3 : Int32) = 0), P (.inl (some (.int (M5.1 1 1)))) SHF M5) : AW l (pI pg 45) P kc ks 24 [(3, .int (nI i)), (2, .int (nI n)), (1, .ref 17), (0, .ref 1)] [] SHF M := by
  refine AW.iload_n (dq rfl) rfl ?_
  show AW l (pI pg 45) P kc ks 25 _ _ SHF _
  refine AW.iload_n (dq rfl) rfl ?_
  show AW l (pI pg 45) P kc ks 26 _ _ SHF _
  refine AW.icmp_gt (dq rfl) (tgt := 67) (by decide) (fun h1 => ?_) (fun h1 => ?_)
  · have _ := h1
    refine AW.aload_n (dq rfl) rfl rfl ?_
    show AW l (pI pg 45) P kc ks 68 _ _ SHF _
    refine fw_get (dq rfl) (pg_ok.2.1 45 _ _ _ _ rfl) rfl (v := .int (M.1 1 1)) rfl ?_
    show AW l (pI pg 45) P kc ks 71 _ _ SHF _
    refine AW.iret (dq rfl) rfl ?_
    exact r2 h1
  · have _ := h1
    refine AW.aload_n (dq rfl) rfl rfl ?_
    show AW l (pI pg 45) P kc ks 30 _ _ SHF _
    refine fw_get (dq rfl) (pg_ok.2.1 45 _ _ _ _ rfl) rfl (v := .int (M.1 1 1)) rfl ?_
    show AW l (pI pg 45) P kc ks 33 _ _ SHF _
    refine AW.if_ne (dq rfl) (tgt := 67) (by decide) (fun h3 => ?_) (fun h3 => ?_)
    · have _ := h3
      refine AW.aload_n (dq rfl) rfl rfl ?_
      show AW l (pI pg 45) P kc ks 68 _ _ SHF _
      refine fw_get (dq rfl) (pg_ok.2.1 45 _ _ _ _ rfl) rfl (v := .int (M.1 1 1)) rfl ?_
      show AW l (pI pg 45) P kc ks 71 _ _ SHF _
      refine AW.iret (dq rfl) rfl ?_
      exact r4 h1 h3
    · have _ := h3
      refine AW.aload_n (dq rfl) rfl rfl ?_
      show AW l (pI pg 45) P kc ks 37 _ _ SHF _
      refine fw_get (dq rfl) (pg_ok.2.1 45 _ _ _ _ rfl) rfl (v := .ref 2) (isTA_ok rfl (rgR_ok hJ rfl)) ?_
      show AW l (pI pg 45) P kc ks 40 _ _ SHF _
      refine fw_callVV (as := []) (dq rfl) (pg_ok.2.2.1 45 _ _ _ _ rfl) rfl (by decide +kernel) rfl rfl (c6 h1 h3) (fun M5 e5 q5 => ?_)
      have hJ5 : ∀ e ∈ RK, M5.2.2 e.1 e.2.1 = e.2.2 := fun e he => by rw [e5]; exact hJ e he
      show AW l (pI pg 45) P kc ks 43 [(3, .int (nI i)), (2, .int (nI n)), (1, .ref 17), (0, .ref 1)] [] SHF _
      refine AW.aload_n (dq rfl) rfl rfl ?_
      show AW l (pI pg 45) P kc ks 44 _ _ SHF _
      refine fw_get (dq rfl) (pg_ok.2.1 45 _ _ _ _ rfl) rfl (v := .ref 2) (isTA_ok rfl (rgR_ok hJ5 rfl)) ?_
      show AW l (pI pg 45) P kc ks 47 _ _ SHF _
      refine fw_get (dq rfl) (pg_ok.2.1 45 _ _ _ _ rfl) rfl (v := .int (M5.1 2 3)) rfl ?_
      show AW l (pI pg 45) P kc ks 50 _ _ SHF _
      refine AW.if_ne (dq rfl) (tgt := 56) (by decide) (fun h7 => ?_) (fun h7 => ?_)
      · have _ := h7
        refine AW.aload_n (dq rfl) rfl rfl ?_
        show AW l (pI pg 45) P kc ks 57 _ _ SHF _
        refine AW.aload_n (dq rfl) rfl rfl ?_
        show AW l (pI pg 45) P kc ks 58 _ _ SHF _
        refine fw_callVV (as := [.ref 17]) (dq rfl) (pg_ok.2.2.1 45 _ _ _ _ rfl) rfl (by decide +kernel) rfl rfl (c9 h1 h3 M5 e5 q5 h7) (fun M8 e8 q8 => ?_)
        have hJ8 : ∀ e ∈ RK, M8.2.2 e.1 e.2.1 = e.2.2 := fun e he => by rw [e8]; exact hJ5 e he
        show AW l (pI pg 45) P kc ks 61 [(3, .int (nI i)), (2, .int (nI n)), (1, .ref 17), (0, .ref 1)] [] SHF _
        refine AW.iinc (dq rfl) rfl (by decide +kernel) ?_
        show AW l (pI pg 45) P kc ks 64 [(3, .int ((nI i) + Int32.ofInt 1)), (2, .int (nI n)), (1, .ref 17), (0, .ref 1)] [] SHF _
        refine AW.goto (dq rfl) (tgt := 24) (by decide) ?_
        refine AW.drop (lv' := [(3, .int ((nI i) + Int32.ofInt 1)), (2, .int (nI n)), (1, .ref 17), (0, .ref 1)]) (List.forall_mem_cons.mpr ⟨List.mem_of_getElem? (i := 0) rfl, List.forall_mem_cons.mpr ⟨List.mem_of_getElem? (i := 1) rfl, List.forall_mem_cons.mpr ⟨List.mem_of_getElem? (i := 2) rfl, List.forall_mem_cons.mpr ⟨List.mem_of_getElem? (i := 3) rfl, fun _ h => absurd h List.not_mem_nil⟩⟩⟩⟩) ?_
        exact k10 h1 h3 M5 e5 q5 h7 M8 e8 q8
      · have _ := h7
        refine AW.goto (dq rfl) (tgt := 67) (by decide) ?_
        refine AW.aload_n (dq rfl) rfl rfl ?_
        show AW l (pI pg 45) P kc ks 68 _ _ SHF _
        refine fw_get (dq rfl) (pg_ok.2.1 45 _ _ _ _ rfl) rfl (v := .int (M5.1 1 1)) rfl ?_
        show AW l (pI pg 45) P kc ks 71 _ _ SHF _
        refine AW.iret (dq rfl) rfl ?_
        exact r11 h1 h3 M5 e5 q5 h7

