/-! walking by hand: the rules as the walker (wip/gen/wg.py) prints them -/
theorem dq {id pc n : Nat} {i : Instr} (h : pT pg id pc = some (i, n)) : decode (iC (pI pg id)) pc = .ok (i, n) := pg_ok.1 _ _ _ _ h
/-- what a callee's contract says: the shapes stay, references stay; an int (a long, nothing) comes back -/
def fcI (M : aM) (Q : Int32 → aM → Prop) : aP := fun r sh' M' => sh' = SHF ∧ M'.2.2 = M.2.2 ∧ ∃ y : Int32, r = .inl (some (.int y)) ∧ Q y M'
def fcJ (M : aM) (Q : Int64 → aM → Prop) : aP := fun r sh' M' => sh' = SHF ∧ M'.2.2 = M.2.2 ∧ ∃ y : Int64, r = .inl (some (.long y)) ∧ Q y M'
def fcV (M : aM) (Q : aM → Prop) : aP := fun r sh' M' => sh' = SHF ∧ M'.2.2 = M.2.2 ∧ r = .inl none ∧ Q M'
section FW
variable {l : aL} {P : aP} {kc ks pc : Nat} {lv : List (Nat × Value)} {st as : List Value} {sh : aH} {M : aM} {id jd n i ci k f np : Nat}
theorem fw_get {v : Value} (hd : decode (iC (pI pg id)) pc = .ok (.getfield n, 3)) (hf : okF (pI pg id) n ci k f) (hi : sh.2[i]? = some (.inl ci)) (hv : ag M i k (tyO ci k) = v) (kk : AW l (pI pg id) P kc ks (pc + 3) lv (v :: st) sh M) : AW l (pI pg id) P kc ks pc lv (.ref i :: st) sh M := by
  obtain ⟨q, q1, q2, q3, q4, -⟩ := hf
  exact AW.getf hd hi q1 q2 q3 q4 hv kk
theorem fw_putI {x : Int32} (hd : decode (iC (pI pg id)) pc = .ok (.putfield n, 3)) (hf : okF (pI pg id) n ci k f) (hi : sh.2[i]? = some (.inl ci)) (h0 : f = 0) (ht : tyO ci k = .int) (kk : AW l (pI pg id) P kc ks (pc + 3) lv st sh (aset M i k (.int x))) : AW l (pI pg id) P kc ks pc lv (.int x :: .ref i :: st) sh M := by
  obtain ⟨q, q1, q2, q3, q4, q5, -⟩ := hf
  exact AW.putf hd hi q1 q2 q3 q4 (Or.inl (q5 h0)) (by rw [ht]; rfl) (by rw [ht]; exact fun _ => rfl) (by rw [ht]; exact fun _ => rfl) kk
theorem fw_putJ {x : Int64} (hd : decode (iC (pI pg id)) pc = .ok (.putfield n, 3)) (hf : okF (pI pg id) n ci k f) (hi : sh.2[i]? = some (.inl ci)) (h0 : f = 0) (ht : tyO ci k = .long) (kk : AW l (pI pg id) P kc ks (pc + 3) lv st sh (aset M i k (.long x))) : AW l (pI pg id) P kc ks pc lv (.long x :: .ref i :: st) sh M := by
  obtain ⟨q, q1, q2, q3, q4, q5, -⟩ := hf
  exact AW.putf hd hi q1 q2 q3 q4 (Or.inl (q5 h0)) (by rw [ht]; rfl) (by rw [ht]; exact fun _ => rfl) (by rw [ht]; exact fun _ => rfl) kk
theorem fw_putZ {x : Int32} (hd : decode (iC (pI pg id)) pc = .ok (.putfield n, 3)) (hf : okF (pI pg id) n ci k f) (hi : sh.2[i]? = some (.inl ci)) (h0 : f = 0) (ht : tyO ci k = .boolean) (hx : x = 0 ∨ x = 1) (kk : AW l (pI pg id) P kc ks (pc + 3) lv st sh (aset M i k (.int x))) : AW l (pI pg id) P kc ks pc lv (.int x :: .ref i :: st) sh M := by
  obtain ⟨q, q1, q2, q3, q4, q5, -⟩ := hf
  have hi2 : inI x (0, 1) := by rcases hx with rfl | rfl <;> exact ⟨by decide, by decide⟩
  obtain ⟨p1, p2, p3⟩ := ptI_ok (ty := .boolean) hi2 rfl
  exact AW.putf hd hi q1 q2 q3 q4 (Or.inl (q5 h0)) (by rw [ht]; exact p1) (by rw [ht]; exact p2) (by rw [ht]; exact p3) kk
theorem fw_callVI {Q : Int32 → aM → Prop} (hd : decode (iC (pI pg id)) pc = .ok (.invokevirtual n, 3)) (hm : okM (pI pg id) (pI pg jd) n 0 np (pN pg jd)) (hi : SHF.2[i]? = some (.inl (pN pg jd))) (hr : room pg id jd = true) (hst : Nat.ble (cats st) 8 = true) (hl : as.length = np) (hc : AC l (pI pg jd) (fcI M Q) 0 0 (.ref i :: as) SHF M)
    (kk : ∀ (y : Int32) (M' : aM), M'.2.2 = M.2.2 → Q y M' → AW l (pI pg id) P kc ks (pc + 3) lv (.int y :: st) SHF M') : AW l (pI pg id) P kc ks pc lv (as.reverse ++ .ref i :: st) SHF M := by
  obtain ⟨w1, w2, ⟨w, hq, hqc⟩, -⟩ := hm.1 rfl
  refine AW.callV (P1 := fcI M Q) (kc1 := 0) (ks1 := 0) hd hi hq hqc w1 ⟨by rw [hl]; exact w2, room_spec hr⟩ (Nat.le_of_ble_eq_true hst) hc (fun v sh' M' hp => ?_) (fun X sh' M' hp => ?_)
  · obtain ⟨rfl, h2, y, h3, h4⟩ := hp
    cases h3
    exact kk y M' h2 h4
  · obtain ⟨-, -, y, h3, -⟩ := hp
    cases h3
theorem fw_callVJ {Q : Int64 → aM → Prop} (hd : decode (iC (pI pg id)) pc = .ok (.invokevirtual n, 3)) (hm : okM (pI pg id) (pI pg jd) n 0 np (pN pg jd)) (hi : SHF.2[i]? = some (.inl (pN pg jd))) (hr : room pg id jd = true) (hst : Nat.ble (cats st) 8 = true) (hl : as.length = np) (hc : AC l (pI pg jd) (fcJ M Q) 0 0 (.ref i :: as) SHF M)
    (kk : ∀ (y : Int64) (M' : aM), M'.2.2 = M.2.2 → Q y M' → AW l (pI pg id) P kc ks (pc + 3) lv (.long y :: st) SHF M') : AW l (pI pg id) P kc ks pc lv (as.reverse ++ .ref i :: st) SHF M := by
  obtain ⟨w1, w2, ⟨w, hq, hqc⟩, -⟩ := hm.1 rfl
  refine AW.callV (P1 := fcJ M Q) (kc1 := 0) (ks1 := 0) hd hi hq hqc w1 ⟨by rw [hl]; exact w2, room_spec hr⟩ (Nat.le_of_ble_eq_true hst) hc (fun v sh' M' hp => ?_) (fun X sh' M' hp => ?_)
  · obtain ⟨rfl, h2, y, h3, h4⟩ := hp
    cases h3
    exact kk y M' h2 h4
  · obtain ⟨-, -, y, h3, -⟩ := hp
    cases h3
theorem fw_callVV {Q : aM → Prop} (hd : decode (iC (pI pg id)) pc = .ok (.invokevirtual n, 3)) (hm : okM (pI pg id) (pI pg jd) n 0 np (pN pg jd)) (hi : SHF.2[i]? = some (.inl (pN pg jd))) (hr : room pg id jd = true) (hst : Nat.ble (cats st) 8 = true) (hl : as.length = np) (hc : AC l (pI pg jd) (fcV M Q) 0 0 (.ref i :: as) SHF M)
    (kk : ∀ (M' : aM), M'.2.2 = M.2.2 → Q M' → AW l (pI pg id) P kc ks (pc + 3) lv st SHF M') : AW l (pI pg id) P kc ks pc lv (as.reverse ++ .ref i :: st) SHF M := by
  obtain ⟨w1, w2, ⟨w, hq, hqc⟩, -⟩ := hm.1 rfl
  refine AW.callV (P1 := fcV M Q) (kc1 := 0) (ks1 := 0) hd hi hq hqc w1 ⟨by rw [hl]; exact w2, room_spec hr⟩ (Nat.le_of_ble_eq_true hst) hc (fun v sh' M' hp => ?_) (fun X sh' M' hp => ?_)
  · obtain ⟨rfl, h2, h3, h4⟩ := hp
    cases h3
    exact kk M' h2 h4
  · obtain ⟨-, -, h3, -⟩ := hp
    cases h3
theorem fw_callSI {Q : Int32 → aM → Prop} (hd : decode (iC (pI pg id)) pc = .ok (.invokestatic n, 3)) (hm : okM (pI pg id) (pI pg jd) n 1 np (pN pg jd)) (hr : room pg id jd = true) (hst : Nat.ble (cats st) 8 = true) (hl : as.length = np) (hc : AC l (pI pg jd) (fcI M Q) 0 0 as SHF M)
    (kk : ∀ (y : Int32) (M' : aM), M'.2.2 = M.2.2 → Q y M' → AW l (pI pg id) P kc ks (pc + 3) lv (.int y :: st) SHF M') : AW l (pI pg id) P kc ks pc lv (as.reverse ++ st) SHF M := by
  obtain ⟨w1, w2, -⟩ := hm.2.1 rfl
  refine AW.callS (P1 := fcI M Q) (kc1 := 0) (ks1 := 0) hd w1 ⟨by rw [hl]; exact w2, room_spec hr⟩ (Nat.le_of_ble_eq_true hst) hc (fun v sh' M' hp => ?_) (fun X sh' M' hp => ?_)
  · obtain ⟨rfl, h2, y, h3, h4⟩ := hp
    cases h3
    exact kk y M' h2 h4
  · obtain ⟨-, -, y, h3, -⟩ := hp
    cases h3
theorem fw_callSJ {Q : Int64 → aM → Prop} (hd : decode (iC (pI pg id)) pc = .ok (.invokestatic n, 3)) (hm : okM (pI pg id) (pI pg jd) n 1 np (pN pg jd)) (hr : room pg id jd = true) (hst : Nat.ble (cats st) 8 = true) (hl : as.length = np) (hc : AC l (pI pg jd) (fcJ M Q) 0 0 as SHF M)
    (kk : ∀ (y : Int64) (M' : aM), M'.2.2 = M.2.2 → Q y M' → AW l (pI pg id) P kc ks (pc + 3) lv (.long y :: st) SHF M') : AW l (pI pg id) P kc ks pc lv (as.reverse ++ st) SHF M := by
  obtain ⟨w1, w2, -⟩ := hm.2.1 rfl
  refine AW.callS (P1 := fcJ M Q) (kc1 := 0) (ks1 := 0) hd w1 ⟨by rw [hl]; exact w2, room_spec hr⟩ (Nat.le_of_ble_eq_true hst) hc (fun v sh' M' hp => ?_) (fun X sh' M' hp => ?_)
  · obtain ⟨rfl, h2, y, h3, h4⟩ := hp
    cases h3
    exact kk y M' h2 h4
  · obtain ⟨-, -, y, h3, -⟩ := hp
    cases h3
/-- a contract out of a walk -/
theorem fw_of {av : List Value} (hl0 : l.1.stackTraces = false) (ho : okI (pI pg id)) (hlen : Nat.ble (lg_sl av).length (iL (pI pg id)) = true) (k : AW l (pI pg id) P kc ks 0 (lv_args 0 av) [] sh M) : AC l (pI pg id) P kc ks av sh M := AC.of hl0 ho.1 ho.2.1 ho.2.2 (Nat.le_of_ble_eq_true hlen) k
end FW
/-! numbers as they stand in the code -/
theorem z_0 : Int32.ofInt 0 = nI 0 := rfl
theorem z_1 : Int32.ofInt 1 = nI 1 := rfl
theorem z_m1 : Int32.ofInt (-1) = -1 := rfl
theorem z_8 : (Int8.ofInt 8).toInt32 = nI 8 := by decide
theorem z_256 : (Int16.ofInt 256).toInt32 = nI 256 := by decide
