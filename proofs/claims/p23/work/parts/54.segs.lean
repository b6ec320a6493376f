/-! stretches for feed and house, printed by wip/gen/segs_d.py -/
def shI : Nat → Int32
  | 0 => (Int8.ofInt 24).toInt32
  | i + 1 => shI i + Int32.ofInt (-8)
theorem fw_putR {l : aL} {P : aP} {kc ks pc : Nat} {lv : List (Nat × Value)} {st : List Value} {sh : aH} {M : aM} {id n i ci k f j : Nat} (hd : decode (iC (pI pg id)) pc = .ok (.putfield n, 3)) (hf : okF (pI pg id) n ci k f) (hi : sh.2[i]? = some (.inl ci)) (h0 : f = 0) (ht : isTA (tyO ci k) = true) (kk : AW l (pI pg id) P kc ks (pc + 3) lv st sh (aset M i k (.ref j))) : AW l (pI pg id) P kc ks pc lv (.ref j :: .ref i :: st) sh M := by
  obtain ⟨q, q1, q2, q3, q4, q5, -⟩ := hf
  have h1 : ∀ ty : FieldType, isTA ty = true → akind ty (.ref j) = true ∧ (∀ G, narrow ty (cv G (.ref j)) = cv G (.ref j)) ∧ ∀ G, fits ty (cv G (.ref j)) = true := by
    intro ty h
    cases ty <;> first
      | exact ⟨rfl, fun _ => rfl, fun _ => rfl⟩
      | cases h
  obtain ⟨p1, p2, p3⟩ := h1 _ ht
  exact AW.putf hd hi q1 q2 q3 q4 (Or.inl (q5 h0)) p1 p2 p3 kk
def RT2 : List (Nat × Nat × Nat) := [(2, 0, 4)]
theorem s25_0 {l : aL} {P : aP} {kc ks : Nat} {v : Int32} {M : aM} (hJ : ∀ e ∈ RT2, M.2.2 e.1 e.2.1 = e.2.2)  (k1 : AW l (pI pg 25) P kc ks 3 [(2, .int ((Int8.ofInt 24).toInt32)), (0, .ref 2), (1, .int (v))] [] SHF M) : AW l (pI pg 25) P kc ks 0 [(0, .ref 2), (1, .int (v))] [] SHF M := by
  refine AW.bipush (dq rfl) ?_
  show AW l (pI pg 25) P kc ks 2 _ _ SHF _
  refine AW.istore_n (dq rfl) (by decide +kernel) ?_
  show AW l (pI pg 25) P kc ks 3 [(2, .int ((Int8.ofInt 24).toInt32)), (0, .ref 2), (1, .int (v))] [] SHF _
  refine AW.drop (lv' := [(2, .int ((Int8.ofInt 24).toInt32)), (0, .ref 2), (1, .int (v))]) (List.forall_mem_cons.mpr ⟨List.mem_of_getElem? (i := 0) rfl, List.forall_mem_cons.mpr ⟨List.mem_of_getElem? (i := 1) rfl, List.forall_mem_cons.mpr ⟨List.mem_of_getElem? (i := 2) rfl, fun _ h => absurd h List.not_mem_nil⟩⟩⟩) ?_
  exact k1

theorem s25_3 {l : aL} {P : aP} {kc ks : Nat} {i : Nat} {v : Int32} {M : aM} (hJ : ∀ e ∈ RT2, M.2.2 e.1 e.2.1 = e.2.2)  (r2 : ∀ (h1 : (shI i : Int32) < 0), P (.inl none) SHF M) (k4 : ∀ (h1 : ¬ ((shI i : Int32) < 0)), ∀ (h3 : ((Int16.ofInt 800).toInt32 : Int32) ≤ (M.1 2 1 : Int32)), AW l (pI pg 25) P kc ks 3 [(2, .int ((shI i) + Int32.ofInt (-8))), (0, .ref 2), (1, .int (v))] [] SHF M) (o5 : ∀ (h1 : ¬ ((shI i : Int32) < 0)), ∀ (h3 : ¬ (((Int16.ofInt 800).toInt32 : Int32) ≤ (M.1 2 1 : Int32))), vp_in (M.1 2 1) 800) (k6 : ∀ (h1 : ¬ ((shI i : Int32) < 0)), ∀ (h3 : ¬ (((Int16.ofInt 800).toInt32 : Int32) ≤ (M.1 2 1 : Int32))), AW l (pI pg 25) P kc ks 3 [(2, .int ((shI i) + Int32.ofInt (-8))), (0, .ref 2), (1, .int (v))] [] SHF (aset (aset M 3 (M.1 2 1).toNatClampNeg (.int (vp_nar .byte (((v) >>> ((shI i) &&& 31)).toInt8.toInt32)))) 2 1 (.int (((aset M 3 (M.1 2 1).toNatClampNeg (.int (vp_nar .byte (((v) >>> ((shI i) &&& 31)).toInt8.toInt32)))).1 2 1) + (Int32.ofInt 1))))) : AW l (pI pg 25) P kc ks 3 [(2, .int (shI i)), (0, .ref 2), (1, .int (v))] [] SHF M := by
  refine AW.iload_n (dq rfl) rfl ?_
  show AW l (pI pg 25) P kc ks 4 _ _ SHF _
  refine AW.if_lt (dq rfl) (tgt := 46) (by decide) (fun h1 => ?_) (fun h1 => ?_)
  · have _ := h1
    refine AW.vret (dq rfl) rfl ?_
    exact r2 h1
  · have _ := h1
    refine AW.aload_n (dq rfl) rfl rfl ?_
    show AW l (pI pg 25) P kc ks 8 _ _ SHF _
    refine fw_get (dq rfl) (pg_ok.2.1 25 _ _ _ _ rfl) rfl (v := .int (M.1 2 1)) rfl ?_
    show AW l (pI pg 25) P kc ks 11 _ _ SHF _
    refine AW.sipush (dq rfl) ?_
    show AW l (pI pg 25) P kc ks 14 _ _ SHF _
    refine AW.icmp_ge (dq rfl) (tgt := 40) (by decide) (fun h3 => ?_) (fun h3 => ?_)
    · have _ := h3
      refine AW.iinc (dq rfl) rfl (by decide +kernel) ?_
      show AW l (pI pg 25) P kc ks 43 [(2, .int ((shI i) + Int32.ofInt (-8))), (0, .ref 2), (1, .int (v))] [] SHF _
      refine AW.goto (dq rfl) (tgt := 3) (by decide) ?_
      refine AW.drop (lv' := [(2, .int ((shI i) + Int32.ofInt (-8))), (0, .ref 2), (1, .int (v))]) (List.forall_mem_cons.mpr ⟨List.mem_of_getElem? (i := 0) rfl, List.forall_mem_cons.mpr ⟨List.mem_of_getElem? (i := 1) rfl, List.forall_mem_cons.mpr ⟨List.mem_of_getElem? (i := 2) rfl, fun _ h => absurd h List.not_mem_nil⟩⟩⟩) ?_
      exact k4 h1 h3
    · have _ := h3
      refine AW.aload_n (dq rfl) rfl rfl ?_
      show AW l (pI pg 25) P kc ks 18 _ _ SHF _
      refine fw_get (dq rfl) (pg_ok.2.1 25 _ _ _ _ rfl) rfl (v := .ref 3) (isTA_ok rfl (rgR_ok hJ rfl)) ?_
      show AW l (pI pg 25) P kc ks 21 _ _ SHF _
      refine AW.aload_n (dq rfl) rfl rfl ?_
      show AW l (pI pg 25) P kc ks 22 _ _ SHF _
      refine fw_get (dq rfl) (pg_ok.2.1 25 _ _ _ _ rfl) rfl (v := .int (M.1 2 1)) rfl ?_
      show AW l (pI pg 25) P kc ks 25 _ _ SHF _
      refine AW.iload_n (dq rfl) rfl ?_
      show AW l (pI pg 25) P kc ks 26 _ _ SHF _
      refine AW.iload_n (dq rfl) rfl ?_
      show AW l (pI pg 25) P kc ks 27 _ _ SHF _
      refine AW.ishr (dq rfl) ?_
      show AW l (pI pg 25) P kc ks 28 _ _ SHF _
      refine AW.i2b (dq rfl) ?_
      show AW l (pI pg 25) P kc ks 29 _ _ SHF _
      refine AW.bast (dq rfl) rfl (o5 h1 h3) ?_
      show AW l (pI pg 25) P kc ks 30 _ _ SHF _
      refine AW.aload_n (dq rfl) rfl rfl ?_
      show AW l (pI pg 25) P kc ks 31 _ _ SHF _
      refine AW.dup (dq rfl) rfl ?_
      show AW l (pI pg 25) P kc ks 32 _ _ SHF _
      refine fw_get (dq rfl) (pg_ok.2.1 25 _ _ _ _ rfl) rfl (v := .int ((aset M 3 (M.1 2 1).toNatClampNeg (.int (vp_nar .byte (((v) >>> ((shI i) &&& 31)).toInt8.toInt32)))).1 2 1)) rfl ?_
      show AW l (pI pg 25) P kc ks 35 _ _ SHF _
      refine AW.iconst (dq rfl) ?_
      show AW l (pI pg 25) P kc ks 36 _ _ SHF _
      refine AW.iadd (dq rfl) ?_
      show AW l (pI pg 25) P kc ks 37 _ _ SHF _
      refine fw_putI (dq rfl) (pg_ok.2.1 25 _ _ _ _ rfl) rfl rfl rfl ?_
      show AW l (pI pg 25) P kc ks 40 _ _ SHF _
      refine AW.iinc (dq rfl) rfl (by decide +kernel) ?_
      show AW l (pI pg 25) P kc ks 43 [(2, .int ((shI i) + Int32.ofInt (-8))), (0, .ref 2), (1, .int (v))] [] SHF _
      refine AW.goto (dq rfl) (tgt := 3) (by decide) ?_
      refine AW.drop (lv' := [(2, .int ((shI i) + Int32.ofInt (-8))), (0, .ref 2), (1, .int (v))]) (List.forall_mem_cons.mpr ⟨List.mem_of_getElem? (i := 0) rfl, List.forall_mem_cons.mpr ⟨List.mem_of_getElem? (i := 1) rfl, List.forall_mem_cons.mpr ⟨List.mem_of_getElem? (i := 2) rfl, fun _ h => absurd h List.not_mem_nil⟩⟩⟩) ?_
      exact k6 h1 h3

theorem s172_0 {l : aL} {P : aP} {kc ks : Nat} {v : Int32} {M : aM} (hJ : ∀ e ∈ RM, M.2.2 e.1 e.2.1 = e.2.2)  (k1 : AW l (pI pg 173) P kc ks 3 [(2, .int ((Int8.ofInt 24).toInt32)), (0, .ref 58), (1, .int (v))] [] SHF M) : AW l (pI pg 173) P kc ks 0 [(0, .ref 58), (1, .int (v))] [] SHF M := by
  refine AW.bipush (dq rfl) ?_
  show AW l (pI pg 173) P kc ks 2 _ _ SHF _
  refine AW.istore_n (dq rfl) (by decide +kernel) ?_
  show AW l (pI pg 173) P kc ks 3 [(2, .int ((Int8.ofInt 24).toInt32)), (0, .ref 58), (1, .int (v))] [] SHF _
  refine AW.drop (lv' := [(2, .int ((Int8.ofInt 24).toInt32)), (0, .ref 58), (1, .int (v))]) (List.forall_mem_cons.mpr ⟨List.mem_of_getElem? (i := 0) rfl, List.forall_mem_cons.mpr ⟨List.mem_of_getElem? (i := 1) rfl, List.forall_mem_cons.mpr ⟨List.mem_of_getElem? (i := 2) rfl, fun _ h => absurd h List.not_mem_nil⟩⟩⟩) ?_
  exact k1

theorem s172_3 {l : aL} {P : aP} {kc ks : Nat} {i : Nat} {v : Int32} {M : aM} (hJ : ∀ e ∈ RM, M.2.2 e.1 e.2.1 = e.2.2)  (r2 : ∀ (h1 : (shI i : Int32) < 0), P (.inl none) SHF M) (o3 : ∀ (h1 : ¬ ((shI i : Int32) < 0)), vp_in (M.1 58 12) 800) (k4 : ∀ (h1 : ¬ ((shI i : Int32) < 0)), AW l (pI pg 173) P kc ks 3 [(2, .int ((shI i) + Int32.ofInt (-8))), (0, .ref 58), (1, .int (v))] [] SHF (aset (aset M 65 (M.1 58 12).toNatClampNeg (.int (((v) >>> ((shI i) &&& 31)) &&& ((Int16.ofInt 255).toInt32)))) 58 12 (.int (((aset M 65 (M.1 58 12).toNatClampNeg (.int (((v) >>> ((shI i) &&& 31)) &&& ((Int16.ofInt 255).toInt32)))).1 58 12) + (Int32.ofInt 1))))) : AW l (pI pg 173) P kc ks 3 [(2, .int (shI i)), (0, .ref 58), (1, .int (v))] [] SHF M := by
  refine AW.iload_n (dq rfl) rfl ?_
  show AW l (pI pg 173) P kc ks 4 _ _ SHF _
  refine AW.if_lt (dq rfl) (tgt := 39) (by decide) (fun h1 => ?_) (fun h1 => ?_)
  · have _ := h1
    refine AW.vret (dq rfl) rfl ?_
    exact r2 h1
  · have _ := h1
    refine AW.aload_n (dq rfl) rfl rfl ?_
    show AW l (pI pg 173) P kc ks 8 _ _ SHF _
    refine fw_get (dq rfl) (pg_ok.2.1 173 _ _ _ _ rfl) rfl (v := .ref 65) (isTA_ok rfl (rgR_ok hJ rfl)) ?_
    show AW l (pI pg 173) P kc ks 11 _ _ SHF _
    refine AW.aload_n (dq rfl) rfl rfl ?_
    show AW l (pI pg 173) P kc ks 12 _ _ SHF _
    refine fw_get (dq rfl) (pg_ok.2.1 173 _ _ _ _ rfl) rfl (v := .int (M.1 58 12)) rfl ?_
    show AW l (pI pg 173) P kc ks 15 _ _ SHF _
    refine AW.iload_n (dq rfl) rfl ?_
    show AW l (pI pg 173) P kc ks 16 _ _ SHF _
    refine AW.iload_n (dq rfl) rfl ?_
    show AW l (pI pg 173) P kc ks 17 _ _ SHF _
    refine AW.ishr (dq rfl) ?_
    show AW l (pI pg 173) P kc ks 18 _ _ SHF _
    refine AW.sipush (dq rfl) ?_
    show AW l (pI pg 173) P kc ks 21 _ _ SHF _
    refine AW.iand (dq rfl) ?_
    show AW l (pI pg 173) P kc ks 22 _ _ SHF _
    refine AW.iast (dq rfl) rfl (o3 h1) ?_
    show AW l (pI pg 173) P kc ks 23 _ _ SHF _
    refine AW.aload_n (dq rfl) rfl rfl ?_
    show AW l (pI pg 173) P kc ks 24 _ _ SHF _
    refine AW.dup (dq rfl) rfl ?_
    show AW l (pI pg 173) P kc ks 25 _ _ SHF _
    refine fw_get (dq rfl) (pg_ok.2.1 173 _ _ _ _ rfl) rfl (v := .int ((aset M 65 (M.1 58 12).toNatClampNeg (.int (((v) >>> ((shI i) &&& 31)) &&& ((Int16.ofInt 255).toInt32)))).1 58 12)) rfl ?_
    show AW l (pI pg 173) P kc ks 28 _ _ SHF _
    refine AW.iconst (dq rfl) ?_
    show AW l (pI pg 173) P kc ks 29 _ _ SHF _
    refine AW.iadd (dq rfl) ?_
    show AW l (pI pg 173) P kc ks 30 _ _ SHF _
    refine fw_putI (dq rfl) (pg_ok.2.1 173 _ _ _ _ rfl) rfl rfl rfl ?_
    show AW l (pI pg 173) P kc ks 33 _ _ SHF _
    refine AW.iinc (dq rfl) rfl (by decide +kernel) ?_
    show AW l (pI pg 173) P kc ks 36 [(2, .int ((shI i) + Int32.ofInt (-8))), (0, .ref 58), (1, .int (v))] [] SHF _
    refine AW.goto (dq rfl) (tgt := 3) (by decide) ?_
    refine AW.drop (lv' := [(2, .int ((shI i) + Int32.ofInt (-8))), (0, .ref 58), (1, .int (v))]) (List.forall_mem_cons.mpr ⟨List.mem_of_getElem? (i := 0) rfl, List.forall_mem_cons.mpr ⟨List.mem_of_getElem? (i := 1) rfl, List.forall_mem_cons.mpr ⟨List.mem_of_getElem? (i := 2) rfl, fun _ h => absurd h List.not_mem_nil⟩⟩⟩) ?_
    exact k4 h1

def RC : List (Nat × Nat × Nat) := [(0, 0, 2), (1, 0, 3), (2, 0, 4), (0, 12, 58)]
theorem s24_0 {l : aL} {P : aP} {kc ks : Nat} {v1 v2 v3 v4 v5 : Int32} {M : aM} (hJ : ∀ e ∈ RC, M.2.2 e.1 e.2.1 = e.2.2)  (Q2 : aM → Prop) (c3 : ∀ (h1 : (M.1 2 1 : Int32) ≤ ((Int16.ofInt 780).toInt32 : Int32)), AC l (pI pg 25) (fcV M Q2) 0 0 [.ref 2, .int (v1)] SHF M) (Q4 : aM → aM → Prop) (c5 : ∀ (h1 : (M.1 2 1 : Int32) ≤ ((Int16.ofInt 780).toInt32 : Int32)), ∀ (M2 : aM), ∀ (e2 : M2.2.2 = M.2.2), ∀ (q2 : Q2 M2), AC l (pI pg 25) (fcV M2 (Q4 M2)) 0 0 [.ref 2, .int (v2)] SHF M2) (Q6 : aM → aM → aM → Prop) (c7 : ∀ (h1 : (M.1 2 1 : Int32) ≤ ((Int16.ofInt 780).toInt32 : Int32)), ∀ (M2 : aM), ∀ (e2 : M2.2.2 = M.2.2), ∀ (q2 : Q2 M2), ∀ (M4 : aM), ∀ (e4 : M4.2.2 = M2.2.2), ∀ (q4 : (Q4 M2) M4), AC l (pI pg 25) (fcV M4 (Q6 M2 M4)) 0 0 [.ref 2, .int (v3)] SHF M4) (Q8 : aM → aM → aM → aM → Prop) (c9 : ∀ (h1 : (M.1 2 1 : Int32) ≤ ((Int16.ofInt 780).toInt32 : Int32)), ∀ (M2 : aM), ∀ (e2 : M2.2.2 = M.2.2), ∀ (q2 : Q2 M2), ∀ (M4 : aM), ∀ (e4 : M4.2.2 = M2.2.2), ∀ (q4 : (Q4 M2) M4), ∀ (M6 : aM), ∀ (e6 : M6.2.2 = M4.2.2), ∀ (q6 : (Q6 M2 M4) M6), AC l (pI pg 25) (fcV M6 (Q8 M2 M4 M6)) 0 0 [.ref 2, .int (v4)] SHF M6) (Q10 : aM → aM → aM → aM → aM → Prop) (c11 : ∀ (h1 : (M.1 2 1 : Int32) ≤ ((Int16.ofInt 780).toInt32 : Int32)), ∀ (M2 : aM), ∀ (e2 : M2.2.2 = M.2.2), ∀ (q2 : Q2 M2), ∀ (M4 : aM), ∀ (e4 : M4.2.2 = M2.2.2), ∀ (q4 : (Q4 M2) M4), ∀ (M6 : aM), ∀ (e6 : M6.2.2 = M4.2.2), ∀ (q6 : (Q6 M2 M4) M6), ∀ (M8 : aM), ∀ (e8 : M8.2.2 = M6.2.2), ∀ (q8 : (Q8 M2 M4 M6) M8), AC l (pI pg 25) (fcV M8 (Q10 M2 M4 M6 M8)) 0 0 [.ref 2, .int (v5)] SHF M8) (r12 : ∀ (h1 : (M.1 2 1 : Int32) ≤ ((Int16.ofInt 780).toInt32 : Int32)), ∀ (M2 : aM), ∀ (e2 : M2.2.2 = M.2.2), ∀ (q2 : Q2 M2), ∀ (M4 : aM), ∀ (e4 : M4.2.2 = M2.2.2), ∀ (q4 : (Q4 M2) M4), ∀ (M6 : aM), ∀ (e6 : M6.2.2 = M4.2.2), ∀ (q6 : (Q6 M2 M4) M6), ∀ (M8 : aM), ∀ (e8 : M8.2.2 = M6.2.2), ∀ (q8 : (Q8 M2 M4 M6) M8), ∀ (M10 : aM), ∀ (e10 : M10.2.2 = M8.2.2), ∀ (q10 : (Q10 M2 M4 M6 M8) M10), P (.inl (some (.int (M10.1 2 1)))) SHF M10) (r13 : ∀ (h1 : ¬ ((M.1 2 1 : Int32) ≤ ((Int16.ofInt 780).toInt32 : Int32))), P (.inl (some (.int (Int32.ofInt (-1))))) SHF M) : AW l (pI pg 24) P kc ks 0 [(0, .ref 0), (1, .int (v1)), (2, .int (v2)), (3, .int (v3)), (4, .int (v4)), (5, .int (v5))] [] SHF M := by
  refine AW.aload_n (dq rfl) rfl rfl ?_
  show AW l (pI pg 24) P kc ks 1 _ _ SHF _
  refine fw_get (dq rfl) (pg_ok.2.1 24 _ _ _ _ rfl) rfl (v := .ref 1) (isTA_ok rfl (rgR_ok hJ rfl)) ?_
  show AW l (pI pg 24) P kc ks 4 _ _ SHF _
  refine fw_get (dq rfl) (pg_ok.2.1 24 _ _ _ _ rfl) rfl (v := .ref 2) (isTA_ok rfl (rgR_ok hJ rfl)) ?_
  show AW l (pI pg 24) P kc ks 7 _ _ SHF _
  refine AW.astore (dq rfl) rfl (by decide +kernel) ?_
  show AW l (pI pg 24) P kc ks 9 [(6, .ref 2), (0, .ref 0), (1, .int (v1)), (2, .int (v2)), (3, .int (v3)), (4, .int (v4)), (5, .int (v5))] [] SHF _
  refine AW.aload (dq rfl) rfl rfl ?_
  show AW l (pI pg 24) P kc ks 11 _ _ SHF _
  refine fw_get (dq rfl) (pg_ok.2.1 24 _ _ _ _ rfl) rfl (v := .int (M.1 2 1)) rfl ?_
  show AW l (pI pg 24) P kc ks 14 _ _ SHF _
  refine AW.sipush (dq rfl) ?_
  show AW l (pI pg 24) P kc ks 17 _ _ SHF _
  refine AW.icmp_le (dq rfl) (tgt := 22) (by decide) (fun h1 => ?_) (fun h1 => ?_)
  · have _ := h1
    refine AW.aload (dq rfl) rfl rfl ?_
    show AW l (pI pg 24) P kc ks 24 _ _ SHF _
    refine AW.iload_n (dq rfl) rfl ?_
    show AW l (pI pg 24) P kc ks 25 _ _ SHF _
    refine fw_callVV (as := [.int (v1)]) (dq rfl) (pg_ok.2.2.1 24 _ _ _ _ rfl) rfl (by decide +kernel) rfl rfl (c3 h1) (fun M2 e2 q2 => ?_)
    have hJ2 : ∀ e ∈ RC, M2.2.2 e.1 e.2.1 = e.2.2 := fun e he => by rw [e2]; exact hJ e he
    show AW l (pI pg 24) P kc ks 28 [(6, .ref 2), (0, .ref 0), (1, .int (v1)), (2, .int (v2)), (3, .int (v3)), (4, .int (v4)), (5, .int (v5))] [] SHF _
    refine AW.aload (dq rfl) rfl rfl ?_
    show AW l (pI pg 24) P kc ks 30 _ _ SHF _
    refine AW.iload_n (dq rfl) rfl ?_
    show AW l (pI pg 24) P kc ks 31 _ _ SHF _
    refine fw_callVV (as := [.int (v2)]) (dq rfl) (pg_ok.2.2.1 24 _ _ _ _ rfl) rfl (by decide +kernel) rfl rfl (c5 h1 M2 e2 q2) (fun M4 e4 q4 => ?_)
    have hJ4 : ∀ e ∈ RC, M4.2.2 e.1 e.2.1 = e.2.2 := fun e he => by rw [e4]; exact hJ2 e he
    show AW l (pI pg 24) P kc ks 34 [(6, .ref 2), (0, .ref 0), (1, .int (v1)), (2, .int (v2)), (3, .int (v3)), (4, .int (v4)), (5, .int (v5))] [] SHF _
    refine AW.aload (dq rfl) rfl rfl ?_
    show AW l (pI pg 24) P kc ks 36 _ _ SHF _
    refine AW.iload_n (dq rfl) rfl ?_
    show AW l (pI pg 24) P kc ks 37 _ _ SHF _
    refine fw_callVV (as := [.int (v3)]) (dq rfl) (pg_ok.2.2.1 24 _ _ _ _ rfl) rfl (by decide +kernel) rfl rfl (c7 h1 M2 e2 q2 M4 e4 q4) (fun M6 e6 q6 => ?_)
    have hJ6 : ∀ e ∈ RC, M6.2.2 e.1 e.2.1 = e.2.2 := fun e he => by rw [e6]; exact hJ4 e he
    show AW l (pI pg 24) P kc ks 40 [(6, .ref 2), (0, .ref 0), (1, .int (v1)), (2, .int (v2)), (3, .int (v3)), (4, .int (v4)), (5, .int (v5))] [] SHF _
    refine AW.aload (dq rfl) rfl rfl ?_
    show AW l (pI pg 24) P kc ks 42 _ _ SHF _
    refine AW.iload (dq rfl) rfl ?_
    show AW l (pI pg 24) P kc ks 44 _ _ SHF _
    refine fw_callVV (as := [.int (v4)]) (dq rfl) (pg_ok.2.2.1 24 _ _ _ _ rfl) rfl (by decide +kernel) rfl rfl (c9 h1 M2 e2 q2 M4 e4 q4 M6 e6 q6) (fun M8 e8 q8 => ?_)
    have hJ8 : ∀ e ∈ RC, M8.2.2 e.1 e.2.1 = e.2.2 := fun e he => by rw [e8]; exact hJ6 e he
    show AW l (pI pg 24) P kc ks 47 [(6, .ref 2), (0, .ref 0), (1, .int (v1)), (2, .int (v2)), (3, .int (v3)), (4, .int (v4)), (5, .int (v5))] [] SHF _
    refine AW.aload (dq rfl) rfl rfl ?_
    show AW l (pI pg 24) P kc ks 49 _ _ SHF _
    refine AW.iload (dq rfl) rfl ?_
    show AW l (pI pg 24) P kc ks 51 _ _ SHF _
    refine fw_callVV (as := [.int (v5)]) (dq rfl) (pg_ok.2.2.1 24 _ _ _ _ rfl) rfl (by decide +kernel) rfl rfl (c11 h1 M2 e2 q2 M4 e4 q4 M6 e6 q6 M8 e8 q8) (fun M10 e10 q10 => ?_)
    have hJ10 : ∀ e ∈ RC, M10.2.2 e.1 e.2.1 = e.2.2 := fun e he => by rw [e10]; exact hJ8 e he
    show AW l (pI pg 24) P kc ks 54 [(6, .ref 2), (0, .ref 0), (1, .int (v1)), (2, .int (v2)), (3, .int (v3)), (4, .int (v4)), (5, .int (v5))] [] SHF _
    refine AW.aload (dq rfl) rfl rfl ?_
    show AW l (pI pg 24) P kc ks 56 _ _ SHF _
    refine fw_get (dq rfl) (pg_ok.2.1 24 _ _ _ _ rfl) rfl (v := .int (M10.1 2 1)) rfl ?_
    show AW l (pI pg 24) P kc ks 59 _ _ SHF _
    refine AW.iret (dq rfl) rfl ?_
    exact r12 h1 M2 e2 q2 M4 e4 q4 M6 e6 q6 M8 e8 q8 M10 e10 q10
  · have _ := h1
    refine AW.iconst (dq rfl) ?_
    show AW l (pI pg 24) P kc ks 21 _ _ SHF _
    refine AW.iret (dq rfl) rfl ?_
    exact r13 h1

theorem s171_0 {l : aL} {P : aP} {kc ks : Nat} {v1 v2 v3 v4 v5 : Int32} {M : aM} (hJ : ∀ e ∈ RM, M.2.2 e.1 e.2.1 = e.2.2)  (Q2 : aM → Prop) (c3 : ∀ (h1 : (((aset M 58 0 (.int (Int32.ofInt 0))).1 58 12) + ((Int8.ofInt 20).toInt32) : Int32) ≤ ((Int16.ofInt 800).toInt32 : Int32)), AC l (pI pg 173) (fcV (aset M 58 0 (.int (Int32.ofInt 0))) Q2) 0 0 [.ref 58, .int (v1)] SHF (aset M 58 0 (.int (Int32.ofInt 0)))) (Q4 : aM → aM → Prop) (c5 : ∀ (h1 : (((aset M 58 0 (.int (Int32.ofInt 0))).1 58 12) + ((Int8.ofInt 20).toInt32) : Int32) ≤ ((Int16.ofInt 800).toInt32 : Int32)), ∀ (M2 : aM), ∀ (e2 : M2.2.2 = (aset M 58 0 (.int (Int32.ofInt 0))).2.2), ∀ (q2 : Q2 M2), AC l (pI pg 173) (fcV M2 (Q4 M2)) 0 0 [.ref 58, .int (v2)] SHF M2) (Q6 : aM → aM → aM → Prop) (c7 : ∀ (h1 : (((aset M 58 0 (.int (Int32.ofInt 0))).1 58 12) + ((Int8.ofInt 20).toInt32) : Int32) ≤ ((Int16.ofInt 800).toInt32 : Int32)), ∀ (M2 : aM), ∀ (e2 : M2.2.2 = (aset M 58 0 (.int (Int32.ofInt 0))).2.2), ∀ (q2 : Q2 M2), ∀ (M4 : aM), ∀ (e4 : M4.2.2 = M2.2.2), ∀ (q4 : (Q4 M2) M4), AC l (pI pg 173) (fcV M4 (Q6 M2 M4)) 0 0 [.ref 58, .int (v3)] SHF M4) (Q8 : aM → aM → aM → aM → Prop) (c9 : ∀ (h1 : (((aset M 58 0 (.int (Int32.ofInt 0))).1 58 12) + ((Int8.ofInt 20).toInt32) : Int32) ≤ ((Int16.ofInt 800).toInt32 : Int32)), ∀ (M2 : aM), ∀ (e2 : M2.2.2 = (aset M 58 0 (.int (Int32.ofInt 0))).2.2), ∀ (q2 : Q2 M2), ∀ (M4 : aM), ∀ (e4 : M4.2.2 = M2.2.2), ∀ (q4 : (Q4 M2) M4), ∀ (M6 : aM), ∀ (e6 : M6.2.2 = M4.2.2), ∀ (q6 : (Q6 M2 M4) M6), AC l (pI pg 173) (fcV M6 (Q8 M2 M4 M6)) 0 0 [.ref 58, .int (v4)] SHF M6) (Q10 : aM → aM → aM → aM → aM → Prop) (c11 : ∀ (h1 : (((aset M 58 0 (.int (Int32.ofInt 0))).1 58 12) + ((Int8.ofInt 20).toInt32) : Int32) ≤ ((Int16.ofInt 800).toInt32 : Int32)), ∀ (M2 : aM), ∀ (e2 : M2.2.2 = (aset M 58 0 (.int (Int32.ofInt 0))).2.2), ∀ (q2 : Q2 M2), ∀ (M4 : aM), ∀ (e4 : M4.2.2 = M2.2.2), ∀ (q4 : (Q4 M2) M4), ∀ (M6 : aM), ∀ (e6 : M6.2.2 = M4.2.2), ∀ (q6 : (Q6 M2 M4) M6), ∀ (M8 : aM), ∀ (e8 : M8.2.2 = M6.2.2), ∀ (q8 : (Q8 M2 M4 M6) M8), AC l (pI pg 173) (fcV M8 (Q10 M2 M4 M6 M8)) 0 0 [.ref 58, .int (v5)] SHF M8) (r12 : ∀ (h1 : (((aset M 58 0 (.int (Int32.ofInt 0))).1 58 12) + ((Int8.ofInt 20).toInt32) : Int32) ≤ ((Int16.ofInt 800).toInt32 : Int32)), ∀ (M2 : aM), ∀ (e2 : M2.2.2 = (aset M 58 0 (.int (Int32.ofInt 0))).2.2), ∀ (q2 : Q2 M2), ∀ (M4 : aM), ∀ (e4 : M4.2.2 = M2.2.2), ∀ (q4 : (Q4 M2) M4), ∀ (M6 : aM), ∀ (e6 : M6.2.2 = M4.2.2), ∀ (q6 : (Q6 M2 M4) M6), ∀ (M8 : aM), ∀ (e8 : M8.2.2 = M6.2.2), ∀ (q8 : (Q8 M2 M4 M6) M8), ∀ (M10 : aM), ∀ (e10 : M10.2.2 = M8.2.2), ∀ (q10 : (Q10 M2 M4 M6 M8) M10), P (.inl (some (.int (M10.1 58 12)))) SHF M10) (r13 : ∀ (h1 : ¬ ((((aset M 58 0 (.int (Int32.ofInt 0))).1 58 12) + ((Int8.ofInt 20).toInt32) : Int32) ≤ ((Int16.ofInt 800).toInt32 : Int32))), P (.inl (some (.int (Int32.ofInt (-1))))) SHF (aset M 58 0 (.int (Int32.ofInt 0)))) : AW l (pI pg 172) P kc ks 0 [(0, .ref 58), (1, .int (v1)), (2, .int (v2)), (3, .int (v3)), (4, .int (v4)), (5, .int (v5))] [] SHF M := by
  refine AW.aload_n (dq rfl) rfl rfl ?_
  show AW l (pI pg 172) P kc ks 1 _ _ SHF _
  refine AW.iconst (dq rfl) ?_
  show AW l (pI pg 172) P kc ks 2 _ _ SHF _
  refine fw_putI (dq rfl) (pg_ok.2.1 172 _ _ _ _ rfl) rfl rfl rfl ?_
  show AW l (pI pg 172) P kc ks 5 _ _ SHF _
  refine AW.aload_n (dq rfl) rfl rfl ?_
  show AW l (pI pg 172) P kc ks 6 _ _ SHF _
  refine fw_get (dq rfl) (pg_ok.2.1 172 _ _ _ _ rfl) rfl (v := .int ((aset M 58 0 (.int (Int32.ofInt 0))).1 58 12)) rfl ?_
  show AW l (pI pg 172) P kc ks 9 _ _ SHF _
  refine AW.bipush (dq rfl) ?_
  show AW l (pI pg 172) P kc ks 11 _ _ SHF _
  refine AW.iadd (dq rfl) ?_
  show AW l (pI pg 172) P kc ks 12 _ _ SHF _
  refine AW.sipush (dq rfl) ?_
  show AW l (pI pg 172) P kc ks 15 _ _ SHF _
  refine AW.icmp_le (dq rfl) (tgt := 20) (by decide) (fun h1 => ?_) (fun h1 => ?_)
  · have _ := h1
    refine AW.aload_n (dq rfl) rfl rfl ?_
    show AW l (pI pg 172) P kc ks 21 _ _ SHF _
    refine AW.iload_n (dq rfl) rfl ?_
    show AW l (pI pg 172) P kc ks 22 _ _ SHF _
    refine fw_callVV (as := [.int (v1)]) (dq rfl) (pg_ok.2.2.1 172 _ _ _ _ rfl) rfl (by decide +kernel) rfl rfl (c3 h1) (fun M2 e2 q2 => ?_)
    have hJ2 : ∀ e ∈ RM, M2.2.2 e.1 e.2.1 = e.2.2 := fun e he => by rw [e2]; exact hJ e he
    show AW l (pI pg 172) P kc ks 25 [(0, .ref 58), (1, .int (v1)), (2, .int (v2)), (3, .int (v3)), (4, .int (v4)), (5, .int (v5))] [] SHF _
    refine AW.aload_n (dq rfl) rfl rfl ?_
    show AW l (pI pg 172) P kc ks 26 _ _ SHF _
    refine AW.iload_n (dq rfl) rfl ?_
    show AW l (pI pg 172) P kc ks 27 _ _ SHF _
    refine fw_callVV (as := [.int (v2)]) (dq rfl) (pg_ok.2.2.1 172 _ _ _ _ rfl) rfl (by decide +kernel) rfl rfl (c5 h1 M2 e2 q2) (fun M4 e4 q4 => ?_)
    have hJ4 : ∀ e ∈ RM, M4.2.2 e.1 e.2.1 = e.2.2 := fun e he => by rw [e4]; exact hJ2 e he
    show AW l (pI pg 172) P kc ks 30 [(0, .ref 58), (1, .int (v1)), (2, .int (v2)), (3, .int (v3)), (4, .int (v4)), (5, .int (v5))] [] SHF _
    refine AW.aload_n (dq rfl) rfl rfl ?_
    show AW l (pI pg 172) P kc ks 31 _ _ SHF _
    refine AW.iload_n (dq rfl) rfl ?_
    show AW l (pI pg 172) P kc ks 32 _ _ SHF _
    refine fw_callVV (as := [.int (v3)]) (dq rfl) (pg_ok.2.2.1 172 _ _ _ _ rfl) rfl (by decide +kernel) rfl rfl (c7 h1 M2 e2 q2 M4 e4 q4) (fun M6 e6 q6 => ?_)
    have hJ6 : ∀ e ∈ RM, M6.2.2 e.1 e.2.1 = e.2.2 := fun e he => by rw [e6]; exact hJ4 e he
    show AW l (pI pg 172) P kc ks 35 [(0, .ref 58), (1, .int (v1)), (2, .int (v2)), (3, .int (v3)), (4, .int (v4)), (5, .int (v5))] [] SHF _
    refine AW.aload_n (dq rfl) rfl rfl ?_
    show AW l (pI pg 172) P kc ks 36 _ _ SHF _
    refine AW.iload (dq rfl) rfl ?_
    show AW l (pI pg 172) P kc ks 38 _ _ SHF _
    refine fw_callVV (as := [.int (v4)]) (dq rfl) (pg_ok.2.2.1 172 _ _ _ _ rfl) rfl (by decide +kernel) rfl rfl (c9 h1 M2 e2 q2 M4 e4 q4 M6 e6 q6) (fun M8 e8 q8 => ?_)
    have hJ8 : ∀ e ∈ RM, M8.2.2 e.1 e.2.1 = e.2.2 := fun e he => by rw [e8]; exact hJ6 e he
    show AW l (pI pg 172) P kc ks 41 [(0, .ref 58), (1, .int (v1)), (2, .int (v2)), (3, .int (v3)), (4, .int (v4)), (5, .int (v5))] [] SHF _
    refine AW.aload_n (dq rfl) rfl rfl ?_
    show AW l (pI pg 172) P kc ks 42 _ _ SHF _
    refine AW.iload (dq rfl) rfl ?_
    show AW l (pI pg 172) P kc ks 44 _ _ SHF _
    refine fw_callVV (as := [.int (v5)]) (dq rfl) (pg_ok.2.2.1 172 _ _ _ _ rfl) rfl (by decide +kernel) rfl rfl (c11 h1 M2 e2 q2 M4 e4 q4 M6 e6 q6 M8 e8 q8) (fun M10 e10 q10 => ?_)
    have hJ10 : ∀ e ∈ RM, M10.2.2 e.1 e.2.1 = e.2.2 := fun e he => by rw [e10]; exact hJ8 e he
    show AW l (pI pg 172) P kc ks 47 [(0, .ref 58), (1, .int (v1)), (2, .int (v2)), (3, .int (v3)), (4, .int (v4)), (5, .int (v5))] [] SHF _
    refine AW.aload_n (dq rfl) rfl rfl ?_
    show AW l (pI pg 172) P kc ks 48 _ _ SHF _
    refine fw_get (dq rfl) (pg_ok.2.1 172 _ _ _ _ rfl) rfl (v := .int (M10.1 58 12)) rfl ?_
    show AW l (pI pg 172) P kc ks 51 _ _ SHF _
    refine AW.iret (dq rfl) rfl ?_
    exact r12 h1 M2 e2 q2 M4 e4 q4 M6 e6 q6 M8 e8 q8 M10 e10 q10
  · have _ := h1
    refine AW.iconst (dq rfl) ?_
    show AW l (pI pg 172) P kc ks 19 _ _ SHF _
    refine AW.iret (dq rfl) rfl ?_
    exact r13 h1

theorem s173_0 {l : aL} {P : aP} {kc ks : Nat} {n : Int32} {M : aM} (hJ : ∀ e ∈ RM, M.2.2 e.1 e.2.1 = e.2.2)  (Q2 : Int32 → aM → Prop) (c3 : ∀ (h1 : (n : Int32) < 0), AC l (pI pg 175) (fcI (aset M 58 0 (.int (Int32.ofInt 0))) Q2) 0 0 [.ref 58, .int (Int32.ofInt 0), .int (Int32.ofInt 1)] SHF (aset M 58 0 (.int (Int32.ofInt 0)))) (k5 : ∀ (h1 : (n : Int32) < 0), ∀ (y2 : Int32), ∀ (M2 : aM), ∀ (e2 : M2.2.2 = (aset M 58 0 (.int (Int32.ofInt 0))).2.2), ∀ (q2 : Q2 y2 M2), ∀ (h4 : ¬ (y2 : Int32) = 0), AW l (pI pg 174) P kc ks 37 [(0, .ref 58), (1, .int (n))] [] SHF (aset M2 58 12 (.int (Int32.ofInt 0)))) (r6 : ∀ (h1 : (n : Int32) < 0), ∀ (y2 : Int32), ∀ (M2 : aM), ∀ (e2 : M2.2.2 = (aset M 58 0 (.int (Int32.ofInt 0))).2.2), ∀ (q2 : Q2 y2 M2), ∀ (h4 : (y2 : Int32) = 0), P (.inl (some (.int (Int32.ofInt 0)))) SHF M2) (Q8 : Int32 → aM → Prop) (c9 : ∀ (h1 : ¬ ((n : Int32) < 0)), ∀ (h7 : ((aset M 58 0 (.int (Int32.ofInt 0))).1 58 12 : Int32) < (n : Int32)), AC l (pI pg 175) (fcI (aset M 58 0 (.int (Int32.ofInt 0))) Q8) 0 0 [.ref 58, .int (Int32.ofInt 0), .int (Int32.ofInt 1)] SHF (aset M 58 0 (.int (Int32.ofInt 0)))) (k11 : ∀ (h1 : ¬ ((n : Int32) < 0)), ∀ (h7 : ((aset M 58 0 (.int (Int32.ofInt 0))).1 58 12 : Int32) < (n : Int32)), ∀ (y8 : Int32), ∀ (M8 : aM), ∀ (e8 : M8.2.2 = (aset M 58 0 (.int (Int32.ofInt 0))).2.2), ∀ (q8 : Q8 y8 M8), ∀ (h10 : ¬ (y8 : Int32) = 0), AW l (pI pg 174) P kc ks 37 [(0, .ref 58), (1, .int (n))] [] SHF (aset M8 58 12 (.int (Int32.ofInt 0)))) (r12 : ∀ (h1 : ¬ ((n : Int32) < 0)), ∀ (h7 : ((aset M 58 0 (.int (Int32.ofInt 0))).1 58 12 : Int32) < (n : Int32)), ∀ (y8 : Int32), ∀ (M8 : aM), ∀ (e8 : M8.2.2 = (aset M 58 0 (.int (Int32.ofInt 0))).2.2), ∀ (q8 : Q8 y8 M8), ∀ (h10 : (y8 : Int32) = 0), P (.inl (some (.int (Int32.ofInt 0)))) SHF M8) (Q13 : Int32 → aM → Prop) (c14 : ∀ (h1 : ¬ ((n : Int32) < 0)), ∀ (h7 : ¬ (((aset M 58 0 (.int (Int32.ofInt 0))).1 58 12 : Int32) < (n : Int32))), AC l (pI pg 175) (fcI (aset M 58 0 (.int (Int32.ofInt 0))) Q13) 0 0 [.ref 58, .int (Int32.ofInt 1), .int (Int32.ofInt 1)] SHF (aset M 58 0 (.int (Int32.ofInt 0)))) (k16 : ∀ (h1 : ¬ ((n : Int32) < 0)), ∀ (h7 : ¬ (((aset M 58 0 (.int (Int32.ofInt 0))).1 58 12 : Int32) < (n : Int32))), ∀ (y13 : Int32), ∀ (M13 : aM), ∀ (e13 : M13.2.2 = (aset M 58 0 (.int (Int32.ofInt 0))).2.2), ∀ (q13 : Q13 y13 M13), ∀ (h15 : ¬ (y13 : Int32) = 0), AW l (pI pg 174) P kc ks 37 [(0, .ref 58), (1, .int (n))] [] SHF (aset M13 58 12 (.int (Int32.ofInt 0)))) (r17 : ∀ (h1 : ¬ ((n : Int32) < 0)), ∀ (h7 : ¬ (((aset M 58 0 (.int (Int32.ofInt 0))).1 58 12 : Int32) < (n : Int32))), ∀ (y13 : Int32), ∀ (M13 : aM), ∀ (e13 : M13.2.2 = (aset M 58 0 (.int (Int32.ofInt 0))).2.2), ∀ (q13 : Q13 y13 M13), ∀ (h15 : (y13 : Int32) = 0), P (.inl (some (.int (Int32.ofInt 0)))) SHF M13) : AW l (pI pg 174) P kc ks 0 [(0, .ref 58), (1, .int (n))] [] SHF M := by
  refine AW.aload_n (dq rfl) rfl rfl ?_
  show AW l (pI pg 174) P kc ks 1 _ _ SHF _
  refine AW.iconst (dq rfl) ?_
  show AW l (pI pg 174) P kc ks 2 _ _ SHF _
  refine fw_putI (dq rfl) (pg_ok.2.1 174 _ _ _ _ rfl) rfl rfl rfl ?_
  show AW l (pI pg 174) P kc ks 5 _ _ SHF _
  refine AW.aload_n (dq rfl) rfl rfl ?_
  show AW l (pI pg 174) P kc ks 6 _ _ SHF _
  refine AW.iload_n (dq rfl) rfl ?_
  show AW l (pI pg 174) P kc ks 7 _ _ SHF _
  refine AW.if_lt (dq rfl) (tgt := 22) (by decide) (fun h1 => ?_) (fun h1 => ?_)
  · have _ := h1
    refine AW.iconst (dq rfl) ?_
    show AW l (pI pg 174) P kc ks 23 _ _ SHF _
    refine AW.iconst (dq rfl) ?_
    show AW l (pI pg 174) P kc ks 24 _ _ SHF _
    refine fw_callVI (as := [.int (Int32.ofInt 0), .int (Int32.ofInt 1)]) (dq rfl) (pg_ok.2.2.1 174 _ _ _ _ rfl) rfl (by decide +kernel) rfl rfl (c3 h1) (fun y2 M2 e2 q2 => ?_)
    have hJ2 : ∀ e ∈ RM, M2.2.2 e.1 e.2.1 = e.2.2 := fun e he => by rw [e2]; exact hJ e he
    show AW l (pI pg 174) P kc ks 27 [(0, .ref 58), (1, .int (n))] [.int (y2)] SHF _
    refine AW.if_ne (dq rfl) (tgt := 32) (by decide) (fun h4 => ?_) (fun h4 => ?_)
    · have _ := h4
      refine AW.aload_n (dq rfl) rfl rfl ?_
      show AW l (pI pg 174) P kc ks 33 _ _ SHF _
      refine AW.iconst (dq rfl) ?_
      show AW l (pI pg 174) P kc ks 34 _ _ SHF _
      refine fw_putI (dq rfl) (pg_ok.2.1 174 _ _ _ _ rfl) rfl rfl rfl ?_
      show AW l (pI pg 174) P kc ks 37 _ _ SHF _
      refine AW.drop (lv' := [(0, .ref 58), (1, .int (n))]) (List.forall_mem_cons.mpr ⟨List.mem_of_getElem? (i := 0) rfl, List.forall_mem_cons.mpr ⟨List.mem_of_getElem? (i := 1) rfl, fun _ h => absurd h List.not_mem_nil⟩⟩) ?_
      exact k5 h1 y2 M2 e2 q2 h4
    · have _ := h4
      refine AW.iconst (dq rfl) ?_
      show AW l (pI pg 174) P kc ks 31 _ _ SHF _
      refine AW.iret (dq rfl) rfl ?_
      exact r6 h1 y2 M2 e2 q2 h4
  · have _ := h1
    refine AW.iload_n (dq rfl) rfl ?_
    show AW l (pI pg 174) P kc ks 11 _ _ SHF _
    refine AW.aload_n (dq rfl) rfl rfl ?_
    show AW l (pI pg 174) P kc ks 12 _ _ SHF _
    refine fw_get (dq rfl) (pg_ok.2.1 174 _ _ _ _ rfl) rfl (v := .int ((aset M 58 0 (.int (Int32.ofInt 0))).1 58 12)) rfl ?_
    show AW l (pI pg 174) P kc ks 15 _ _ SHF _
    refine AW.icmp_gt (dq rfl) (tgt := 22) (by decide) (fun h7 => ?_) (fun h7 => ?_)
    · have _ := h7
      refine AW.iconst (dq rfl) ?_
      show AW l (pI pg 174) P kc ks 23 _ _ SHF _
      refine AW.iconst (dq rfl) ?_
      show AW l (pI pg 174) P kc ks 24 _ _ SHF _
      refine fw_callVI (as := [.int (Int32.ofInt 0), .int (Int32.ofInt 1)]) (dq rfl) (pg_ok.2.2.1 174 _ _ _ _ rfl) rfl (by decide +kernel) rfl rfl (c9 h1 h7) (fun y8 M8 e8 q8 => ?_)
      have hJ8 : ∀ e ∈ RM, M8.2.2 e.1 e.2.1 = e.2.2 := fun e he => by rw [e8]; exact hJ e he
      show AW l (pI pg 174) P kc ks 27 [(0, .ref 58), (1, .int (n))] [.int (y8)] SHF _
      refine AW.if_ne (dq rfl) (tgt := 32) (by decide) (fun h10 => ?_) (fun h10 => ?_)
      · have _ := h10
        refine AW.aload_n (dq rfl) rfl rfl ?_
        show AW l (pI pg 174) P kc ks 33 _ _ SHF _
        refine AW.iconst (dq rfl) ?_
        show AW l (pI pg 174) P kc ks 34 _ _ SHF _
        refine fw_putI (dq rfl) (pg_ok.2.1 174 _ _ _ _ rfl) rfl rfl rfl ?_
        show AW l (pI pg 174) P kc ks 37 _ _ SHF _
        refine AW.drop (lv' := [(0, .ref 58), (1, .int (n))]) (List.forall_mem_cons.mpr ⟨List.mem_of_getElem? (i := 0) rfl, List.forall_mem_cons.mpr ⟨List.mem_of_getElem? (i := 1) rfl, fun _ h => absurd h List.not_mem_nil⟩⟩) ?_
        exact k11 h1 h7 y8 M8 e8 q8 h10
      · have _ := h10
        refine AW.iconst (dq rfl) ?_
        show AW l (pI pg 174) P kc ks 31 _ _ SHF _
        refine AW.iret (dq rfl) rfl ?_
        exact r12 h1 h7 y8 M8 e8 q8 h10
    · have _ := h7
      refine AW.iconst (dq rfl) ?_
      show AW l (pI pg 174) P kc ks 19 _ _ SHF _
      refine AW.goto (dq rfl) (tgt := 23) (by decide) ?_
      refine AW.iconst (dq rfl) ?_
      show AW l (pI pg 174) P kc ks 24 _ _ SHF _
      refine fw_callVI (as := [.int (Int32.ofInt 1), .int (Int32.ofInt 1)]) (dq rfl) (pg_ok.2.2.1 174 _ _ _ _ rfl) rfl (by decide +kernel) rfl rfl (c14 h1 h7) (fun y13 M13 e13 q13 => ?_)
      have hJ13 : ∀ e ∈ RM, M13.2.2 e.1 e.2.1 = e.2.2 := fun e he => by rw [e13]; exact hJ e he
      show AW l (pI pg 174) P kc ks 27 [(0, .ref 58), (1, .int (n))] [.int (y13)] SHF _
      refine AW.if_ne (dq rfl) (tgt := 32) (by decide) (fun h15 => ?_) (fun h15 => ?_)
      · have _ := h15
        refine AW.aload_n (dq rfl) rfl rfl ?_
        show AW l (pI pg 174) P kc ks 33 _ _ SHF _
        refine AW.iconst (dq rfl) ?_
        show AW l (pI pg 174) P kc ks 34 _ _ SHF _
        refine fw_putI (dq rfl) (pg_ok.2.1 174 _ _ _ _ rfl) rfl rfl rfl ?_
        show AW l (pI pg 174) P kc ks 37 _ _ SHF _
        refine AW.drop (lv' := [(0, .ref 58), (1, .int (n))]) (List.forall_mem_cons.mpr ⟨List.mem_of_getElem? (i := 0) rfl, List.forall_mem_cons.mpr ⟨List.mem_of_getElem? (i := 1) rfl, fun _ h => absurd h List.not_mem_nil⟩⟩) ?_
        exact k16 h1 h7 y13 M13 e13 q13 h15
      · have _ := h15
        refine AW.iconst (dq rfl) ?_
        show AW l (pI pg 174) P kc ks 31 _ _ SHF _
        refine AW.iret (dq rfl) rfl ?_
        exact r17 h1 h7 y13 M13 e13 q13 h15

theorem s174_0 {l : aL} {P : aP} {kc ks : Nat} {b w : Int32} {M : aM} (hJ : ∀ e ∈ RM, M.2.2 e.1 e.2.1 = e.2.2)  (r3 : ∀ (h1 : ¬ (M.1 58 0 : Int32) = 0), ∀ (h2 : ¬ (M.1 58 0 : Int32) = 0), P (.inl (some (.int (Int32.ofInt 0)))) SHF M) (r4 : ∀ (h1 : ¬ (M.1 58 0 : Int32) = 0), ∀ (h2 : (M.1 58 0 : Int32) = 0), P (.inl (some (.int (Int32.ofInt 1)))) SHF M) (r7 : ∀ (h1 : (M.1 58 0 : Int32) = 0), ∀ (h5 : ¬ (b : Int32) = 0), ∀ (h6 : ¬ (M.1 58 0 : Int32) = 0), P (.inl (some (.int (Int32.ofInt 0)))) SHF M) (r8 : ∀ (h1 : (M.1 58 0 : Int32) = 0), ∀ (h5 : ¬ (b : Int32) = 0), ∀ (h6 : (M.1 58 0 : Int32) = 0), P (.inl (some (.int (Int32.ofInt 1)))) SHF M) (r10 : ∀ (h1 : (M.1 58 0 : Int32) = 0), ∀ (h5 : (b : Int32) = 0), ∀ (h9 : ¬ ((aset M 58 0 (.int (w))).1 58 0 : Int32) = 0), P (.inl (some (.int (Int32.ofInt 0)))) SHF (aset M 58 0 (.int (w)))) (r11 : ∀ (h1 : (M.1 58 0 : Int32) = 0), ∀ (h5 : (b : Int32) = 0), ∀ (h9 : ((aset M 58 0 (.int (w))).1 58 0 : Int32) = 0), P (.inl (some (.int (Int32.ofInt 1)))) SHF (aset M 58 0 (.int (w)))) : AW l (pI pg 175) P kc ks 0 [(0, .ref 58), (1, .int (b)), (2, .int (w))] [] SHF M := by
  refine AW.aload_n (dq rfl) rfl rfl ?_
  show AW l (pI pg 175) P kc ks 1 _ _ SHF _
  refine fw_get (dq rfl) (pg_ok.2.1 175 _ _ _ _ rfl) rfl (v := .int (M.1 58 0)) rfl ?_
  show AW l (pI pg 175) P kc ks 4 _ _ SHF _
  refine AW.if_ne (dq rfl) (tgt := 16) (by decide) (fun h1 => ?_) (fun h1 => ?_)
  · have _ := h1
    refine AW.aload_n (dq rfl) rfl rfl ?_
    show AW l (pI pg 175) P kc ks 17 _ _ SHF _
    refine fw_get (dq rfl) (pg_ok.2.1 175 _ _ _ _ rfl) rfl (v := .int (M.1 58 0)) rfl ?_
    show AW l (pI pg 175) P kc ks 20 _ _ SHF _
    refine AW.if_ne (dq rfl) (tgt := 27) (by decide) (fun h2 => ?_) (fun h2 => ?_)
    · have _ := h2
      refine AW.iconst (dq rfl) ?_
      show AW l (pI pg 175) P kc ks 28 _ _ SHF _
      refine AW.zret (dq rfl) rfl (by decide) ?_
      exact r3 h1 h2
    · have _ := h2
      refine AW.iconst (dq rfl) ?_
      show AW l (pI pg 175) P kc ks 24 _ _ SHF _
      refine AW.goto (dq rfl) (tgt := 28) (by decide) ?_
      refine AW.zret (dq rfl) rfl (by decide) ?_
      exact r4 h1 h2
  · have _ := h1
    refine AW.iload_n (dq rfl) rfl ?_
    show AW l (pI pg 175) P kc ks 8 _ _ SHF _
    refine AW.if_ne (dq rfl) (tgt := 16) (by decide) (fun h5 => ?_) (fun h5 => ?_)
    · have _ := h5
      refine AW.aload_n (dq rfl) rfl rfl ?_
      show AW l (pI pg 175) P kc ks 17 _ _ SHF _
      refine fw_get (dq rfl) (pg_ok.2.1 175 _ _ _ _ rfl) rfl (v := .int (M.1 58 0)) rfl ?_
      show AW l (pI pg 175) P kc ks 20 _ _ SHF _
      refine AW.if_ne (dq rfl) (tgt := 27) (by decide) (fun h6 => ?_) (fun h6 => ?_)
      · have _ := h6
        refine AW.iconst (dq rfl) ?_
        show AW l (pI pg 175) P kc ks 28 _ _ SHF _
        refine AW.zret (dq rfl) rfl (by decide) ?_
        exact r7 h1 h5 h6
      · have _ := h6
        refine AW.iconst (dq rfl) ?_
        show AW l (pI pg 175) P kc ks 24 _ _ SHF _
        refine AW.goto (dq rfl) (tgt := 28) (by decide) ?_
        refine AW.zret (dq rfl) rfl (by decide) ?_
        exact r8 h1 h5 h6
    · have _ := h5
      refine AW.aload_n (dq rfl) rfl rfl ?_
      show AW l (pI pg 175) P kc ks 12 _ _ SHF _
      refine AW.iload_n (dq rfl) rfl ?_
      show AW l (pI pg 175) P kc ks 13 _ _ SHF _
      refine fw_putI (dq rfl) (pg_ok.2.1 175 _ _ _ _ rfl) rfl rfl rfl ?_
      show AW l (pI pg 175) P kc ks 16 _ _ SHF _
      refine AW.aload_n (dq rfl) rfl rfl ?_
      show AW l (pI pg 175) P kc ks 17 _ _ SHF _
      refine fw_get (dq rfl) (pg_ok.2.1 175 _ _ _ _ rfl) rfl (v := .int ((aset M 58 0 (.int (w))).1 58 0)) rfl ?_
      show AW l (pI pg 175) P kc ks 20 _ _ SHF _
      refine AW.if_ne (dq rfl) (tgt := 27) (by decide) (fun h9 => ?_) (fun h9 => ?_)
      · have _ := h9
        refine AW.iconst (dq rfl) ?_
        show AW l (pI pg 175) P kc ks 28 _ _ SHF _
        refine AW.zret (dq rfl) rfl (by decide) ?_
        exact r10 h1 h5 h9
      · have _ := h9
        refine AW.iconst (dq rfl) ?_
        show AW l (pI pg 175) P kc ks 24 _ _ SHF _
        refine AW.goto (dq rfl) (tgt := 28) (by decide) ?_
        refine AW.zret (dq rfl) rfl (by decide) ?_
        exact r11 h1 h5 h9

theorem s39a_0 {l : aL} {P : aP} {kc ks : Nat} {n : Int32} {M : aM} (hJ : ∀ e ∈ RR.2, M.2.2 e.1 e.2.1 = e.2.2)  (x2 : ∀ (h1 : (n : Int32) < 0), P (.inr "java/lang/IllegalArgumentException") SHF M) (Q4 : Int32 → aM → Prop) (c5 : ∀ (h1 : ¬ ((n : Int32) < 0)), ∀ (h3 : (n : Int32) ≤ (M.1 2 1 : Int32)), AC l (pI pg 45) (fcI M Q4) 0 0 [.ref 1, .ref 17, .int (n)] SHF M) (Q7 : Int32 → aM → aM → Prop) (c8 : ∀ (h1 : ¬ ((n : Int32) < 0)), ∀ (h3 : (n : Int32) ≤ (M.1 2 1 : Int32)), ∀ (y4 : Int32), ∀ (M4 : aM), ∀ (e4 : M4.2.2 = M.2.2), ∀ (q4 : Q4 y4 M4), ∀ (h6 : (y4 : Int32) = 0), AC l (pI pg 11) (fcV (aset (aset (aset (aset M4 2 1 (.int (Int32.ofInt 0))) 0 13 (.int ((aset M4 2 1 (.int (Int32.ofInt 0))).1 1 2))) 0 1 (.ref 17)) 0 2 (.ref 4)) (Q7 y4 M4)) 0 0 [.ref 0] SHF (aset (aset (aset (aset M4 2 1 (.int (Int32.ofInt 0))) 0 13 (.int ((aset M4 2 1 (.int (Int32.ofInt 0))).1 1 2))) 0 1 (.ref 17)) 0 2 (.ref 4))) (r9 : ∀ (h1 : ¬ ((n : Int32) < 0)), ∀ (h3 : (n : Int32) ≤ (M.1 2 1 : Int32)), ∀ (y4 : Int32), ∀ (M4 : aM), ∀ (e4 : M4.2.2 = M.2.2), ∀ (q4 : Q4 y4 M4), ∀ (h6 : (y4 : Int32) = 0), ∀ (M7 : aM), ∀ (e7 : M7.2.2 = (aset (aset (aset (aset M4 2 1 (.int (Int32.ofInt 0))) 0 13 (.int ((aset M4 2 1 (.int (Int32.ofInt 0))).1 1 2))) 0 1 (.ref 17)) 0 2 (.ref 4)).2.2), ∀ (q7 : (Q7 y4 M4) M7), P (.inl (some (.int (Int32.ofInt 0)))) SHF M7) (o10 : ∀ (h1 : ¬ ((n : Int32) < 0)), ∀ (h3 : (n : Int32) ≤ (M.1 2 1 : Int32)), ∀ (y4 : Int32), ∀ (M4 : aM), ∀ (e4 : M4.2.2 = M.2.2), ∀ (q4 : Q4 y4 M4), ∀ (h6 : ¬ ((y4 : Int32) = 0)), vp_in (Int32.ofInt 0) 3) (r11 : ∀ (h1 : ¬ ((n : Int32) < 0)), ∀ (h3 : (n : Int32) ≤ (M.1 2 1 : Int32)), ∀ (y4 : Int32), ∀ (M4 : aM), ∀ (e4 : M4.2.2 = M.2.2), ∀ (q4 : Q4 y4 M4), ∀ (h6 : ¬ ((y4 : Int32) = 0)), P (.inl (some (.int (y4)))) SHF (aset (aset (aset M4 2 1 (.int (Int32.ofInt 0))) 0 13 (.int ((aset M4 2 1 (.int (Int32.ofInt 0))).1 1 2))) 57 (Int32.ofInt 0).toNatClampNeg (.int (((aset (aset M4 2 1 (.int (Int32.ofInt 0))) 0 13 (.int ((aset M4 2 1 (.int (Int32.ofInt 0))).1 1 2))).1 57 (Int32.ofInt 0).toNatClampNeg) + (Int32.ofInt 1))))) (x12 : ∀ (h1 : ¬ ((n : Int32) < 0)), ∀ (h3 : ¬ ((n : Int32) ≤ (M.1 2 1 : Int32))), P (.inr "java/lang/IllegalArgumentException") SHF M) : AW l (pI pg 39) P (kc + 1) (ks + 6) 0 [(0, .ref 0), (1, .int (n))] [] SHF M := by
  refine AW.iload_n (dq rfl) rfl ?_
  show AW l (pI pg 39) P (kc + 1) (ks + 6) 1 _ _ SHF _
  refine AW.if_lt (dq rfl) (tgt := 18) (by decide) (fun h1 => ?_) (fun h1 => ?_)
  · have _ := h1
    refine pg_ok.2.2.2.2.2.2.2.1 39 _ _ rfl _ _ _ _ _ _ _ ?_
    exact x2 h1
  · have _ := h1
    refine AW.iload_n (dq rfl) rfl ?_
    show AW l (pI pg 39) P (kc + 1) (ks + 6) 5 _ _ SHF _
    refine AW.aload_n (dq rfl) rfl rfl ?_
    show AW l (pI pg 39) P (kc + 1) (ks + 6) 6 _ _ SHF _
    refine fw_get (dq rfl) (pg_ok.2.1 39 _ _ _ _ rfl) rfl (v := .ref 1) (isTA_ok rfl (rgR_ok hJ rfl)) ?_
    show AW l (pI pg 39) P (kc + 1) (ks + 6) 9 _ _ SHF _
    refine fw_get (dq rfl) (pg_ok.2.1 39 _ _ _ _ rfl) rfl (v := .ref 2) (isTA_ok rfl (rgR_ok hJ rfl)) ?_
    show AW l (pI pg 39) P (kc + 1) (ks + 6) 12 _ _ SHF _
    refine fw_get (dq rfl) (pg_ok.2.1 39 _ _ _ _ rfl) rfl (v := .int (M.1 2 1)) rfl ?_
    show AW l (pI pg 39) P (kc + 1) (ks + 6) 15 _ _ SHF _
    refine AW.icmp_le (dq rfl) (tgt := 28) (by decide) (fun h3 => ?_) (fun h3 => ?_)
    · have _ := h3
      refine AW.aload_n (dq rfl) rfl rfl ?_
      show AW l (pI pg 39) P (kc + 1) (ks + 6) 29 _ _ SHF _
      refine fw_get (dq rfl) (pg_ok.2.1 39 _ _ _ _ rfl) rfl (v := .ref 1) (isTA_ok rfl (rgR_ok hJ rfl)) ?_
      show AW l (pI pg 39) P (kc + 1) (ks + 6) 32 _ _ SHF _
      refine AW.aload_n (dq rfl) rfl rfl ?_
      show AW l (pI pg 39) P (kc + 1) (ks + 6) 33 _ _ SHF _
      refine fw_get (dq rfl) (pg_ok.2.1 39 _ _ _ _ rfl) rfl (v := .ref 17) (isTA_ok rfl (rgR_ok hJ rfl)) ?_
      show AW l (pI pg 39) P (kc + 1) (ks + 6) 36 _ _ SHF _
      refine AW.iload_n (dq rfl) rfl ?_
      show AW l (pI pg 39) P (kc + 1) (ks + 6) 37 _ _ SHF _
      refine fw_callVI (as := [.ref 17, .int (n)]) (dq rfl) (pg_ok.2.2.1 39 _ _ _ _ rfl) rfl (by decide +kernel) rfl rfl (c5 h1 h3) (fun y4 M4 e4 q4 => ?_)
      have hJ4 : ∀ e ∈ RR.2, M4.2.2 e.1 e.2.1 = e.2.2 := fun e he => by rw [e4]; exact hJ e he
      show AW l (pI pg 39) P (kc + 1) (ks + 6) 40 [(0, .ref 0), (1, .int (n))] [.int (y4)] SHF _
      refine AW.istore_n (dq rfl) (by decide +kernel) ?_
      show AW l (pI pg 39) P (kc + 1) (ks + 6) 41 [(2, .int (y4)), (0, .ref 0), (1, .int (n))] [] SHF _
      refine AW.aload_n (dq rfl) rfl rfl ?_
      show AW l (pI pg 39) P (kc + 1) (ks + 6) 42 _ _ SHF _
      refine fw_get (dq rfl) (pg_ok.2.1 39 _ _ _ _ rfl) rfl (v := .ref 1) (isTA_ok rfl (rgR_ok hJ4 rfl)) ?_
      show AW l (pI pg 39) P (kc + 1) (ks + 6) 45 _ _ SHF _
      refine fw_get (dq rfl) (pg_ok.2.1 39 _ _ _ _ rfl) rfl (v := .ref 2) (isTA_ok rfl (rgR_ok hJ4 rfl)) ?_
      show AW l (pI pg 39) P (kc + 1) (ks + 6) 48 _ _ SHF _
      refine AW.iconst (dq rfl) ?_
      show AW l (pI pg 39) P (kc + 1) (ks + 6) 49 _ _ SHF _
      refine fw_putI (dq rfl) (pg_ok.2.1 39 _ _ _ _ rfl) rfl rfl rfl ?_
      show AW l (pI pg 39) P (kc + 1) (ks + 6) 52 _ _ SHF _
      refine AW.aload_n (dq rfl) rfl rfl ?_
      show AW l (pI pg 39) P (kc + 1) (ks + 6) 53 _ _ SHF _
      refine AW.aload_n (dq rfl) rfl rfl ?_
      show AW l (pI pg 39) P (kc + 1) (ks + 6) 54 _ _ SHF _
      refine fw_get (dq rfl) (pg_ok.2.1 39 _ _ _ _ rfl) rfl (v := .ref 1) (isTA_ok rfl (rgR_ok hJ4 rfl)) ?_
      show AW l (pI pg 39) P (kc + 1) (ks + 6) 57 _ _ SHF _
      refine fw_get (dq rfl) (pg_ok.2.1 39 _ _ _ _ rfl) rfl (v := .int ((aset M4 2 1 (.int (Int32.ofInt 0))).1 1 2)) rfl ?_
      show AW l (pI pg 39) P (kc + 1) (ks + 6) 60 _ _ SHF _
      refine fw_putI (dq rfl) (pg_ok.2.1 39 _ _ _ _ rfl) rfl rfl rfl ?_
      show AW l (pI pg 39) P (kc + 1) (ks + 6) 63 _ _ SHF _
      refine AW.iload_n (dq rfl) rfl ?_
      show AW l (pI pg 39) P (kc + 1) (ks + 6) 64 _ _ SHF _
      refine AW.if_eq (dq rfl) (tgt := 79) (by decide) (fun h6 => ?_) (fun h6 => ?_)
      · have _ := h6
        refine AW.aload_n (dq rfl) rfl rfl ?_
        show AW l (pI pg 39) P (kc + 1) (ks + 6) 80 _ _ SHF _
        refine fw_get (dq rfl) (pg_ok.2.1 39 _ _ _ _ rfl) rfl (v := .ref 4) (isTA_ok rfl (rgR_ok hJ4 rfl)) ?_
        show AW l (pI pg 39) P (kc + 1) (ks + 6) 83 _ _ SHF _
        refine AW.astore_n (dq rfl) rfl (by decide +kernel) ?_
        show AW l (pI pg 39) P (kc + 1) (ks + 6) 84 [(3, .ref 4), (2, .int (y4)), (0, .ref 0), (1, .int (n))] [] SHF _
        refine AW.aload_n (dq rfl) rfl rfl ?_
        show AW l (pI pg 39) P (kc + 1) (ks + 6) 85 _ _ SHF _
        refine AW.aload_n (dq rfl) rfl rfl ?_
        show AW l (pI pg 39) P (kc + 1) (ks + 6) 86 _ _ SHF _
        refine fw_get (dq rfl) (pg_ok.2.1 39 _ _ _ _ rfl) rfl (v := .ref 17) (isTA_ok rfl (rgR_ok hJ4 rfl)) ?_
        show AW l (pI pg 39) P (kc + 1) (ks + 6) 89 _ _ SHF _
        refine fw_putR (dq rfl) (pg_ok.2.1 39 _ _ _ _ rfl) rfl rfl rfl ?_
        show AW l (pI pg 39) P (kc + 1) (ks + 6) 92 _ _ SHF _
        refine AW.aload_n (dq rfl) rfl rfl ?_
        show AW l (pI pg 39) P (kc + 1) (ks + 6) 93 _ _ SHF _
        refine AW.aload_n (dq rfl) rfl rfl ?_
        show AW l (pI pg 39) P (kc + 1) (ks + 6) 94 _ _ SHF _
        refine fw_putR (dq rfl) (pg_ok.2.1 39 _ _ _ _ rfl) rfl rfl rfl ?_
        show AW l (pI pg 39) P (kc + 1) (ks + 6) 97 _ _ SHF _
        refine AW.aload_n (dq rfl) rfl rfl ?_
        show AW l (pI pg 39) P (kc + 1) (ks + 6) 98 _ _ SHF _
        refine fw_callVV (as := []) (dq rfl) (pg_ok.2.2.1 39 _ _ _ _ rfl) rfl (by decide +kernel) rfl rfl (c8 h1 h3 y4 M4 e4 q4 h6) (fun M7 e7 q7 => ?_)
        show AW l (pI pg 39) P (kc + 1) (ks + 6) 101 [(3, .ref 4), (2, .int (y4)), (0, .ref 0), (1, .int (n))] [] SHF _
        refine AW.iconst (dq rfl) ?_
        show AW l (pI pg 39) P (kc + 1) (ks + 6) 102 _ _ SHF _
        refine AW.iret (dq rfl) rfl ?_
        exact r9 h1 h3 y4 M4 e4 q4 h6 M7 e7 q7
      · have _ := h6
        refine AW.aload_n (dq rfl) rfl rfl ?_
        show AW l (pI pg 39) P (kc + 1) (ks + 6) 68 _ _ SHF _
        refine fw_get (dq rfl) (pg_ok.2.1 39 _ _ _ _ rfl) rfl (v := .ref 57) (isTA_ok rfl (rgR_ok hJ4 rfl)) ?_
        show AW l (pI pg 39) P (kc + 1) (ks + 6) 71 _ _ SHF _
        refine AW.iconst (dq rfl) ?_
        show AW l (pI pg 39) P (kc + 1) (ks + 6) 72 _ _ SHF _
        refine AW.dup2_11 (dq rfl) rfl rfl ?_
        show AW l (pI pg 39) P (kc + 1) (ks + 6) 73 _ _ SHF _
        refine AW.iald (dq rfl) rfl (o10 h1 h3 y4 M4 e4 q4 h6) ?_
        show AW l (pI pg 39) P (kc + 1) (ks + 6) 74 _ _ SHF _
        refine AW.iconst (dq rfl) ?_
        show AW l (pI pg 39) P (kc + 1) (ks + 6) 75 _ _ SHF _
        refine AW.iadd (dq rfl) ?_
        show AW l (pI pg 39) P (kc + 1) (ks + 6) 76 _ _ SHF _
        refine AW.iast (dq rfl) rfl (o10 h1 h3 y4 M4 e4 q4 h6) ?_
        show AW l (pI pg 39) P (kc + 1) (ks + 6) 77 _ _ SHF _
        refine AW.iload_n (dq rfl) rfl ?_
        show AW l (pI pg 39) P (kc + 1) (ks + 6) 78 _ _ SHF _
        refine AW.iret (dq rfl) rfl ?_
        exact r11 h1 h3 y4 M4 e4 q4 h6
    · have _ := h3
      refine pg_ok.2.2.2.2.2.2.2.1 39 _ _ rfl _ _ _ _ _ _ _ ?_
      exact x12 h1 h3

theorem s39b_0 {l : aL} {P : aP} {kc ks : Nat} {n : Int32} {M : aM} (hJ : ∀ e ∈ RRS.2, M.2.2 e.1 e.2.1 = e.2.2)  (x2 : ∀ (h1 : (n : Int32) < 0), P (.inr "java/lang/IllegalArgumentException") SHF M) (Q4 : Int32 → aM → Prop) (c5 : ∀ (h1 : ¬ ((n : Int32) < 0)), ∀ (h3 : (n : Int32) ≤ (M.1 2 1 : Int32)), AC l (pI pg 45) (fcI M Q4) 0 0 [.ref 1, .ref 4, .int (n)] SHF M) (Q7 : Int32 → aM → aM → Prop) (c8 : ∀ (h1 : ¬ ((n : Int32) < 0)), ∀ (h3 : (n : Int32) ≤ (M.1 2 1 : Int32)), ∀ (y4 : Int32), ∀ (M4 : aM), ∀ (e4 : M4.2.2 = M.2.2), ∀ (q4 : Q4 y4 M4), ∀ (h6 : (y4 : Int32) = 0), AC l (pI pg 11) (fcV (aset (aset (aset (aset M4 2 1 (.int (Int32.ofInt 0))) 0 13 (.int ((aset M4 2 1 (.int (Int32.ofInt 0))).1 1 2))) 0 1 (.ref 4)) 0 2 (.ref 17)) (Q7 y4 M4)) 0 0 [.ref 0] SHF (aset (aset (aset (aset M4 2 1 (.int (Int32.ofInt 0))) 0 13 (.int ((aset M4 2 1 (.int (Int32.ofInt 0))).1 1 2))) 0 1 (.ref 4)) 0 2 (.ref 17))) (r9 : ∀ (h1 : ¬ ((n : Int32) < 0)), ∀ (h3 : (n : Int32) ≤ (M.1 2 1 : Int32)), ∀ (y4 : Int32), ∀ (M4 : aM), ∀ (e4 : M4.2.2 = M.2.2), ∀ (q4 : Q4 y4 M4), ∀ (h6 : (y4 : Int32) = 0), ∀ (M7 : aM), ∀ (e7 : M7.2.2 = (aset (aset (aset (aset M4 2 1 (.int (Int32.ofInt 0))) 0 13 (.int ((aset M4 2 1 (.int (Int32.ofInt 0))).1 1 2))) 0 1 (.ref 4)) 0 2 (.ref 17)).2.2), ∀ (q7 : (Q7 y4 M4) M7), P (.inl (some (.int (Int32.ofInt 0)))) SHF M7) (o10 : ∀ (h1 : ¬ ((n : Int32) < 0)), ∀ (h3 : (n : Int32) ≤ (M.1 2 1 : Int32)), ∀ (y4 : Int32), ∀ (M4 : aM), ∀ (e4 : M4.2.2 = M.2.2), ∀ (q4 : Q4 y4 M4), ∀ (h6 : ¬ ((y4 : Int32) = 0)), vp_in (Int32.ofInt 0) 3) (r11 : ∀ (h1 : ¬ ((n : Int32) < 0)), ∀ (h3 : (n : Int32) ≤ (M.1 2 1 : Int32)), ∀ (y4 : Int32), ∀ (M4 : aM), ∀ (e4 : M4.2.2 = M.2.2), ∀ (q4 : Q4 y4 M4), ∀ (h6 : ¬ ((y4 : Int32) = 0)), P (.inl (some (.int (y4)))) SHF (aset (aset (aset M4 2 1 (.int (Int32.ofInt 0))) 0 13 (.int ((aset M4 2 1 (.int (Int32.ofInt 0))).1 1 2))) 57 (Int32.ofInt 0).toNatClampNeg (.int (((aset (aset M4 2 1 (.int (Int32.ofInt 0))) 0 13 (.int ((aset M4 2 1 (.int (Int32.ofInt 0))).1 1 2))).1 57 (Int32.ofInt 0).toNatClampNeg) + (Int32.ofInt 1))))) (x12 : ∀ (h1 : ¬ ((n : Int32) < 0)), ∀ (h3 : ¬ ((n : Int32) ≤ (M.1 2 1 : Int32))), P (.inr "java/lang/IllegalArgumentException") SHF M) : AW l (pI pg 39) P (kc + 1) (ks + 6) 0 [(0, .ref 0), (1, .int (n))] [] SHF M := by
  refine AW.iload_n (dq rfl) rfl ?_
  show AW l (pI pg 39) P (kc + 1) (ks + 6) 1 _ _ SHF _
  refine AW.if_lt (dq rfl) (tgt := 18) (by decide) (fun h1 => ?_) (fun h1 => ?_)
  · have _ := h1
    refine pg_ok.2.2.2.2.2.2.2.1 39 _ _ rfl _ _ _ _ _ _ _ ?_
    exact x2 h1
  · have _ := h1
    refine AW.iload_n (dq rfl) rfl ?_
    show AW l (pI pg 39) P (kc + 1) (ks + 6) 5 _ _ SHF _
    refine AW.aload_n (dq rfl) rfl rfl ?_
    show AW l (pI pg 39) P (kc + 1) (ks + 6) 6 _ _ SHF _
    refine fw_get (dq rfl) (pg_ok.2.1 39 _ _ _ _ rfl) rfl (v := .ref 1) (isTA_ok rfl (rgR_ok hJ rfl)) ?_
    show AW l (pI pg 39) P (kc + 1) (ks + 6) 9 _ _ SHF _
    refine fw_get (dq rfl) (pg_ok.2.1 39 _ _ _ _ rfl) rfl (v := .ref 2) (isTA_ok rfl (rgR_ok hJ rfl)) ?_
    show AW l (pI pg 39) P (kc + 1) (ks + 6) 12 _ _ SHF _
    refine fw_get (dq rfl) (pg_ok.2.1 39 _ _ _ _ rfl) rfl (v := .int (M.1 2 1)) rfl ?_
    show AW l (pI pg 39) P (kc + 1) (ks + 6) 15 _ _ SHF _
    refine AW.icmp_le (dq rfl) (tgt := 28) (by decide) (fun h3 => ?_) (fun h3 => ?_)
    · have _ := h3
      refine AW.aload_n (dq rfl) rfl rfl ?_
      show AW l (pI pg 39) P (kc + 1) (ks + 6) 29 _ _ SHF _
      refine fw_get (dq rfl) (pg_ok.2.1 39 _ _ _ _ rfl) rfl (v := .ref 1) (isTA_ok rfl (rgR_ok hJ rfl)) ?_
      show AW l (pI pg 39) P (kc + 1) (ks + 6) 32 _ _ SHF _
      refine AW.aload_n (dq rfl) rfl rfl ?_
      show AW l (pI pg 39) P (kc + 1) (ks + 6) 33 _ _ SHF _
      refine fw_get (dq rfl) (pg_ok.2.1 39 _ _ _ _ rfl) rfl (v := .ref 4) (isTA_ok rfl (rgR_ok hJ rfl)) ?_
      show AW l (pI pg 39) P (kc + 1) (ks + 6) 36 _ _ SHF _
      refine AW.iload_n (dq rfl) rfl ?_
      show AW l (pI pg 39) P (kc + 1) (ks + 6) 37 _ _ SHF _
      refine fw_callVI (as := [.ref 4, .int (n)]) (dq rfl) (pg_ok.2.2.1 39 _ _ _ _ rfl) rfl (by decide +kernel) rfl rfl (c5 h1 h3) (fun y4 M4 e4 q4 => ?_)
      have hJ4 : ∀ e ∈ RRS.2, M4.2.2 e.1 e.2.1 = e.2.2 := fun e he => by rw [e4]; exact hJ e he
      show AW l (pI pg 39) P (kc + 1) (ks + 6) 40 [(0, .ref 0), (1, .int (n))] [.int (y4)] SHF _
      refine AW.istore_n (dq rfl) (by decide +kernel) ?_
      show AW l (pI pg 39) P (kc + 1) (ks + 6) 41 [(2, .int (y4)), (0, .ref 0), (1, .int (n))] [] SHF _
      refine AW.aload_n (dq rfl) rfl rfl ?_
      show AW l (pI pg 39) P (kc + 1) (ks + 6) 42 _ _ SHF _
      refine fw_get (dq rfl) (pg_ok.2.1 39 _ _ _ _ rfl) rfl (v := .ref 1) (isTA_ok rfl (rgR_ok hJ4 rfl)) ?_
      show AW l (pI pg 39) P (kc + 1) (ks + 6) 45 _ _ SHF _
      refine fw_get (dq rfl) (pg_ok.2.1 39 _ _ _ _ rfl) rfl (v := .ref 2) (isTA_ok rfl (rgR_ok hJ4 rfl)) ?_
      show AW l (pI pg 39) P (kc + 1) (ks + 6) 48 _ _ SHF _
      refine AW.iconst (dq rfl) ?_
      show AW l (pI pg 39) P (kc + 1) (ks + 6) 49 _ _ SHF _
      refine fw_putI (dq rfl) (pg_ok.2.1 39 _ _ _ _ rfl) rfl rfl rfl ?_
      show AW l (pI pg 39) P (kc + 1) (ks + 6) 52 _ _ SHF _
      refine AW.aload_n (dq rfl) rfl rfl ?_
      show AW l (pI pg 39) P (kc + 1) (ks + 6) 53 _ _ SHF _
      refine AW.aload_n (dq rfl) rfl rfl ?_
      show AW l (pI pg 39) P (kc + 1) (ks + 6) 54 _ _ SHF _
      refine fw_get (dq rfl) (pg_ok.2.1 39 _ _ _ _ rfl) rfl (v := .ref 1) (isTA_ok rfl (rgR_ok hJ4 rfl)) ?_
      show AW l (pI pg 39) P (kc + 1) (ks + 6) 57 _ _ SHF _
      refine fw_get (dq rfl) (pg_ok.2.1 39 _ _ _ _ rfl) rfl (v := .int ((aset M4 2 1 (.int (Int32.ofInt 0))).1 1 2)) rfl ?_
      show AW l (pI pg 39) P (kc + 1) (ks + 6) 60 _ _ SHF _
      refine fw_putI (dq rfl) (pg_ok.2.1 39 _ _ _ _ rfl) rfl rfl rfl ?_
      show AW l (pI pg 39) P (kc + 1) (ks + 6) 63 _ _ SHF _
      refine AW.iload_n (dq rfl) rfl ?_
      show AW l (pI pg 39) P (kc + 1) (ks + 6) 64 _ _ SHF _
      refine AW.if_eq (dq rfl) (tgt := 79) (by decide) (fun h6 => ?_) (fun h6 => ?_)
      · have _ := h6
        refine AW.aload_n (dq rfl) rfl rfl ?_
        show AW l (pI pg 39) P (kc + 1) (ks + 6) 80 _ _ SHF _
        refine fw_get (dq rfl) (pg_ok.2.1 39 _ _ _ _ rfl) rfl (v := .ref 17) (isTA_ok rfl (rgR_ok hJ4 rfl)) ?_
        show AW l (pI pg 39) P (kc + 1) (ks + 6) 83 _ _ SHF _
        refine AW.astore_n (dq rfl) rfl (by decide +kernel) ?_
        show AW l (pI pg 39) P (kc + 1) (ks + 6) 84 [(3, .ref 17), (2, .int (y4)), (0, .ref 0), (1, .int (n))] [] SHF _
        refine AW.aload_n (dq rfl) rfl rfl ?_
        show AW l (pI pg 39) P (kc + 1) (ks + 6) 85 _ _ SHF _
        refine AW.aload_n (dq rfl) rfl rfl ?_
        show AW l (pI pg 39) P (kc + 1) (ks + 6) 86 _ _ SHF _
        refine fw_get (dq rfl) (pg_ok.2.1 39 _ _ _ _ rfl) rfl (v := .ref 4) (isTA_ok rfl (rgR_ok hJ4 rfl)) ?_
        show AW l (pI pg 39) P (kc + 1) (ks + 6) 89 _ _ SHF _
        refine fw_putR (dq rfl) (pg_ok.2.1 39 _ _ _ _ rfl) rfl rfl rfl ?_
        show AW l (pI pg 39) P (kc + 1) (ks + 6) 92 _ _ SHF _
        refine AW.aload_n (dq rfl) rfl rfl ?_
        show AW l (pI pg 39) P (kc + 1) (ks + 6) 93 _ _ SHF _
        refine AW.aload_n (dq rfl) rfl rfl ?_
        show AW l (pI pg 39) P (kc + 1) (ks + 6) 94 _ _ SHF _
        refine fw_putR (dq rfl) (pg_ok.2.1 39 _ _ _ _ rfl) rfl rfl rfl ?_
        show AW l (pI pg 39) P (kc + 1) (ks + 6) 97 _ _ SHF _
        refine AW.aload_n (dq rfl) rfl rfl ?_
        show AW l (pI pg 39) P (kc + 1) (ks + 6) 98 _ _ SHF _
        refine fw_callVV (as := []) (dq rfl) (pg_ok.2.2.1 39 _ _ _ _ rfl) rfl (by decide +kernel) rfl rfl (c8 h1 h3 y4 M4 e4 q4 h6) (fun M7 e7 q7 => ?_)
        show AW l (pI pg 39) P (kc + 1) (ks + 6) 101 [(3, .ref 17), (2, .int (y4)), (0, .ref 0), (1, .int (n))] [] SHF _
        refine AW.iconst (dq rfl) ?_
        show AW l (pI pg 39) P (kc + 1) (ks + 6) 102 _ _ SHF _
        refine AW.iret (dq rfl) rfl ?_
        exact r9 h1 h3 y4 M4 e4 q4 h6 M7 e7 q7
      · have _ := h6
        refine AW.aload_n (dq rfl) rfl rfl ?_
        show AW l (pI pg 39) P (kc + 1) (ks + 6) 68 _ _ SHF _
        refine fw_get (dq rfl) (pg_ok.2.1 39 _ _ _ _ rfl) rfl (v := .ref 57) (isTA_ok rfl (rgR_ok hJ4 rfl)) ?_
        show AW l (pI pg 39) P (kc + 1) (ks + 6) 71 _ _ SHF _
        refine AW.iconst (dq rfl) ?_
        show AW l (pI pg 39) P (kc + 1) (ks + 6) 72 _ _ SHF _
        refine AW.dup2_11 (dq rfl) rfl rfl ?_
        show AW l (pI pg 39) P (kc + 1) (ks + 6) 73 _ _ SHF _
        refine AW.iald (dq rfl) rfl (o10 h1 h3 y4 M4 e4 q4 h6) ?_
        show AW l (pI pg 39) P (kc + 1) (ks + 6) 74 _ _ SHF _
        refine AW.iconst (dq rfl) ?_
        show AW l (pI pg 39) P (kc + 1) (ks + 6) 75 _ _ SHF _
        refine AW.iadd (dq rfl) ?_
        show AW l (pI pg 39) P (kc + 1) (ks + 6) 76 _ _ SHF _
        refine AW.iast (dq rfl) rfl (o10 h1 h3 y4 M4 e4 q4 h6) ?_
        show AW l (pI pg 39) P (kc + 1) (ks + 6) 77 _ _ SHF _
        refine AW.iload_n (dq rfl) rfl ?_
        show AW l (pI pg 39) P (kc + 1) (ks + 6) 78 _ _ SHF _
        refine AW.iret (dq rfl) rfl ?_
        exact r11 h1 h3 y4 M4 e4 q4 h6
    · have _ := h3
      refine pg_ok.2.2.2.2.2.2.2.1 39 _ _ rfl _ _ _ _ _ _ _ ?_
      exact x12 h1 h3

