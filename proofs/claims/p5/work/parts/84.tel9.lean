/-! COUNT -/
def cnO (H : HS) (s : Nat) (a : Option Nat) (r : Nat → Int32) (x : Int32) : Option Int32 := if x = Int32.ofInt 0 then some (nI H.pe) else if x = Int32.ofInt 1 then some (nI H.wo) else if x = Int32.ofInt 2 then some (nI H.te) else if x = Int32.ofInt 3 then some (nI H.fo) else if x = Int32.ofInt 4 then some (nI s) else if x = Int32.ofInt 5 then some (r 0) else if x = Int32.ofInt 6 then some (r 1) else if x = Int32.ofInt 7 then some (r 2) else if x = Int32.ofInt 8 then some (nI (a.getD 0)) else none
theorem cnO_eq {H : HS} {s : Nat} {a : Option Nat} {r r' : Nat → Int32} {x : Int32} (h : ∀ k, k < 3 → r k = r' k) : cnO H s a r x = cnO H s a r' x := by
  unfold cnO
  rw [h 0 (by decide), h 1 (by decide), h 2 (by decide)]
theorem cKa_v {a : Option Nat} {M : aM} (h : cKa a M) : M.1 49 1 = nI (a.getD 0) := by
  cases a with
  | none => exact h.2
  | some n => exact h.2.1
theorem cnta_c {l : aL} {M : aM} {H : HS} {s : Nat} {a : Option Nat} {x : Int32} (hl0 : l.1.stackTraces = false) (hJ : JR RR M) (hH : cHo 4 H M) (h21 : M.1 2 1 = nI s) (ha : cKa a M) : AC l (pI pg 86) (tcO "java/util/NoSuchElementException" M (cnO H s a (M.1 57) x)) 2 12 [.ref 0, .int x] SHF M := by
  refine fw_of hl0 ⟨by decide +kernel, by decide +kernel, by decide +kernel⟩ rfl ?_
  refine cnta_0 (kc := 1) (ks := 6) hJ.2 hl0 (fun h1 => ⟨rfl, rfl, Or.inr ⟨_, ?_, rfl⟩⟩) (fun h1 h3 => ⟨rfl, rfl, Or.inr ⟨_, ?_, rfl⟩⟩) (fun h1 h3 h5 => ⟨rfl, rfl, Or.inr ⟨_, ?_, rfl⟩⟩) (fun h1 h3 h5 h7 => ⟨rfl, rfl, Or.inr ⟨_, ?_, rfl⟩⟩) (fun h1 h3 h5 h7 h9 => ⟨rfl, rfl, Or.inr ⟨_, ?_, rfl⟩⟩) (fun _ _ _ _ _ _ => vp_in_nI (n := 0) (by decide) (by decide)) (fun h1 h3 h5 h7 h9 h11 => ⟨rfl, rfl, Or.inr ⟨_, ?_, rfl⟩⟩) (fun _ _ _ _ _ _ _ => vp_in_nI (n := 1) (by decide) (by decide)) (fun h1 h3 h5 h7 h9 h11 h14 => ⟨rfl, rfl, Or.inr ⟨_, ?_, rfl⟩⟩) (fun _ _ _ _ _ _ _ _ => vp_in_nI (n := 2) (by decide) (by decide)) (fun h1 h3 h5 h7 h9 h11 h14 h17 => ⟨rfl, rfl, Or.inr ⟨_, ?_, rfl⟩⟩) (fun h1 h3 h5 h7 h9 h11 h14 h17 h20 => ⟨rfl, rfl, Or.inr ⟨_, ?_, rfl⟩⟩) (fun h1 h3 h5 h7 h9 h11 h14 h17 h20 => ⟨rfl, rfl, Or.inl ⟨?_, rfl⟩⟩)
  · rw [cnO, if_pos h1]
    exact congrArg some hH.pe.symm
  · rw [cnO, if_neg h1, if_pos h3]
    exact congrArg some hH.wo.symm
  · rw [cnO, if_neg h1, if_neg h3, if_pos h5]
    exact congrArg some hH.te.symm
  · rw [cnO, if_neg h1, if_neg h3, if_neg h5, if_pos h7]
    exact congrArg some hH.fo.symm
  · rw [cnO, if_neg h1, if_neg h3, if_neg h5, if_neg h7, if_pos h9]
    exact congrArg some h21.symm
  · rw [cnO, if_neg h1, if_neg h3, if_neg h5, if_neg h7, if_neg h9, if_pos h11]
    rw [show (Int32.ofInt 0).toNatClampNeg = 0 by decide]
  · rw [cnO, if_neg h1, if_neg h3, if_neg h5, if_neg h7, if_neg h9, if_neg h11, if_pos h14]
    rw [show (Int32.ofInt 1).toNatClampNeg = 1 by decide]
  · rw [cnO, if_neg h1, if_neg h3, if_neg h5, if_neg h7, if_neg h9, if_neg h11, if_neg h14, if_pos h17]
    rw [show (Int32.ofInt 2).toNatClampNeg = 2 by decide]
  · rw [cnO, if_neg h1, if_neg h3, if_neg h5, if_neg h7, if_neg h9, if_neg h11, if_neg h14, if_neg h17, if_pos h20]
    exact congrArg some (cKa_v ha).symm
  · rw [cnO, if_neg h1, if_neg h3, if_neg h5, if_neg h7, if_neg h9, if_neg h11, if_neg h14, if_neg h17, if_neg h20]
theorem cntb_c {l : aL} {M : aM} {H : HS} {s : Nat} {a : Option Nat} {x : Int32} (hl0 : l.1.stackTraces = false) (hJ : JR RRS M) (hH : cHo 17 H M) (h21 : M.1 2 1 = nI s) (ha : cKa a M) : AC l (pI pg 86) (tcO "java/util/NoSuchElementException" M (cnO H s a (M.1 57) x)) 2 12 [.ref 0, .int x] SHF M := by
  refine fw_of hl0 ⟨by decide +kernel, by decide +kernel, by decide +kernel⟩ rfl ?_
  refine cntb_0 (kc := 1) (ks := 6) hJ.2 hl0 (fun h1 => ⟨rfl, rfl, Or.inr ⟨_, ?_, rfl⟩⟩) (fun h1 h3 => ⟨rfl, rfl, Or.inr ⟨_, ?_, rfl⟩⟩) (fun h1 h3 h5 => ⟨rfl, rfl, Or.inr ⟨_, ?_, rfl⟩⟩) (fun h1 h3 h5 h7 => ⟨rfl, rfl, Or.inr ⟨_, ?_, rfl⟩⟩) (fun h1 h3 h5 h7 h9 => ⟨rfl, rfl, Or.inr ⟨_, ?_, rfl⟩⟩) (fun _ _ _ _ _ _ => vp_in_nI (n := 0) (by decide) (by decide)) (fun h1 h3 h5 h7 h9 h11 => ⟨rfl, rfl, Or.inr ⟨_, ?_, rfl⟩⟩) (fun _ _ _ _ _ _ _ => vp_in_nI (n := 1) (by decide) (by decide)) (fun h1 h3 h5 h7 h9 h11 h14 => ⟨rfl, rfl, Or.inr ⟨_, ?_, rfl⟩⟩) (fun _ _ _ _ _ _ _ _ => vp_in_nI (n := 2) (by decide) (by decide)) (fun h1 h3 h5 h7 h9 h11 h14 h17 => ⟨rfl, rfl, Or.inr ⟨_, ?_, rfl⟩⟩) (fun h1 h3 h5 h7 h9 h11 h14 h17 h20 => ⟨rfl, rfl, Or.inr ⟨_, ?_, rfl⟩⟩) (fun h1 h3 h5 h7 h9 h11 h14 h17 h20 => ⟨rfl, rfl, Or.inl ⟨?_, rfl⟩⟩)
  · rw [cnO, if_pos h1]
    exact congrArg some hH.pe.symm
  · rw [cnO, if_neg h1, if_pos h3]
    exact congrArg some hH.wo.symm
  · rw [cnO, if_neg h1, if_neg h3, if_pos h5]
    exact congrArg some hH.te.symm
  · rw [cnO, if_neg h1, if_neg h3, if_neg h5, if_pos h7]
    exact congrArg some hH.fo.symm
  · rw [cnO, if_neg h1, if_neg h3, if_neg h5, if_neg h7, if_pos h9]
    exact congrArg some h21.symm
  · rw [cnO, if_neg h1, if_neg h3, if_neg h5, if_neg h7, if_neg h9, if_pos h11]
    rw [show (Int32.ofInt 0).toNatClampNeg = 0 by decide]
  · rw [cnO, if_neg h1, if_neg h3, if_neg h5, if_neg h7, if_neg h9, if_neg h11, if_pos h14]
    rw [show (Int32.ofInt 1).toNatClampNeg = 1 by decide]
  · rw [cnO, if_neg h1, if_neg h3, if_neg h5, if_neg h7, if_neg h9, if_neg h11, if_neg h14, if_pos h17]
    rw [show (Int32.ofInt 2).toNatClampNeg = 2 by decide]
  · rw [cnO, if_neg h1, if_neg h3, if_neg h5, if_neg h7, if_neg h9, if_neg h11, if_neg h14, if_neg h17, if_pos h20]
    exact congrArg some (cKa_v ha).symm
  · rw [cnO, if_neg h1, if_neg h3, if_neg h5, if_neg h7, if_neg h9, if_neg h11, if_neg h14, if_neg h17, if_neg h20]
theorem mcn_c {l : aL} {M : aM} {H : HS} {s : Nat} {a : Option Nat} {x : Int32} (hl0 : l.1.stackTraces = false) (hR : ∀ e ∈ RM, M.2.2 e.1 e.2.1 = e.2.2) (hm : mHo H M) (ht : M.1 58 12 = nI s) (ha : mKa a M) : AC l (pI pg 194) (fcI M (QO (cnO H s a (M.1 66) x) M)) 0 0 [.ref 58, .int x] SHF M := by
  have z1 : ¬ (1 : Int32) = 0 := by decide
  refine fw_of hl0 ⟨by decide +kernel, by decide +kernel, by decide +kernel⟩ rfl ?_
  refine mcn_0 hR _ (wit_c (m := 8) hl0 (by decide) (by decide)) (fun y1 M1 z M' => (¬ y1 = 0 ∧ z = 1 ∧ M' = M0w M) ∨ (y1 = 0 ∧ z = 0 ∧ M' = M1w M)) (fun y1 M1 e1 q1 => ?_) (fun y1 M1 e1 q1 y3 M3 e3 q3 h5 h6 => ?_) (fun y1 M1 e1 q1 y3 M3 e3 q3 h5 h6 h8 => ?_) (fun y1 M1 e1 q1 y3 M3 e3 q3 h5 h6 h8 h10 => ?_) (fun y1 M1 e1 q1 y3 M3 e3 q3 h5 h6 h8 h10 h12 => ?_) (fun y1 M1 e1 q1 y3 M3 e3 q3 h5 h6 h8 h10 h12 h14 => ?_) (fun y1 M1 e1 q1 y3 M3 e3 q3 h5 h6 h8 h10 h12 h14 h16 => ?_) (fun y1 M1 e1 q1 y3 M3 e3 q3 h5 h6 h8 h10 h12 h14 h16 => ?_) (fun y1 M1 e1 q1 y3 M3 e3 q3 h5 h6 h8 h10 h12 h14 h16 h19 => ?_) (fun y1 M1 e1 q1 y3 M3 e3 q3 h5 h6 h8 h10 h12 h14 h16 h19 => ?_) (fun y1 M1 e1 q1 y3 M3 e3 q3 h5 h6 h8 h10 h12 h14 h16 h19 h22 => ?_) (fun y1 M1 e1 q1 y3 M3 e3 q3 h5 h6 h8 h10 h12 h14 h16 h19 h22 => ?_) (fun y1 M1 e1 q1 y3 M3 e3 q3 h5 h6 h8 h10 h12 h14 h16 h19 h22 h25 h26 => ?_) (fun y1 M1 e1 q1 y3 M3 e3 q3 h5 h6 h8 h10 h12 h14 h16 h19 h22 h25 h26 => ?_) (fun y1 M1 e1 q1 y3 M3 e3 q3 h5 h6 h8 h10 h12 h14 h16 h19 h22 h25 => absurd (tb_out8 h6 h8 h10 h12 h14 h16 h19 h22 h25) (by have h := (q1.2.elim (fun q => q.2) (fun q => absurd q.1 (q3.elim (fun q => q.1) (fun q => absurd q.2.1 h5))) : inN 9 x); have g1 := h.1; have g2 := h.2; omega)) (fun y1 M1 e1 q1 y3 M3 e3 q3 h5 h6 h8 h10 h12 h14 h16 h19 h22 h25 => absurd (tb_out8 h6 h8 h10 h12 h14 h16 h19 h22 h25) (by have h := (q1.2.elim (fun q => q.2) (fun q => absurd q.1 (q3.elim (fun q => q.1) (fun q => absurd q.2.1 h5))) : inN 9 x); have g1 := h.1; have g2 := h.2; omega)) (fun y1 M1 e1 q1 y3 M3 e3 q3 h5 => ?_)
  · obtain ⟨rfl, -⟩ := q1
    exact rgh_c hl0 hR
  · obtain ⟨n1, -, rfl⟩ : ¬ y1 = 0 ∧ y3 = 1 ∧ M3 = M0w M := q3.elim id (fun q => absurd q.2.1 h5)
    refine ⟨rfl, rfl, _, rfl, Or.inr ⟨_, ?_, rfl, rfl⟩, rfl⟩
    rw [cnO, if_pos h6]
    exact congrArg some hm.1.symm
  · obtain ⟨n1, -, rfl⟩ : ¬ y1 = 0 ∧ y3 = 1 ∧ M3 = M0w M := q3.elim id (fun q => absurd q.2.1 h5)
    refine ⟨rfl, rfl, _, rfl, Or.inr ⟨_, ?_, rfl, rfl⟩, rfl⟩
    rw [cnO, if_neg h6, if_pos h8]
    exact congrArg some hm.2.1.symm
  · obtain ⟨n1, -, rfl⟩ : ¬ y1 = 0 ∧ y3 = 1 ∧ M3 = M0w M := q3.elim id (fun q => absurd q.2.1 h5)
    refine ⟨rfl, rfl, _, rfl, Or.inr ⟨_, ?_, rfl, rfl⟩, rfl⟩
    rw [cnO, if_neg h6, if_neg h8, if_pos h10]
    exact congrArg some hm.2.2.1.symm
  · obtain ⟨n1, -, rfl⟩ : ¬ y1 = 0 ∧ y3 = 1 ∧ M3 = M0w M := q3.elim id (fun q => absurd q.2.1 h5)
    refine ⟨rfl, rfl, _, rfl, Or.inr ⟨_, ?_, rfl, rfl⟩, rfl⟩
    rw [cnO, if_neg h6, if_neg h8, if_neg h10, if_pos h12]
    exact congrArg some hm.2.2.2.1.symm
  · obtain ⟨n1, -, rfl⟩ : ¬ y1 = 0 ∧ y3 = 1 ∧ M3 = M0w M := q3.elim id (fun q => absurd q.2.1 h5)
    refine ⟨rfl, rfl, _, rfl, Or.inr ⟨_, ?_, rfl, rfl⟩, rfl⟩
    rw [cnO, if_neg h6, if_neg h8, if_neg h10, if_neg h12, if_pos h14]
    exact congrArg some ht.symm
  · rw [h16]
    exact vp_in_nI (n := 0) (by decide) (by decide)
  · obtain ⟨n1, -, rfl⟩ : ¬ y1 = 0 ∧ y3 = 1 ∧ M3 = M0w M := q3.elim id (fun q => absurd q.2.1 h5)
    refine ⟨rfl, rfl, _, rfl, Or.inr ⟨_, ?_, rfl, rfl⟩, rfl⟩
    rw [cnO, if_neg h6, if_neg h8, if_neg h10, if_neg h12, if_neg h14, if_pos h16]
    rw [h16, show (Int32.ofInt 5 - Int32.ofInt 5).toNatClampNeg = 0 by decide]
    rfl
  · rw [h19]
    exact vp_in_nI (n := 1) (by decide) (by decide)
  · obtain ⟨n1, -, rfl⟩ : ¬ y1 = 0 ∧ y3 = 1 ∧ M3 = M0w M := q3.elim id (fun q => absurd q.2.1 h5)
    refine ⟨rfl, rfl, _, rfl, Or.inr ⟨_, ?_, rfl, rfl⟩, rfl⟩
    rw [cnO, if_neg h6, if_neg h8, if_neg h10, if_neg h12, if_neg h14, if_neg h16, if_pos h19]
    rw [h19, show (Int32.ofInt 6 - Int32.ofInt 5).toNatClampNeg = 1 by decide]
    rfl
  · rw [h22]
    exact vp_in_nI (n := 2) (by decide) (by decide)
  · obtain ⟨n1, -, rfl⟩ : ¬ y1 = 0 ∧ y3 = 1 ∧ M3 = M0w M := q3.elim id (fun q => absurd q.2.1 h5)
    refine ⟨rfl, rfl, _, rfl, Or.inr ⟨_, ?_, rfl, rfl⟩, rfl⟩
    rw [cnO, if_neg h6, if_neg h8, if_neg h10, if_neg h12, if_neg h14, if_neg h16, if_neg h19, if_pos h22]
    rw [h22, show (Int32.ofInt 7 - Int32.ofInt 5).toNatClampNeg = 2 by decide]
    rfl
  · obtain ⟨n1, -, rfl⟩ : ¬ y1 = 0 ∧ y3 = 1 ∧ M3 = M0w M := q3.elim id (fun q => absurd q.2.1 h5)
    refine ⟨rfl, rfl, _, rfl, Or.inr ⟨_, ?_, rfl, rfl⟩, rfl⟩
    rw [cnO, if_neg h6, if_neg h8, if_neg h10, if_neg h12, if_neg h14, if_neg h16, if_neg h19, if_neg h22, if_pos h25]
    cases a with
    | none => exact absurd (show (M0w M).1 58 51 = Int32.ofInt (-1) from ha) h26
    | some n => exact congrArg some ha.1.symm
  · obtain ⟨n1, -, rfl⟩ : ¬ y1 = 0 ∧ y3 = 1 ∧ M3 = M0w M := q3.elim id (fun q => absurd q.2.1 h5)
    refine ⟨rfl, rfl, _, rfl, Or.inr ⟨_, ?_, rfl, rfl⟩, rfl⟩
    rw [cnO, if_neg h6, if_neg h8, if_neg h10, if_neg h12, if_neg h14, if_neg h16, if_neg h19, if_neg h22, if_pos h25]
    cases a with
    | none => rfl
    | some n =>
      have n2 := ha.2
      have g2 : M.1 58 51 = Int32.ofInt (-1) := h26
      rw [ha.1] at g2
      exact absurd g2 (nI_nm1 (by omega))
  · obtain ⟨n1, -, rfl⟩ : y1 = 0 ∧ y3 = 0 ∧ M3 = M1w M := q3.elim (fun q => absurd (q.2.1.symm.trans h5) z1) id
    have hx : ¬ inN 9 x := q1.2.elim (fun q => absurd (q.1.symm.trans n1) z1) (fun q => q.2)
    refine ⟨rfl, rfl, _, rfl, Or.inl ⟨?_, rfl⟩, rfl⟩
    have n0 : ∀ j : Nat, j < 9 → ¬ x = nI j := fun j hj e => hx (by
      rw [e]
      unfold inN
      rw [nI_toInt (by omega)]
      omega)
    rw [cnO, if_neg (show ¬ x = Int32.ofInt 0 from n0 0 (by decide)), if_neg (show ¬ x = Int32.ofInt 1 from n0 1 (by decide)), if_neg (show ¬ x = Int32.ofInt 2 from n0 2 (by decide)), if_neg (show ¬ x = Int32.ofInt 3 from n0 3 (by decide)), if_neg (show ¬ x = Int32.ofInt 4 from n0 4 (by decide)), if_neg (show ¬ x = Int32.ofInt 5 from n0 5 (by decide)), if_neg (show ¬ x = Int32.ofInt 6 from n0 6 (by decide)), if_neg (show ¬ x = Int32.ofInt 7 from n0 7 (by decide)), if_neg (show ¬ x = Int32.ofInt 8 from n0 8 (by decide))]
theorem hz_85 {l : aL} (hl0 : l.1.stackTraces = false) {M : aM} {u : Nat → Nat} {s : Nat} {H : HS} {a b : Option Nat} (h : LKd u s H a b M) {x : Int32} : ∀ hh, iT (pI pg 85) = tableOf hh → ACH l (pI pg 85) hh (gcI (fun k M' => (LKd u s H a b M' ∧ kp kZ M M') ∧ QP (cnO H s a (M.1 57) x) k M')) 2 12 [.ref 0, .int x, .ref 93] SHF M := fun hh hT => by
  have c : AC l (pI pg 86) (tcO "java/util/NoSuchElementException" M (cnO H s a (M.1 57) x)) 2 12 [.ref 0, .int x] SHF M := h.1.2.2.1.elim (fun g => cnta_c hl0 g.1 g.2 h.1.1.2.1 h.2.1.1) (fun g => cntb_c hl0 g.1 g.2 h.1.1.2.1 h.2.1.1)
  refine ACH.joinG (hg_85 hl0 c (fun v sh' M' hp => ?_) (fun X sh' M' hp => ?_) hh hT) (ls_85 hl0 h.1 hh hT) (fun k M' M1 q2 q1 hs => ⟨⟨LK_kp h q2.1 q2.2, q2.2⟩, QP_sme ?_ hs⟩)
  · obtain ⟨p1, -, ⟨-, p2⟩ | ⟨y, -, p2⟩⟩ := hp
    · cases p2
    · cases p2
      exact ⟨p1, y, rfl⟩
  · obtain ⟨p1, -, ⟨-, p2⟩ | ⟨y, -, p2⟩⟩ := hp
    · cases p2
      exact ⟨p1, rfl⟩
    · cases p2
  · rcases q1 with ⟨k1, -, -, ⟨p1, -⟩ | ⟨y, -, p2⟩⟩ | ⟨k0, y, M0, ⟨-, -, ⟨-, p2⟩ | ⟨y', p1, p2⟩⟩, rfl⟩
    · exact Or.inl ⟨p1, k1⟩
    · cases p2
    · cases p2
    · cases p2
      exact Or.inr ⟨y, p1, k0, rfl⟩
theorem mz_194 {l : aL} (hl0 : l.1.stackTraces = false) {M : aM} {u : Nat → Nat} {s : Nat} {H : HS} {a b : Option Nat} (h : LKd u s H a b M) {x : Int32} : AC l (pI pg 194) (gcI (fun z M' => LKd u s H a b M' ∧ mO (cnO H s a (M.1 66) x) z M' ∧ M'.2.1 93 0 = M.2.1 93 0)) 0 0 [.ref 58, .int x] SHF M := AC.joinG (fcgI hl0 (mcn_c hl0 (LJ_RM h.1) h.1.2.2.2.1 h.1.1.2.2.1 h.2.1.2.2.1) (fun z M' _ q => q)) (km_194 hl0 h) (fun z M' M1 q2 q1 hs => ⟨q2, mO_sme q1.1 hs, (sme_aJ hs (i := 93) (k := 0) (n := 1) rfl (by decide)).symm.trans (by rw [q1.2])⟩)
