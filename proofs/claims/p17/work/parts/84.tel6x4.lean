/-! LEARNING, of the reference -/
def bsT (H : HS) (R : sR) (ts : Nat) (M4 : aM) : Prop := JR R M4 ∧ lsAll H ts H.pe M4 ∧ M4.1 58 1 = nI H.pe ∧ M4.1 58 2 = nI H.wo
section LRR
variable {l : aL} {M M4 Mc : aM} {H : HS} {R : sR} {ts : Nat} {b x : Int32}
theorem canT_x (hl0 : l.1.stackTraces = false) (hO : okR R) (hI : HI H) (hB : bsT H R ts M4) (hF : frC M4 Mc) {lf : Nat} (hl : lf < 2 ^ H.pe) : AC l (pI pg 209) (fcI Mc (fun y M' => frC M4 M' ∧ ((y = 1 ∧ canT H ts lf) ∨ (y = 0 ∧ ¬ canT H ts lf)))) 0 0 [.ref 58, .int (nI lf)] SHF Mc := by
  have w8 := hI.2.1
  have hp6 := hI.pe
  have p6 := pw_le hp6
  have wpos := Nat.two_pow_pos H.wo
  obtain ⟨g1, g2⟩ := mdl_of (left := lf) hO hB.1 (by omega)
  have eN : (M4.1 58 1).toInt.toNat = H.pe := by rw [hB.2.2.1, nI_toInt (by omega)]; rfl
  have eW : dW (mkD M4 lf) = H.wo := by
    show (M4.1 58 2).toInt.toNat = H.wo
    rw [hB.2.2.2, nI_toInt (by omega)]
    rfl
  rw [eN] at g1 g2
  have hm := g1.re hF.1 (fun a k h1 h2 h3 _ _ => hF.2 a k h1 h2 h3)
  refine AC.post hl0 (fun r sh' M' hp => ?_) (show AC l (pI pg 209) (fcI Mc (Q208 H.pe (mkD M4 lf) Mc)) 0 0 [.ref 58, .int (nI lf)] SHF Mc from c208 hl0 hm g2)
  obtain ⟨r1, r2, y, r3, q6⟩ := hp
  have hb := Best_rea (H := H) (cd := fun p => cdT H ts p H.te) (lf := lf) eW (fun w hw => by
    have := q6.1 w (by omega)
    show (M'.1 76 w).toInt = -1
    rw [this]
    rfl) rfl (lsAll_hL w8 hB.2.1) q6.2.2.2.1 (show 2 ^ H.wo - 1 < 2 ^ H.wo by omega)
  have q := q6.2.2.2.2
  rw [eW] at q
  refine ⟨r1, r2, y, r3, ⟨r2.trans hF.1, fun a k h1 h2 h3 => (q6.2.2.1 a k h1 h2 h3).trans (hF.2 a k h1 h2 h3)⟩, ?_⟩
  rcases q with ⟨y1, y2⟩ | ⟨y0, y2⟩
  · exact Or.inl ⟨y1, hb.mp y2⟩
  · exact Or.inr ⟨y0, fun h => hb.mpr h y2⟩
theorem frT_R (hO : okR R) (hB : bsT H R ts M4) (hF : frC M4 Mc) : ∀ e ∈ RM, Mc.2.2 e.1 e.2.1 = e.2.2 := fun e he => by
  rw [hF.1]
  exact rgR_ok hB.1.2 (hO.1 e he)
theorem frT_1 (hB : bsT H R ts M4) (hF : frC M4 Mc) : Mc.1 58 1 = nI H.pe := (hF.2 58 1 (by decide) (by decide) (by decide)).trans hB.2.2.1
theorem hoT1_c (hl0 : l.1.stackTraces = false) (hO : okR R) (hI : HI H) (hB : bsT H R ts M4) : AC l (pI pg 223) (fcI M4 (fun y M' => frC M4 M' ∧ ((y = nI 1 ∧ hT1 H ts) ∨ (y = nI 0 ∧ ¬ hT1 H ts)))) 0 0 [.ref 58, .int (Int32.ofInt 0)] SHF M4 := by
  have hp6 := hI.pe
  have z0 : (Int32.ofInt 0 : Int32) = 0 := by decide
  refine fw_of hl0 ⟨by decide +kernel, by decide +kernel, by decide +kernel⟩ rfl ?_
  refine hol_0 (frT_R hO hB frC_0) hl0 ?_
  rw [hB.2.2.1, fullW (by omega)]
  have loop : ∀ (d p : Nat) (Mc : aM), p + d = H.pe → frC M4 Mc → (∀ a, a < p → canT H ts (aw1 H.pe a)) → AW l (pI pg 223) (fcI M4 (fun y M' => frC M4 M' ∧ ((y = nI 1 ∧ hT1 H ts) ∨ (y = nI 0 ∧ ¬ hT1 H ts)))) 0 0 11 [(3, .int (nI p)), (2, .int (nI (2 ^ H.pe - 1))), (1, .int (Int32.ofInt 0)), (0, .ref 58)] [] SHF Mc := by
    intro d
    induction d with
    | zero =>
      intro p Mc hp hF ha
      have ep : p = H.pe := by omega
      subst ep
      have le : Mc.1 58 1 ≤ nI H.pe := by rw [frT_1 hB hF]; exact Int32.le_refl _
      exact hol_11 (frT_R hO hB hF) hl0 (fun _ => ⟨rfl, hF.1, _, rfl, hF, Or.inl ⟨rfl, ha⟩⟩) (fun _ _ => True) (fun h => absurd le h) (fun h => absurd le h) (fun h => absurd le h) (fun h => absurd le h) (fun _ _ => True) (fun h => absurd le h) (fun h => absurd le h) (fun h => absurd le h)
    | succ d ih =>
      intro p Mc hp hF ha
      have ng : ¬ Mc.1 58 1 ≤ nI p := by
        rw [frT_1 hB hF, nle (by omega) (by omega)]
        omega
      refine hol_11 (frT_R hO hB hF) hl0 (fun h => absurd h ng) (fun y M' => frC M4 M' ∧ ((y = 1 ∧ canT H ts (aw1 H.pe p)) ∨ (y = 0 ∧ ¬ canT H ts (aw1 H.pe p)))) (fun _ _ => ?_) (fun _ _ y4 M6 e4 q4 h6 => ?_) (fun _ _ y4 M6 e4 q4 h6 => ?_) (fun _ h3 => absurd z0 h3) (fun _ _ => True) (fun _ h3 => absurd z0 h3) (fun _ h3 => absurd z0 h3) (fun _ h3 => absurd z0 h3)
      · rw [aw1_m H.pe hp6 p (by omega)]
        exact canT_x hl0 hO hI hB hF (aw1_lt H.pe hp6 p (by omega))
      · have cy := (q4.2.resolve_right (fun q => h6 q.1)).2
        refine hol_50 (q := 0) (frT_R hO hB q4.1) hl0 (fun _ => ?_) (fun h => absurd z0 h) (fun _ _ => True) (fun h => absurd z0 h) (fun h => absurd z0 h) (fun h => absurd z0 h)
        rw [show nI p + Int32.ofInt 1 = nI (p + 1) from nI_1 p]
        refine ih (p + 1) M6 (by omega) q4.1 (fun a h => ?_)
        by_cases e : a = p
        · subst e
          exact cy
        · exact ha a (by omega)
      · have cn := (q4.2.resolve_left (fun q => absurd (q.1.symm.trans h6) (by decide))).2
        exact ⟨rfl, q4.1.1, _, rfl, q4.1, Or.inr ⟨rfl, fun h => cn (h p (by omega))⟩⟩
  exact loop H.pe 0 M4 (by omega) frC_0 (fun a h => absurd h (Nat.not_lt_zero _))
theorem hoT2_c (hl0 : l.1.stackTraces = false) (hO : okR R) (hI : HI H) (hB : bsT H R ts M4) : AC l (pI pg 223) (fcI M4 (fun y M' => frC M4 M' ∧ ((y = nI 1 ∧ hT2 H ts) ∨ (y = nI 0 ∧ ¬ hT2 H ts)))) 0 0 [.ref 58, .int (Int32.ofInt 1)] SHF M4 := by
  have hp6 := hI.pe
  have z1 : ¬ (Int32.ofInt 1 : Int32) = 0 := by decide
  refine fw_of hl0 ⟨by decide +kernel, by decide +kernel, by decide +kernel⟩ rfl ?_
  refine hol_0 (frT_R hO hB frC_0) hl0 ?_
  rw [hB.2.2.1, fullW (by omega)]
  have outer : ∀ (d p : Nat) (Mc : aM), p + d = H.pe → frC M4 Mc → (H.pe = 1 → ∀ a, a < p → canT H ts (aw1 H.pe a)) → (∀ a, a < p → ∀ b, b < a → canT H ts (aw2 H.pe a b)) → AW l (pI pg 223) (fcI M4 (fun y M' => frC M4 M' ∧ ((y = nI 1 ∧ hT2 H ts) ∨ (y = nI 0 ∧ ¬ hT2 H ts)))) 0 0 11 [(3, .int (nI p)), (2, .int (nI (2 ^ H.pe - 1))), (1, .int (Int32.ofInt 1)), (0, .ref 58)] [] SHF Mc := by
    intro d
    induction d with
    | zero =>
      intro p Mc hp hF ha hb
      have ep : p = H.pe := by omega
      subst ep
      have le : Mc.1 58 1 ≤ nI H.pe := by rw [frT_1 hB hF]; exact Int32.le_refl _
      exact hol_11 (frT_R hO hB hF) hl0 (fun _ => ⟨rfl, hF.1, _, rfl, hF, Or.inl ⟨rfl, fun e => ha e 0 (by omega), hb⟩⟩) (fun _ _ => True) (fun h => absurd le h) (fun h => absurd le h) (fun h => absurd le h) (fun h => absurd le h) (fun _ _ => True) (fun h => absurd le h) (fun h => absurd le h) (fun h => absurd le h)
    | succ d ih =>
      intro p Mc hp hF ha hb
      have ng : ¬ Mc.1 58 1 ≤ nI p := by
        rw [frT_1 hB hF, nle (by omega) (by omega)]
        omega
      have e1 : Mc.1 58 1 = Int32.ofInt 1 ↔ H.pe = 1 := by
        rw [frT_1 hB hF, z_1, nI_eq (by omega) (by decide)]
      have inner : (H.pe = 1 → ∀ a, a < p + 1 → canT H ts (aw1 H.pe a)) → ∀ (d2 q : Nat) (Mc : aM), q + d2 = p → frC M4 Mc → (∀ b, b < q → canT H ts (aw2 H.pe p b)) → AW l (pI pg 223) (fcI M4 (fun y M' => frC M4 M' ∧ ((y = nI 1 ∧ hT2 H ts) ∨ (y = nI 0 ∧ ¬ hT2 H ts)))) 0 0 50 [(4, .int (nI q)), (3, .int (nI p)), (2, .int (nI (2 ^ H.pe - 1))), (1, .int (Int32.ofInt 1)), (0, .ref 58)] [] SHF Mc := by
        intro ha2 d2
        induction d2 with
        | zero =>
          intro q Mc hq hF hc
          have eq : q = p := by omega
          subst eq
          have le : nI q ≤ nI q := Int32.le_refl _
          refine hol_50 (frT_R hO hB hF) hl0 (fun h => absurd h z1) (fun _ _ => ?_) (fun _ _ => True) (fun _ h => absurd le h) (fun _ h => absurd le h) (fun _ h => absurd le h)
          rw [show nI q + Int32.ofInt 1 = nI (q + 1) from nI_1 q]
          refine ih (q + 1) Mc (by omega) hF ha2 (fun a h => ?_)
          by_cases e : a = q
          · subst e
            exact hc
          · exact hb a (by omega)
        | succ d2 ih2 =>
          intro q Mc hq hF hc
          have ng2 : ¬ nI p ≤ nI q := by
            rw [nle (by omega) (by omega)]
            omega
          refine hol_50 (frT_R hO hB hF) hl0 (fun h => absurd h z1) (fun _ h => absurd h ng2) (fun y M' => frC M4 M' ∧ ((y = 1 ∧ canT H ts (aw2 H.pe p q)) ∨ (y = 0 ∧ ¬ canT H ts (aw2 H.pe p q)))) (fun _ _ => ?_) (fun _ _ y5 M5 e5 q5 h7 => ?_) (fun _ _ y5 M5 e5 q5 h7 => ?_)
          · rw [aw2_m H.pe hp6 p (by omega) q (by omega)]
            exact canT_x hl0 hO hI hB hF (aw2_lt H.pe hp6 p (by omega) q (by omega))
          · have cy := (q5.2.resolve_right (fun q => h7 q.1)).2
            rw [show nI q + Int32.ofInt 1 = nI (q + 1) from nI_1 q]
            refine ih2 (q + 1) M5 (by omega) q5.1 (fun b h => ?_)
            by_cases e : b = q
            · subst e
              exact cy
            · exact hc b (by omega)
          · have cn := (q5.2.resolve_left (fun q => absurd (q.1.symm.trans h7) (by decide))).2
            exact ⟨rfl, q5.1.1, _, rfl, q5.1, Or.inr ⟨rfl, fun h => cn (h.2 p (by omega) q (by omega))⟩⟩
      refine hol_11 (frT_R hO hB hF) hl0 (fun h => absurd h ng) (fun _ _ => True) (fun _ h3 => absurd h3 z1) (fun _ h3 => absurd h3 z1) (fun _ h3 => absurd h3 z1) (fun _ _ h9 => inner (fun e => absurd (e1.mpr e) h9) p 0 Mc (by omega) hF (fun b h => absurd h (Nat.not_lt_zero _))) (fun y M' => frC M4 M' ∧ ((y = 1 ∧ canT H ts (aw1 H.pe p)) ∨ (y = 0 ∧ ¬ canT H ts (aw1 H.pe p)))) (fun _ _ h9 => ?_) (fun _ _ h9 y11 M11 e11 q11 h13 => ?_) (fun _ _ h9 y11 M11 e11 q11 h13 => ?_)
      · rw [aw1_m H.pe hp6 p (by omega)]
        exact canT_x hl0 hO hI hB hF (aw1_lt H.pe hp6 p (by omega))
      · have cy := (q11.2.resolve_right (fun q => h13 q.1)).2
        refine inner (fun e a h => ?_) p 0 M11 (by omega) q11.1 (fun b h => absurd h (Nat.not_lt_zero _))
        by_cases ea : a = p
        · subst ea
          exact cy
        · exact ha e a (by omega)
      · have cn := (q11.2.resolve_left (fun q => absurd (q.1.symm.trans h13) (by decide))).2
        have ee := e1.mp h9
        have e0 : p = 0 := by omega
        subst e0
        exact ⟨rfl, q11.1.1, _, rfl, q11.1, Or.inr ⟨rfl, fun h => cn (h.1 ee)⟩⟩
  exact outer H.pe 0 M4 (by omega) frC_0 (fun _ a h => absurd h (Nat.not_lt_zero _)) (fun a h => absurd h (Nat.not_lt_zero _))
theorem hoT_j (hl0 : l.1.stackTraces = false) (hO : okR R) (hk : cOk l pg R SHF en_149) (hI : HI H) (hB : bsT H R ts M4) (hb : b = Int32.ofInt 0 ∨ b = Int32.ofInt 1) : AC l (pI pg 223) (fcI M4 (fun y M' => JR R M' ∧ frC M4 M' ∧ ((¬ y = 0 ∧ hoB H b ts) ∨ (y = 0 ∧ ¬ hoB H b ts)))) 0 0 [.ref 58, .int b] SHF M4 := by
  have c : AC l (pI pg 223) (fcI M4 (fun y M' => (¬ y = 0 ∧ hoB H b ts) ∨ (y = 0 ∧ ¬ hoB H b ts))) 0 0 [.ref 58, .int b] SHF M4 := by
    rcases hb with rfl | rfl
    · refine AC.post hl0 (fun r sh' M' hp => ?_) (hoT1_c hl0 hO hI hB)
      obtain ⟨r1, r2, y, r3, -, r4⟩ := hp
      refine ⟨r1, r2, y, r3, ?_⟩
      rw [hoB_0 (show (Int32.ofInt 0 : Int32) = 0 by decide)]
      rcases r4 with ⟨rfl, r4⟩ | ⟨rfl, r4⟩
      · exact Or.inl ⟨by decide, r4⟩
      · exact Or.inr ⟨by decide, r4⟩
    · refine AC.post hl0 (fun r sh' M' hp => ?_) (hoT2_c hl0 hO hI hB)
      obtain ⟨r1, r2, y, r3, -, r4⟩ := hp
      refine ⟨r1, r2, y, r3, ?_⟩
      rw [hoB_n (show ¬ (Int32.ofInt 1 : Int32) = 0 by decide)]
      rcases r4 with ⟨rfl, r4⟩ | ⟨rfl, r4⟩
      · exact Or.inl ⟨by decide, r4⟩
      · exact Or.inr ⟨by decide, r4⟩
  have b01 : inI b (0, 1) := by
    rcases hb with rfl | rfl
    · exact ⟨by decide, by decide⟩
    · exact ⟨by decide, by decide⟩
  refine AC.post hl0 (fun r sh' M' hp => ?_) (AC.joinI c (fcI_of (e := en_149) hl0 hk rfl rfl rfl rfl ⟨rfl, ⟨b, rfl, b01⟩, trivial⟩ hB.1 (fun _ h => absurd h List.not_mem_nil)))
  obtain ⟨r1, r2, y, r3, ⟨-, qJ⟩, M1, q1, -⟩ := hp
  refine ⟨r1, r2, y, r3, ⟨qJ.1, qJ.2.1⟩, ⟨r2, fun a k h1 h2 h3 => qJ.2.2.1 a k (wr_p (fun b => !(Nat.beq b 76 || (Nat.beq b 77 || Nat.beq b 78))) (by decide +kernel) ?_)⟩, q1⟩
  rw [Bool.not_eq_true', Bool.or_eq_false_iff, Bool.or_eq_false_iff]
  exact ⟨nbq h1, nbq h2, nbq h3⟩
theorem laT_j (hl0 : l.1.stackTraces = false) (hk : cOk l pg R SHF en_157) (hR : ∀ e ∈ RM, M.2.2 e.1 e.2.1 = e.2.2) (hJ : JR R M) (hI : HI H) (hm : mHo H M) (ht : ts < 256) : AC l (pI pg 204) (fcV M (fun M' => JR R M' ∧ QlA H ts M M')) 0 0 [.ref 58, .int (nI ts)] SHF M := by
  have w8 := hI.2.1
  have p6 := hI.1
  have tin : inI (nI ts) (0, 255) := by
    have e : (nI ts).toInt = ts := nI_toInt (by omega)
    exact ⟨by show (0 : Int) ≤ (nI ts).toInt; rw [e]; omega, by show (nI ts).toInt ≤ 255; rw [e]; omega⟩
  refine AC.post hl0 (fun r sh' M' hp => ?_) (AC.joinV (lal_c (ts := ts) hl0 hR hI hm ht) (fcV_of (e := en_157) hl0 hk rfl rfl rfl rfl ⟨rfl, ⟨_, rfl, tin⟩, trivial⟩ hJ (fun _ h => absurd h List.not_mem_nil)))
  obtain ⟨p1, p2, p3, qJ, M1, qL, qS⟩ := hp
  refine ⟨p1, p2, p3, ⟨qJ.1, qJ.2.1⟩, lsAll_fr w8 qL.1 (fun p hp => ?_) (fun p k hp hk => ?_) (fun p w hp hw => ?_), fun a k a1 a2 a3 => qJ.2.2.1 a k (wr_p (fun b => !(Nat.beq b 73 || (Nat.beq b 74 || Nat.beq b 75))) (by decide +kernel) ?_)⟩
  · exact (sme_aI qS (i := 74) (n := 6) (ty := .int) rfl rfl (by omega)).symm
  · exact (sme_aI qS (i := 73) (n := 1536) (ty := .int) rfl rfl (by omega)).symm
  · exact (sme_aI qS (i := 75) (n := 48) (ty := .int) rfl rfl (by omega)).symm
  · rw [Bool.not_eq_true', Bool.or_eq_false_iff, Bool.or_eq_false_iff]
    exact ⟨nbq a1, nbq a2, nbq a3⟩
theorem mps_c (hl0 : l.1.stackTraces = false) (hI : HI H) (hR : ∀ e ∈ RM, M.2.2 e.1 e.2.1 = e.2.2) (hm : mHo H M) (ht : ts < 256) : AC l (pI pg 226) (fcI M (fun y M' => M' = M ∧ y = nI (pnH H ts))) 0 0 [.ref 58, .int (nI ts)] SHF M := by
  have t8 := hI.2.2.1
  have e3 := hm.2.2.1
  refine fw_of hl0 ⟨by decide +kernel, by decide +kernel, by decide +kernel⟩ rfl ?_
  refine mps_0 hR hl0 ?_
  have loop : ∀ (d k : Nat), k + d = H.te → AW l (pI pg 226) (fcI M (fun y M' => M' = M ∧ y = nI (pnH H ts))) 0 0 4 [(3, .int (nI k)), (2, .int (nI (pnS H ts k))), (1, .int (nI ts)), (0, .ref 58)] [] SHF M := by
    intro d
    induction d with
    | zero =>
      intro k hk
      have ek : k = H.te := by omega
      subst ek
      have le : M.1 58 3 ≤ nI H.te := by rw [e3]; exact Int32.le_refl _
      exact mps_4 hR hl0 (fun _ => ⟨rfl, rfl, _, rfl, rfl, rfl⟩) (fun h => absurd le h) (fun h => absurd le h) (fun h => absurd le h)
    | succ d ih =>
      intro k hk
      have ng : ¬ M.1 58 3 ≤ nI k := by
        rw [e3, nle (by omega) (by omega)]
        omega
      obtain ⟨-, -, -, u3⟩ := hm.2.2.2.2.2.2.2.2.2 k (by omega)
      have ix : Int32.ofInt 4 * nI k + Int32.ofInt 3 = nI (4 * k + 3) := by
        rw [show Int32.ofInt 4 * nI k = nI (4 * k) from nI_mulN 4 k, show (Int32.ofInt 3 : Int32) = nI 3 from rfl, nI_add]
      refine mps_4 hR hl0 (fun h => absurd h ng) (fun _ h3 => ?_) (fun _ h3 => ?_) (fun _ h3 => ?_)
      · rw [bitT (by omega) (by omega)] at h3
        rw [show nI k + Int32.ofInt 1 = nI (k + 1) from nI_1 k, show ∀ v : Int32, v + Int32.ofInt 0 = v from fun v => Int32.add_zero v, ← pnS_n (k := k) h3]
        exact ih (k + 1) (by omega)
      · rw [ix]
        exact vp_in_nI (by omega) (by decide)
      · rw [bitT (by omega) (by omega)] at h3
        rw [show nI k + Int32.ofInt 1 = nI (k + 1) from nI_1 k, ix, nI_clamp (by omega), u3, nI_add, ← pnS_y h3]
        exact ih (k + 1) (by omega)
  exact loop H.te 0 (by omega)
theorem bdo_c (hl0 : l.1.stackTraces = false) (hI : HI H) (hR : ∀ e ∈ RM, M.2.2 e.1 e.2.1 = e.2.2) (hm : mHo H M) {m : Nat} (hm3 : m ≤ 3) : AC l (pI pg 225) (fcI M (fun y M' => M' = M ∧ y = brV (bnF H m H.wo 0 0))) 0 0 [.ref 58, .int (nI m)] SHF M := by
  have t8 := hI.2.2.1
  have w8 := hI.2.1
  have p6 := hI.1
  have e1 := hm.1
  have e2 := hm.2.1
  have e3 := hm.2.2.1
  refine fw_of hl0 ⟨by decide +kernel, by decide +kernel, by decide +kernel⟩ rfl ?_
  refine bdo_0 hR hl0 ?_
  have outer : ∀ (d w v : Nat), w + d = H.wo → bnF H m d w v = bnF H m H.wo 0 0 → AW l (pI pg 225) (fcI M (fun y M' => M' = M ∧ y = brV (bnF H m H.wo 0 0))) 0 0 4 [(3, .int (nI w)), (2, .int (nI v)), (1, .int (nI m)), (0, .ref 58)] [] SHF M := by
    intro d
    induction d with
    | zero =>
      intro w v hw hv
      have ew : w = H.wo := by omega
      subst ew
      have le : M.1 58 2 ≤ nI H.wo := by rw [e2]; exact Int32.le_refl _
      exact bdo_4 hR hl0 (fun _ => ⟨rfl, rfl, _, rfl, rfl, by rw [← hv]; rfl⟩) (fun h => absurd le h)
    | succ d ih =>
      intro w v hw hv
      have ng : ¬ M.1 58 2 ≤ nI w := by
        rw [e2, nle (by omega) (by omega)]
        omega
      have cl := cnF_le (H := H) (w := w) H.pe
      have inner : ∀ (d2 c u v : Nat), m - c = d2 → c ≤ 8 → u < 256 → (mrL H w d2 u v).bind (bnF H m d (w + 1)) = bnF H m H.wo 0 0 → AW l (pI pg 225) (fcI M (fun y M' => M' = M ∧ y = brV (bnF H m H.wo 0 0))) 0 0 61 [(5, .int (nI u)), (4, .int (nI m - nI c)), (3, .int (nI w)), (2, .int (nI v)), (1, .int (nI m)), (0, .ref 58)] [] SHF M := by
        intro d2
        induction d2 with
        | zero =>
          intro c u v hc c8 hu hv
          have le : nI m - nI c ≤ 0 := (lack_0 m hm3 c c8).mpr hc
          refine bdo_61 hR hl0 (fun _ => ?_) (fun h => absurd le h)
          rw [show nI w + Int32.ofInt 1 = nI (w + 1) from nI_1 w]
          exact ih (w + 1) v (by omega) hv
        | succ d2 ih2 =>
          intro c u v hc c8 hu hv
          have ng2 : ¬ nI m - nI c ≤ 0 := fun h => by
            have := (lack_0 m hm3 c c8).mp h
            omega
          have hv : (((chp H w u H.te).bind (fun b => mrL H w d2 (u ||| 2 ^ b) (v + H.t3 b))).bind (bnF H m d (w + 1))) = bnF H m H.wo 0 0 := hv
          refine bdo_61 hR hl0 (fun h => absurd h ng2) (fun _ => ?_)
          have seek : ∀ (d3 k : Nat), k + d3 = H.te → AW l (pI pg 225) (fcI M (fun y M' => M' = M ∧ y = brV (bnF H m H.wo 0 0))) 0 0 72 [(7, .int (nI k)), (6, .int (brV (chp H w u k))), (5, .int (nI u)), (4, .int (nI m - nI c)), (3, .int (nI w)), (2, .int (nI v)), (1, .int (nI m)), (0, .ref 58)] [] SHF M := by
            intro d3
            induction d3 with
            | zero =>
              intro k hk
              have ek : k = H.te := by omega
              subst ek
              have le : M.1 58 3 ≤ nI H.te := by rw [e3]; exact Int32.le_refl _
              cases ec : chp H w u H.te with
              | none =>
                rw [ec] at hv
                exact bdo_72 hR hl0 (fun _ h2 => absurd rfl h2) (fun _ h2 => absurd rfl h2) (fun _ _ => ⟨rfl, rfl, _, rfl, rfl, by rw [← hv]; rfl⟩) (fun h => absurd le h) (fun h => absurd le h) (fun h => absurd le h) (fun h => absurd le h) (fun h => absurd le h) (fun h => absurd le h) (fun h => absurd le h) (fun h => absurd le h)
              | some b =>
                have bl := chp_lt _ ec
                have p28 : 2 ^ b ≤ 128 := Nat.le_trans (Nat.pow_le_pow_right (by decide) (show b ≤ 7 by omega)) (by decide)
                obtain ⟨-, -, -, u3⟩ := hm.2.2.2.2.2.2.2.2.2 b (by omega)
                have ix : Int32.ofInt 4 * nI b + Int32.ofInt 3 = nI (4 * b + 3) := by
                  rw [show Int32.ofInt 4 * nI b = nI (4 * b) from nI_mulN 4 b, show (Int32.ofInt 3 : Int32) = nI 3 from rfl, nI_add]
                rw [ec] at hv
                show AW l (pI pg 225) _ 0 0 72 [(7, .int (nI H.te)), (6, .int (nI b)), (5, .int (nI u)), (4, .int (nI m - nI c)), (3, .int (nI w)), (2, .int (nI v)), (1, .int (nI m)), (0, .ref 58)] [] SHF M
                refine bdo_72 hR hl0 (fun _ _ => by rw [ix]; exact vp_in_nI (by omega) (by decide)) (fun _ _ => ?_) (fun _ h2 => absurd h2 (nI_nm1 (by omega))) (fun h => absurd le h) (fun h => absurd le h) (fun h => absurd le h) (fun h => absurd le h) (fun h => absurd le h) (fun h => absurd le h) (fun h => absurd le h) (fun h => absurd le h)
                rw [ix, shW (by omega), nI_orN (by omega) (by omega), nI_clamp (by omega), u3, nI_add, lack_d m hm3 c c8]
                exact ih2 (c + 1) (u ||| 2 ^ b) (v + H.t3 b) (by omega) (by omega) (Nat.or_lt_two_pow (n := 8) (by omega) (by omega)) hv
            | succ d3 ih3 =>
              intro k hk
              have ng3 : ¬ M.1 58 3 ≤ nI k := by
                rw [e3, nle (by omega) (by omega)]
                omega
              have nx : nI k + Int32.ofInt 1 = nI (k + 1) := nI_1 k
              obtain ⟨v0, v1, -, v3, v4⟩ := hI.2.2.2.2.2.2.2.2.2.2.2 k (by omega)
              obtain ⟨-, u1, -, u3⟩ := hm.2.2.2.2.2.2.2.2.2 k (by omega)
              have i3 : ∀ k : Nat, Int32.ofInt 4 * nI k + Int32.ofInt 3 = nI (4 * k + 3) := fun k => by
                rw [show Int32.ofInt 4 * nI k = nI (4 * k) from nI_mulN 4 k, show (Int32.ofInt 3 : Int32) = nI 3 from rfl, nI_add]
              have i1 : Int32.ofInt 4 * nI k + Int32.ofInt 1 = nI (4 * k + 1) := by
                rw [show Int32.ofInt 4 * nI k = nI (4 * k) from nI_mulN 4 k, show nI (4 * k) + Int32.ofInt 1 = nI (4 * k + 1) from nI_1 _]
              have go := ih3 (k + 1) (by omega)
              have c1 : M.1 64 (Int32.ofInt 4 * nI k + Int32.ofInt 1).toNatClampNeg = nI (H.t1 k) := by rw [i1, nI_clamp (by omega), u1]
              have c3 : M.1 64 (Int32.ofInt 4 * nI k + Int32.ofInt 3).toNatClampNeg = nI (H.t3 k) := by rw [i3, nI_clamp (by omega), u3]
              have cmp : ∀ b, b < k → M.1 64 (Int32.ofInt 4 * nI b + Int32.ofInt 3).toNatClampNeg = nI (H.t3 b) ∧ H.t3 b ≤ 99 := fun b hb => by
                obtain ⟨-, -, -, w3⟩ := hm.2.2.2.2.2.2.2.2.2 b (by omega)
                exact ⟨by rw [i3, nI_clamp (by omega), w3], (hI.2.2.2.2.2.2.2.2.2.2.2 b (by omega)).2.2.2.2⟩
              refine bdo_72 hR hl0 (fun h => absurd h ng3) (fun h => absurd h ng3) (fun h => absurd h ng3) (fun _ => by rw [i1]; exact vp_in_nI (by omega) (by decide)) (fun _ h7 => ?_) (fun _ h7 h9 h10 => ?_) (fun _ h7 h9 h10 => by rw [i3]; exact vp_in_nI (by omega) (by decide)) (fun _ h7 h9 h10 => ?_) (fun _ h7 h9 h10 h14 => ?_) (fun _ h7 h9 h10 h14 => ?_) (fun _ h7 h9 => ?_)
              · rw [c1, nI_eq (by omega) (by omega)] at h7
                rw [chp_no (fun q => h7 q.1)] at go
                rw [nx]
                exact go
              · rw [c1, nI_eq (by omega) (by omega)] at h7
                rw [bitT (by omega) (by omega), Bool.not_eq_true] at h9
                rw [chp_is ⟨h7, h9⟩, br_on4 h10 (fun b hb => by have := chp_lt k hb; omega)] at go
                rw [nx]
                exact go
              · cases ec : chp H w u k with
                | none =>
                  rw [ec] at h10
                  exact absurd rfl h10
                | some b =>
                  have := chp_lt k ec
                  show vp_in (Int32.ofInt 4 * nI b + Int32.ofInt 3) 32
                  rw [i3]
                  exact vp_in_nI (by omega) (by decide)
              · cases ec : chp H w u k with
                | none =>
                  rw [ec] at h10
                  exact absurd rfl h10
                | some b =>
                  obtain ⟨b3, b99⟩ := cmp b (chp_lt k ec)
                  rw [c1, nI_eq (by omega) (by omega)] at h7
                  rw [bitT (by omega) (by omega), Bool.not_eq_true] at h9
                  rw [ec] at h14
                  have h14 : M.1 64 (Int32.ofInt 4 * nI b + Int32.ofInt 3).toNatClampNeg ≤ M.1 64 (Int32.ofInt 4 * nI k + Int32.ofInt 3).toNatClampNeg := h14
                  rw [c3, b3, nle (by omega) (by omega)] at h14
                  rw [chp_is ⟨h7, h9⟩, ec, bet_g (by omega)] at go
                  rw [nx]
                  exact go
              · cases ec : chp H w u k with
                | none =>
                  rw [ec] at h10
                  exact absurd rfl h10
                | some b =>
                  obtain ⟨b3, b99⟩ := cmp b (chp_lt k ec)
                  rw [c1, nI_eq (by omega) (by omega)] at h7
                  rw [bitT (by omega) (by omega), Bool.not_eq_true] at h9
                  rw [ec] at h14
                  have h14 : ¬ M.1 64 (Int32.ofInt 4 * nI b + Int32.ofInt 3).toNatClampNeg ≤ M.1 64 (Int32.ofInt 4 * nI k + Int32.ofInt 3).toNatClampNeg := h14
                  rw [c3, b3, nle (by omega) (by omega)] at h14
                  rw [chp_is ⟨h7, h9⟩, ec, bet_l (by omega)] at go
                  rw [nx]
                  exact go
              · rw [bitT (by omega) (by omega)] at h9
                rw [chp_no (fun q => by rw [h9] at q; cases q.2)] at go
                rw [nx]
                exact go
          exact seek H.te 0 (by omega)
      refine bdo_4 hR hl0 (fun h => absurd h ng) (fun _ => ?_)
      have cnt : ∀ (d2 p : Nat), p + d2 = H.pe → AW l (pI pg 225) (fcI M (fun y M' => M' = M ∧ y = brV (bnF H m H.wo 0 0))) 0 0 18 [(5, .int (nI p)), (4, .int (nI m - nI (cnF H w p))), (3, .int (nI w)), (2, .int (nI v)), (1, .int (nI m)), (0, .ref 58)] [] SHF M := by
        intro d2
        induction d2 with
        | zero =>
          intro p hp
          have ep : p = H.pe := by omega
          subst ep
          have le : M.1 58 1 ≤ nI H.pe := by rw [e1]; exact Int32.le_refl _
          exact bdo_18 hR hl0 (fun _ => inner (m - cnF H w H.pe) (cnF H w H.pe) 0 v rfl (by omega) (by decide) hv) (fun h => absurd le h) (fun h => absurd le h) (fun h => absurd le h)
        | succ d2 ih2 =>
          intro p hp
          have ng2 : ¬ M.1 58 1 ≤ nI p := by
            rw [e1, nle (by omega) (by omega)]
            omega
          have ix : (Int8.ofInt 8).toInt32 * nI p + nI w = nI (8 * p + w) := by rw [z_8, nI_mulN, nI_add]
          have sk := hm.2.2.2.2.2.2.2.2.1 p w (by omega) (by omega)
          have s9 := (hI.2.2.2.2.2.2.2.1 p w (by omega) (by omega)).1
          have cp := cnF_le (H := H) (w := w) p
          have c4 : M.1 63 ((Int8.ofInt 8).toInt32 * nI p + nI w).toNatClampNeg ≤ 0 ↔ H.sk (8 * p + w) = 0 := by
            rw [ix, nI_clamp (by omega), sk, show (0 : Int32) = nI 0 from rfl, nle (by omega) (by decide)]
            omega
          have go := ih2 (p + 1) (by omega)
          rw [show nI (p + 1) = nI p + Int32.ofInt 1 from (nI_1 p).symm] at go
          refine bdo_18 hR hl0 (fun h => absurd h ng2) (fun _ => by rw [ix]; exact vp_in_nI (by omega) (by decide)) (fun _ h4 => ?_) (fun _ h4 => ?_)
          · rw [c4] at h4
            rw [lack_z m hm3 _ (by omega)]
            rw [show cnF H w (p + 1) = cnF H w p from (show cnF H w p + (if 0 < H.sk (8 * p + w) then 1 else 0) = _ by rw [if_neg (by omega), Nat.add_zero])] at go
            exact go
          · rw [c4] at h4
            rw [lack_1 m hm3 _ (by omega)]
            rw [show cnF H w (p + 1) = cnF H w p + 1 from (show cnF H w p + (if 0 < H.sk (8 * p + w) then 1 else 0) = _ by rw [if_pos (by omega)])] at go
            exact go
      have st : nI m = nI m - nI (cnF H w 0) := by
        show nI m = nI m - 0
        rw [Int32.sub_zero]
      have key := cnt H.pe 0 (by omega)
      rw [← st] at key
      exact key
  exact outer H.wo 0 0 (by omega) rfl
def QMln (H : HS) (b x z : Int32) (M' : aM) : Prop := (inN 3 x ∧ M'.1 58 0 = 0 ∧ leP H b x z) ∨ (¬ inN 3 x ∧ M'.1 58 0 = 1)
theorem mln_q {z : Int32} {M' : aM} (h : QMln H b x z M') : mO (piN 3 (leP H b x) x) z M' := by
  rcases h with ⟨h1, h2, h3⟩ | ⟨h1, h2⟩
  · exact Or.inr ⟨z, pn_is h1 h3 leP_u, rfl, h2⟩
  · exact Or.inl ⟨pn_no h1, h2⟩
theorem mln_c (hl0 : l.1.stackTraces = false) (hO : okR R) (hk : cOk l pg R SHF en_157) (hk2 : cOk l pg R SHF en_149) (w0 : wcF R.1 58 0 (0, 2) = true) (hJ : JR R M) (hI : HI H) (hm : mHo H M) (hb : b = Int32.ofInt 0 ∨ b = Int32.ofInt 1) : AC l (pI pg 224) (fcI M (QMln H b x)) 0 0 [.ref 58, .int b, .int x] SHF M := by
  have w8 := hI.2.1
  have t8 := hI.2.2.1
  have T8 := p2_8 t8
  have tpos := Nat.two_pow_pos H.te
  have hR : ∀ e ∈ RM, M.2.2 e.1 e.2.1 = e.2.2 := fun e he => rgR_ok hJ.2 (hO.1 e he)
  have z1 : ¬ (1 : Int32) = 0 := by decide
  have m0 : mHo H (M0w M) := mH_fr0 hm
  have j0 : JR R (M0w M) := JR_set (q := (0, 2)) hJ w0 ⟨by decide, by decide⟩
  have r0 : ∀ e ∈ RM, (M0w M).2.2 e.1 e.2.1 = e.2.2 := hR
  refine fw_of hl0 ⟨by decide +kernel, by decide +kernel, by decide +kernel⟩ rfl ?_
  refine mln_0 hR hl0 _ (wit_c (M := M0w M) (x := x) hl0 (m := 2) (c := Int32.ofInt 2) rfl (by decide)) (fun y1 M1 z M' => (¬ y1 = 0 ∧ z = 1 ∧ M' = M0w M) ∨ (y1 = 0 ∧ z = 0 ∧ M' = M1w M)) (fun y1 M1 e1 q1 => ?_) (fun y1 M1 e1 q1 y3 M3 e3 q3 h5 h6 => ?_) (fun y1 M1 y3 M3 y M' => M' = M3 ∧ y = brV (bnF H 2 H.wo 0 0)) (fun y1 M1 e1 q1 y3 M3 e3 q3 h5 h6 h8 => ?_) (fun y1 M1 e1 q1 y3 M3 e3 q3 h5 h6 h8 y9 M9 e9 q9 => ?_) (fun y1 M1 y3 M3 y M' => M' = M3 ∧ y = brV (bnF H 3 H.wo 0 0)) (fun y1 M1 e1 q1 y3 M3 e3 q3 h5 h6 h8 => ?_) (fun y1 M1 e1 q1 y3 M3 e3 q3 h5 h6 h8 y12 M12 e12 q12 => ?_) (fun y1 M1 e1 q1 y3 M3 e3 q3 h5 => ?_)
  · obtain ⟨rfl, -⟩ := q1
    exact rgh_c hl0 hR
  · have q0 := q3.resolve_right (fun q => h5 q.2.1)
    have n1 : inN 3 x := (q1.2.resolve_right (fun q => q0.1 q.1)).2
    obtain ⟨-, -, rfl⟩ := q0
    have fm : ∀ {Mc : aM}, (∀ a k, a < 73 ∨ 78 < a → Mc.1 a k = (M0w M).1 a k) → mHo H Mc := fun {Mc} h => mH_fr m0 (fun k => h 58 k (by omega)) (fun a k a1 a2 => h a k (by omega))
    have fR : ∀ {Mc : aM}, Mc.2.2 = M.2.2 → ∀ e ∈ RM, Mc.2.2 e.1 e.2.1 = e.2.2 := fun {Mc} h => by rw [h]; exact hR
    have f0 : ∀ {Mc : aM}, (∀ a k, a < 73 ∨ 78 < a → Mc.1 a k = (M0w M).1 a k) → Mc.1 58 0 = 0 := fun {Mc} h => (h 58 0 (by omega)).trans rfl
    have bs : ∀ {Mc M10 : aM} {s : Nat}, (∀ a k, a < 73 ∨ 78 < a → Mc.1 a k = (M0w M).1 a k) → JR R M10 ∧ QlA H s Mc M10 → bsT H R s M10 := fun {Mc M10 s} h q => ⟨q.1, q.2.1, (q.2.2 58 1 (by decide) (by decide) (by decide)).trans (fm h).1, (q.2.2 58 2 (by decide) (by decide) (by decide)).trans (fm h).2.1⟩
    have f2 : ∀ {Mc M10 M12 : aM} {s : Nat}, (∀ a k, a < 73 ∨ 78 < a → Mc.1 a k = (M0w M).1 a k) → JR R M10 ∧ QlA H s Mc M10 → frC M10 M12 → (∀ a k, a < 73 ∨ 78 < a → M12.1 a k = (M0w M).1 a k) := fun {Mc M10 M12 s} h q g a k ha => (g.2 a k (by omega) (by omega) (by omega)).trans ((q.2.2 a k (by omega) (by omega) (by omega)).trans (h a k ha))
    have loop : ∀ (d s : Nat) (v : Option Nat) (Mc : aM), s + d = 2 ^ H.te → Mc.2.2 = M.2.2 → JR R Mc → (∀ a k, a < 73 ∨ 78 < a → Mc.1 a k = (M0w M).1 a k) → lnO (hoB H b) (pnH H) s v → AW l (pI pg 224) (fcI M (QMln H b x)) 0 0 45 [(4, .int (nI s)), (3, .int (brV v)), (2, .int x), (1, .int b), (0, .ref 58)] [] SHF Mc := by
      intro d
      induction d with
      | zero =>
        intro s v Mc hd g1 gJ g2 hv
        have es : s = 2 ^ H.te := by omega
        subst es
        have mc := fm g2
        have g : Int32.ofInt 1 <<< (Mc.1 58 3 &&& 31) ≤ nI (2 ^ H.te) := by
          rw [mc.2.2.1, shW t8]
          exact Int32.le_refl _
        have vl := lnA_lt t8 (show lnA H b v from hv)
        refine mln_45 (fR g1) hl0 (fun y M' => M' = Mc ∧ ∃ t, v = some t ∧ y = nI (pnH H t)) (fun _ h2 h3 => ?_) (fun _ h2 h3 y4 M4 e4 q4 => ?_) (fun _ h2 h3 => ?_) (fun _ h2 => ?_) (fun _ => True) (fun h => absurd g h) (fun _ _ _ => True) (fun h => absurd g h) (fun h => absurd g h) (fun h => absurd g h) (fun _ _ => True) (fun h => absurd g h) (fun _ _ _ _ => True) (fun h => absurd g h) (fun _ _ _ _ _ => True) (fun h => absurd g h) (fun _ _ _ _ _ _ _ => True) (fun h => absurd g h) (fun h => absurd g h) (fun h => absurd g h) (fun h => absurd g h)
        · cases v with
          | none => exact absurd rfl h2
          | some t =>
            refine AC.post hl0 (fun r sh' M' hp => ?_) (mps_c (M := Mc) (ts := t) hl0 hI (fR g1) mc (vl t rfl))
            obtain ⟨r1, r2, y, r3, r4, r5⟩ := hp
            exact ⟨r1, r2, y, r3, r4, t, rfl, r5⟩
        · obtain ⟨rfl, t, rfl, rfl⟩ := q4
          refine ⟨rfl, g1, _, rfl, Or.inl ⟨n1, f0 g2, Or.inl ⟨?_, some t, hv, rfl⟩⟩⟩
          rcases in3 n1 with e | e | e
          · exact e
          · exact absurd e h3
          · exact absurd e h6
        · exact ⟨rfl, g1, _, rfl, Or.inl ⟨n1, f0 g2, Or.inr (Or.inl ⟨h3, v, hv, rfl⟩)⟩⟩
        · have ev := br_on4 h2 (fun t e => by have := vl t e; omega)
          subst ev
          refine ⟨rfl, g1, _, rfl, Or.inl ⟨n1, f0 g2, ?_⟩⟩
          rcases in3 n1 with e | e | e
          · exact Or.inl ⟨e, none, hv, rfl⟩
          · exact Or.inr (Or.inl ⟨e, none, hv, rfl⟩)
          · exact absurd e h6
      | succ d ih =>
        intro s v Mc hd g1 gJ g2 hv
        have mc := fm g2
        have ng : ¬ Int32.ofInt 1 <<< (Mc.1 58 3 &&& 31) ≤ nI s := by
          rw [mc.2.2.1, shW t8, nle (by omega) (by omega)]
          omega
        have nx : nI s + Int32.ofInt 1 = nI (s + 1) := nI_1 s
        have s8 : s < 256 := by omega
        have ps := pnH_le hI s
        have vlt : ∀ t, v = some t → t < 256 := fun t e => by
          subst e
          have := hv.1
          omega
        refine mln_45 (fR g1) hl0 (fun _ _ => True) (fun h => absurd h ng) (fun h => absurd h ng) (fun h => absurd h ng) (fun h => absurd h ng) (fun M' => JR R M' ∧ QlA H s Mc M') (fun _ h9 => laT_j hl0 hk (fR g1) gJ hI mc s8) (fun M10 y M' => JR R M' ∧ frC M10 M' ∧ ((¬ y = 0 ∧ hoB H b s) ∨ (y = 0 ∧ ¬ hoB H b s))) (fun _ h9 M10 e10 q10 => hoT_j hl0 hO hk2 hI (bs g2 q10) hb) (fun _ h9 M10 e10 q10 y12 M12 e12 q12 h14 => ?_) (fun _ h9 M10 e10 q10 y12 M12 e12 q12 h14 => ?_) (fun y M' => M' = Mc ∧ y = nI (pnH H s)) (fun _ h9 => mps_c hl0 hI (fR g1) mc s8) (fun _ M17 y M' => M' = M17 ∧ ∃ t, v = some t ∧ y = nI (pnH H t)) (fun _ h9 y17 M17 e17 q17 => ?_) (fun _ _ _ M19 M' => M19 = Mc ∧ JR R M' ∧ QlA H s Mc M') (fun _ h9 y17 M17 e17 q17 y19 M19 e19 q19 h21 => ?_) (fun _ _ _ _ M22 y M' => JR R M' ∧ frC M22 M' ∧ ((¬ y = 0 ∧ hoB H b s) ∨ (y = 0 ∧ ¬ hoB H b s))) (fun _ h9 y17 M17 e17 q17 y19 M19 e19 q19 h21 M22 e22 q22 => hoT_j hl0 hO hk2 hI (bs g2 q22.2) hb) (fun _ h9 y17 M17 e17 q17 y19 M19 e19 q19 h21 M22 e22 q22 y24 M24 e24 q24 h26 => ?_) (fun _ h9 y17 M17 e17 q17 y19 M19 e19 q19 h21 M22 e22 q22 y24 M24 e24 q24 h26 => ?_) (fun _ h9 y17 M17 e17 q17 y19 M19 e19 q19 h21 => ?_)
        · have hn := (q12.2.2.resolve_left (fun q => q.1 h14)).2
          rw [nx]
          exact ih (s + 1) v M12 (by omega) (e12.trans (e10.trans g1)) q12.1 (f2 g2 q10 q12.2.1) (ln_keep hv hn)
        · have hy := (q12.2.2.resolve_right (fun q => h14 q.1)).2
          have ev := br_on4 h9 (fun t e => by have := vlt t e; omega)
          subst ev
          rw [nx]
          exact ih (s + 1) (some s) M12 (by omega) (e12.trans (e10.trans g1)) q12.1 (f2 g2 q10 q12.2.1) (ln_none hv hy)
        · obtain ⟨rfl, -⟩ := q17
          cases v with
          | none => exact absurd rfl h9
          | some t =>
            refine AC.post hl0 (fun r sh' M' hp => ?_) (mps_c (M := M17) (ts := t) hl0 hI (fR g1) mc (vlt t rfl))
            obtain ⟨r1, r2, y, r3, r4, r5⟩ := hp
            exact ⟨r1, r2, y, r3, r4, t, rfl, r5⟩
        · obtain ⟨rfl, -⟩ := q17
          obtain ⟨rfl, -⟩ := q19
          refine AC.post hl0 (fun r sh' M' hp => ?_) (laT_j (M := M19) (ts := s) hl0 hk (fR g1) gJ hI mc s8)
          obtain ⟨r1, r2, r3, r4⟩ := hp
          exact ⟨r1, r2, r3, rfl, r4⟩
        · have hn := (q24.2.2.resolve_left (fun q => q.1 h26)).2
          obtain ⟨rfl, q22⟩ := q22
          rw [nx]
          exact ih (s + 1) v M24 (by omega) (e24.trans (e22.trans g1)) q24.1 (f2 g2 q22 q24.2.1) (ln_keep hv hn)
        · have hy := (q24.2.2.resolve_right (fun q => h26 q.1)).2
          obtain ⟨-, rfl⟩ := q17
          obtain ⟨-, t, rfl, rfl⟩ := q19
          obtain ⟨rfl, q22⟩ := q22
          have pt := pnH_le hI t
          rw [nlt (by omega) (by omega)] at h21
          rw [nx]
          exact ih (s + 1) (some s) M24 (by omega) (e24.trans (e22.trans g1)) q24.1 (f2 g2 q22 q24.2.1) (ln_less hv hy h21)
        · obtain ⟨rfl, rfl⟩ := q17
          obtain ⟨rfl, t, rfl, rfl⟩ := q19
          have pt := pnH_le hI t
          rw [nlt (by omega) (by omega)] at h21
          rw [nx]
          exact ih (s + 1) (some t) _ (by omega) g1 gJ g2 (ln_ge hv (by omega))
    exact loop (2 ^ H.te) 0 none (M0w M) (by omega) rfl j0 (fun _ _ _ => rfl) (fun t ht => absurd ht (Nat.not_lt_zero _))
  · obtain ⟨-, -, rfl⟩ := q3.resolve_right (fun q => h5 q.2.1)
    exact bdo_c (m := 2) hl0 hI r0 m0 (by decide)
  · have q0 := q3.resolve_right (fun q => h5 q.2.1)
    have n1 : inN 3 x := (q1.2.resolve_right (fun q => q0.1 q.1)).2
    obtain ⟨-, -, rfl⟩ := q0
    obtain ⟨rfl, rfl⟩ := q9
    exact ⟨rfl, rfl, _, rfl, Or.inl ⟨n1, rfl, Or.inr (Or.inr ⟨h6, Or.inl ⟨h8, rfl⟩⟩)⟩⟩
  · obtain ⟨-, -, rfl⟩ := q3.resolve_right (fun q => h5 q.2.1)
    exact bdo_c (m := 3) hl0 hI r0 m0 (by decide)
  · have q0 := q3.resolve_right (fun q => h5 q.2.1)
    have n1 : inN 3 x := (q1.2.resolve_right (fun q => q0.1 q.1)).2
    obtain ⟨-, -, rfl⟩ := q0
    obtain ⟨rfl, rfl⟩ := q12
    exact ⟨rfl, rfl, _, rfl, Or.inl ⟨n1, rfl, Or.inr (Or.inr ⟨h6, Or.inr ⟨h8, rfl⟩⟩)⟩⟩
  · obtain ⟨y0, -, rfl⟩ := q3.resolve_left (fun q => absurd (q.2.1.symm.trans h5) z1)
    have n1 : ¬ inN 3 x := (q1.2.resolve_left (fun q => absurd (q.1.symm.trans y0) z1)).2
    exact ⟨rfl, e3.trans e1, _, rfl, Or.inr ⟨n1, rfl⟩⟩
end LRR
