/-! THE CLASS'S HOUSE -/
def PH39 (u : Nat → Nat) (H0 : HS) (x : Int32) (M : aM) : aP := fun r sh' M' => sh' = SHF ∧ ((r = .inr "java/lang/IllegalArgumentException" ∧ M' = M ∧ (x < 0 ∨ ¬ x ≤ M.1 2 1)) ∨ ∃ y : Int32, r = .inl (some (.int y)) ∧ ¬ x < 0 ∧ x ≤ M.1 2 1 ∧ M'.1 2 1 = 0 ∧ (∀ a k, 58 ≤ a → M'.1 a k = M.1 a k) ∧ (∀ f, parS u x.toInt.toNat (x.toInt.toNat + 1) HS0 0 = .inl f → y = nI f.1 ∧ M'.1 0 13 = nI f.2 ∧ M'.1 57 0 = M.1 57 0 + Int32.ofInt 1 ∧ (∀ k, k ≠ 0 → M'.1 57 k = M.1 57 k) ∧ hoC H0 M') ∧ ∀ H, parS u x.toInt.toNat (x.toInt.toNat + 1) HS0 0 = .inr H → y = Int32.ofInt 0 ∧ M'.1 0 13 = Int32.ofInt (-1) ∧ (∀ k, M'.1 57 k = M.1 57 k) ∧ HI H ∧ hoC H M')
theorem cH_sme4 {H : HS} {M1 M : aM} (hI : HI H) (h : smeM M1 M) (hH : cHo 4 H M1) : cHo 4 H M := by
  have hp6 := hI.pe
  have hw8 := hI.wo
  have ht8 := hI.te
  exact cHo.of
    (pe := (sme_fI h (i := 4) (ci := 1) (k := 0) rfl rfl (by decide) rfl).symm.trans hH.pe)
    (wo := (sme_fI h (i := 4) (ci := 1) (k := 1) rfl rfl (by decide) rfl).symm.trans hH.wo)
    (te := (sme_fI h (i := 4) (ci := 1) (k := 2) rfl rfl (by decide) rfl).symm.trans hH.te)
    (fo := (sme_fI h (i := 4) (ci := 1) (k := 3) rfl rfl (by decide) rfl).symm.trans hH.fo)
    (ho := fun i hi => (sme_aI h (i := 5) (n := 6) (ty := .int) rfl rfl (by omega)).symm.trans (hH.ho i hi))
    (ch := fun i hi => (sme_aI h (i := 6) (n := 6) (ty := .int) rfl rfl (by omega)).symm.trans (hH.ch i hi))
    (cd := fun i hi => (sme_aI h (i := 7) (n := 6) (ty := .int) rfl rfl (by omega)).symm.trans (hH.cd i hi))
    (ml := fun i hi => (sme_aI h (i := 8) (n := 6) (ty := .int) rfl rfl (by omega)).symm.trans (hH.ml i hi))
    (be := fun i hi => (sme_aI h (i := 9) (n := 8) (ty := .int) rfl rfl (by omega)).symm.trans (hH.be i hi))
    (le := fun i hi => (sme_aI h (i := 10) (n := 8) (ty := .int) rfl rfl (by omega)).symm.trans (hH.le i hi))
    (dr := fun i hi => (sme_aI h (i := 11) (n := 8) (ty := .int) rfl rfl (by omega)).symm.trans (hH.dr i hi))
    (sk := fun i hi => (sme_aI h (i := 12) (n := 48) (ty := .int) rfl rfl (by omega)).symm.trans (hH.sk i hi))
    (t0 := fun i hi => (sme_aI h (i := 13) (n := 8) (ty := .int) rfl rfl (by omega)).symm.trans (hH.t0 i hi))
    (t1 := fun i hi => (sme_aI h (i := 14) (n := 8) (ty := .int) rfl rfl (by omega)).symm.trans (hH.t1 i hi))
    (t2 := fun i hi => (sme_aI h (i := 15) (n := 8) (ty := .int) rfl rfl (by omega)).symm.trans (hH.t2 i hi))
    (t3 := fun i hi => (sme_aI h (i := 16) (n := 8) (ty := .int) rfl rfl (by omega)).symm.trans (hH.t3 i hi))
theorem cH_sme17 {H : HS} {M1 M : aM} (hI : HI H) (h : smeM M1 M) (hH : cHo 17 H M1) : cHo 17 H M := by
  have hp6 := hI.pe
  have hw8 := hI.wo
  have ht8 := hI.te
  exact cHo.of
    (pe := (sme_fI h (i := 17) (ci := 1) (k := 0) rfl rfl (by decide) rfl).symm.trans hH.pe)
    (wo := (sme_fI h (i := 17) (ci := 1) (k := 1) rfl rfl (by decide) rfl).symm.trans hH.wo)
    (te := (sme_fI h (i := 17) (ci := 1) (k := 2) rfl rfl (by decide) rfl).symm.trans hH.te)
    (fo := (sme_fI h (i := 17) (ci := 1) (k := 3) rfl rfl (by decide) rfl).symm.trans hH.fo)
    (ho := fun i hi => (sme_aI h (i := 18) (n := 6) (ty := .int) rfl rfl (by omega)).symm.trans (hH.ho i hi))
    (ch := fun i hi => (sme_aI h (i := 19) (n := 6) (ty := .int) rfl rfl (by omega)).symm.trans (hH.ch i hi))
    (cd := fun i hi => (sme_aI h (i := 20) (n := 6) (ty := .int) rfl rfl (by omega)).symm.trans (hH.cd i hi))
    (ml := fun i hi => (sme_aI h (i := 21) (n := 6) (ty := .int) rfl rfl (by omega)).symm.trans (hH.ml i hi))
    (be := fun i hi => (sme_aI h (i := 22) (n := 8) (ty := .int) rfl rfl (by omega)).symm.trans (hH.be i hi))
    (le := fun i hi => (sme_aI h (i := 23) (n := 8) (ty := .int) rfl rfl (by omega)).symm.trans (hH.le i hi))
    (dr := fun i hi => (sme_aI h (i := 24) (n := 8) (ty := .int) rfl rfl (by omega)).symm.trans (hH.dr i hi))
    (sk := fun i hi => (sme_aI h (i := 25) (n := 48) (ty := .int) rfl rfl (by omega)).symm.trans (hH.sk i hi))
    (t0 := fun i hi => (sme_aI h (i := 26) (n := 8) (ty := .int) rfl rfl (by omega)).symm.trans (hH.t0 i hi))
    (t1 := fun i hi => (sme_aI h (i := 27) (n := 8) (ty := .int) rfl rfl (by omega)).symm.trans (hH.t1 i hi))
    (t2 := fun i hi => (sme_aI h (i := 28) (n := 8) (ty := .int) rfl rfl (by omega)).symm.trans (hH.t2 i hi))
    (t3 := fun i hi => (sme_aI h (i := 29) (n := 8) (ty := .int) rfl rfl (by omega)).symm.trans (hH.t3 i hi))
theorem rk_RR : ∀ e ∈ RK, e ∈ RR.2 := by decide +kernel
theorem cho_a {l : aL} (hl0 : l.1.stackTraces = false) {M : aM} (hJ : JR RR M) {H0 : HS} (hH0 : cHo 4 H0 M) {u : Nat → Nat} {s : Nat} (s8 : s ≤ 800) (h21 : M.1 2 1 = nI s) (hu : ∀ i, u i < 256) (hb : ∀ i, i < s → M.1 3 i = sB (u i)) {x : Int32} : AC l (pI pg 39) (PH39 u H0 x M) 2 12 [.ref 0, .int x] SHF M := by
  refine fw_of hl0 ⟨by decide +kernel, by decide +kernel, by decide +kernel⟩ rfl ?_
  have hz : (Int32.ofInt 0).toNatClampNeg = 0 := by decide
  have z0 : (0 : Int32).toInt = 0 := by decide
  generalize hn : x.toInt.toNat = n
  have nx : ¬ x < 0 → x = nI n := fun h => by
    rw [Int32.lt_iff_toInt_lt] at h
    rw [← hn]
    exact nI_self (by omega)
  have ns : ¬ x < 0 → x ≤ M.1 2 1 → n ≤ s := fun h h3 => by
    rw [nx h, h21] at h3
    rw [Int32.le_iff_toInt_le] at h3
    have e1 := hi_i x
    rw [nI_toInt (by omega), nI_toInt (by omega)] at h3
    omega
  have rd : ¬ x < 0 → x ≤ M.1 2 1 → AC l (pI pg 45) (fcI M (fun y M' => (inI y (0, 5) ∧ Jm RR (eW en_166) M M') ∧ ∃ M1, QRB (parS u n (n + 1) HS0 0) M y M1 ∧ smeM M1 M')) 0 0 [.ref 1, .ref 17, .int x] SHF M := by
    intro h1 h3
    have h4 := ns h1 h3
    refine AC.joinI ?_ ?_
    · rw [nx h1]
      exact reaB_c hl0 (fun e he => hJ.2 e (rk_RR e he)) (by omega) hu (fun i hi => hb i (by omega))
    · refine fcI_of (e := en_166) hl0 (all_RR hl0 _ List.mem_cons_self) rfl rfl rfl rfl ⟨rfl, rfl, ⟨x, rfl, ?_⟩, trivial⟩ hJ (fun _ h => absurd h List.not_mem_nil)
      rw [nx h1]
      exact ⟨by rw [nI_toInt (by omega)]; exact Int.natCast_nonneg n, by rw [nI_toInt (by omega)]; show (n : Int) ≤ 800; omega⟩
  have two : ∀ (y : Int32) (M4 : aM), Jm RR (eW en_166) M M4 → JR RR (aset (aset M4 2 1 (.int (Int32.ofInt 0))) 0 13 (.int ((aset M4 2 1 (.int (Int32.ofInt 0))).1 1 2))) := by
    intro y M4 q4
    have j1 := J_setF (R := RR) (W := ([], [(2, 1)])) (M0 := M4) (a := 2) (k := 1) (q := (0, 800)) (x := Int32.ofInt 0) ⟨q4.1, q4.2.1, fun _ _ _ => rfl, rfl⟩ (by decide +kernel) rfl ⟨by decide, by decide⟩
    have r12 := rgF_ok q4.1 (show rgF RR.1 1 2 = some ((-1), 800) by decide +kernel)
    have j2 := J_setF (R := RR) (W := ([], [(0, 13)])) (M0 := aset M4 2 1 (.int (Int32.ofInt 0))) (a := 0) (k := 13) (q := ((-1), 800)) (x := (aset M4 2 1 (.int (Int32.ofInt 0))).1 1 2) ⟨j1.1, j1.2.1, fun _ _ _ => rfl, rfl⟩ (by decide +kernel) rfl r12
    exact ⟨j2.1, j2.2.1⟩
  have sw : ∀ (M5 : aM), JR RR M5 → JR RRS (aset (aset M5 0 1 (.ref 17)) 0 2 (.ref 4)) := fun M5 h5 => JR_swap (R := RR) (S := RRS) (p := 17 + 1) (q := 4 + 1) rfl (by decide +kernel) (by decide +kernel) (by decide +kernel) h5 rfl rfl
  have f58 : ∀ {M4 : aM}, Jm RR (eW en_166) M M4 → ∀ a k, 58 ≤ a → M4.1 a k = M.1 a k := fun {M4} q a k ha => q.2.2.1 a k (wr_p (fun a => Nat.ble 58 a) (by decide +kernel) (Nat.ble_eq_true_of_le ha))
  have f12 : ∀ {M1 M4 : aM}, smeM M1 M4 → M4.1 1 2 = M1.1 1 2 := fun {M1 M4} h => (sme_fI h (i := 1) (ci := 4) (k := 2) rfl rfl (by decide) rfl).symm
  refine s39a_0 (kc := 1) (ks := 6) hJ.2 (fun h => ⟨rfl, Or.inl ⟨rfl, rfl, Or.inl h⟩⟩) _ (fun h1 h3 => rd h1 h3) (fun y M4 M' => Jm RRS (eW ens_77) (aset (aset (aset (aset M4 2 1 (.int (Int32.ofInt 0))) 0 13 (.int ((aset M4 2 1 (.int (Int32.ofInt 0))).1 1 2))) 0 1 (.ref 17)) 0 2 (.ref 4)) M') (fun h1 h3 y M4 e4 q4 h6 => ?_) (fun h1 h3 y M4 e4 q4 h6 M7 e7 q7 => ?_) (fun h1 h3 y M4 e4 q4 h6 => ?_) (fun h1 h3 y M4 e4 q4 h6 => ?_) (fun h1 h3 => ⟨rfl, Or.inl ⟨rfl, rfl, Or.inr h3⟩⟩)
  · exact fcV_of (e := ens_77) hl0 (oks_77 hl0 (ctA_RRS hl0) _ List.mem_cons_self) rfl rfl rfl rfl ⟨rfl, trivial⟩ (sw _ (two y M4 q4.1.2)) (fun _ h => absurd h List.not_mem_nil)
  · obtain ⟨⟨-, qJ⟩, M1, qR, qS⟩ := q4
    refine ⟨rfl, Or.inr ⟨_, rfl, h1, h3, ?_, fun a k ha => ?_, fun f hf => ?_, fun H hH => ?_⟩⟩
    · rw [q7.2.2.1 2 1 rfl]
      rfl
    · rw [q7.2.2.1 a k (wr_p (fun a => Nat.ble 58 a) (by decide +kernel) (Nat.ble_eq_true_of_le ha))]
      show (aset (aset M4 2 1 (.int (Int32.ofInt 0))) 0 13 (.int ((aset M4 2 1 (.int (Int32.ofInt 0))).1 1 2))).1 a k = M.1 a k
      rw [set_1, if_neg (by omega), set_1, if_neg (by omega)]
      exact f58 qJ a k ha
    · rw [hn] at hf
      have g := qR.2.2.1 f hf
      have g2 := parS_f hf
      rw [qR.2.1, g.1] at h6
      exact absurd h6 (nI_z g2.1 g2.2)
    · rw [hn] at hH
      obtain ⟨g1, g2, g3, g4⟩ := qR.2.2.2 H hH
      refine ⟨rfl, ?_, fun k => ?_, g2, Or.inr ⟨⟨q7.1, q7.2.1⟩, ?_⟩⟩
      · rw [q7.2.2.1 0 13 rfl]
        show M4.1 1 2 = _
        rw [f12 qS]
        exact g4
      · rw [q7.2.2.1 57 k (wr_p (fun a => Nat.beq 57 a) (by decide +kernel) rfl)]
        show M4.1 57 k = M.1 57 k
        exact qJ.2.2.1 57 k (wr_p (fun a => Nat.beq 57 a) (by decide +kernel) rfl)
      · refine cH_eq (cH_sme17 g2 qS g1) (fun a k h1 h2 => ?_)
        rw [q7.2.2.1 a k (wr_p (fun a => Nat.ble 17 a && Nat.ble a 29) (by decide +kernel) (by rw [Bool.and_eq_true]; exact ⟨Nat.ble_eq_true_of_le h1, Nat.ble_eq_true_of_le h2⟩))]
        show (aset (aset M4 2 1 (.int (Int32.ofInt 0))) 0 13 (.int ((aset M4 2 1 (.int (Int32.ofInt 0))).1 1 2))).1 a k = M4.1 a k
        rw [set_1, if_neg (by omega), set_1, if_neg (by omega)]
  · exact vp_in_nI (n := 0) (by omega) (by decide)
  · rw [hz]
    obtain ⟨⟨-, qJ⟩, M1, qR, qS⟩ := q4
    have j3 := J_setA (R := RR) (W := ([57], [])) (M0 := aset (aset M4 2 1 (.int (Int32.ofInt 0))) 0 13 (.int ((aset M4 2 1 (.int (Int32.ofInt 0))).1 1 2))) (a := 57) (k := 0) (q := fullI) (x := (aset (aset M4 2 1 (.int (Int32.ofInt 0))) 0 13 (.int ((aset M4 2 1 (.int (Int32.ofInt 0))).1 1 2))).1 57 0 + Int32.ofInt 1) ⟨(two y M4 qJ).1, (two y M4 qJ).2, fun _ _ _ => rfl, rfl⟩ (by decide +kernel) rfl (in_full _)
    have f57 : ∀ k, M4.1 57 k = M.1 57 k := fun k => qJ.2.2.1 57 k (wr_p (fun a => Nat.beq 57 a) (by decide +kernel) rfl)
    refine ⟨rfl, Or.inr ⟨_, rfl, h1, h3, rfl, fun a k ha => ?_, fun f hf => ?_, fun H hH => ?_⟩⟩
    · rw [set_1, if_neg (by omega), set_1, if_neg (by omega), set_1, if_neg (by omega)]
      exact f58 qJ a k ha
    · rw [hn] at hf
      have g := qR.2.2.1 f hf
      refine ⟨qR.2.1.trans g.1, ?_, ?_, fun k hk => ?_, Or.inl ⟨⟨j3.1, j3.2.1⟩, cH_eq hH0 (fun a k h1 h2 => ?_)⟩⟩
      · show M4.1 1 2 = _
        rw [f12 qS]
        exact g.2
      · show M4.1 57 0 + Int32.ofInt 1 = _
        rw [f57]
      · rw [set_1, if_pos rfl, if_neg hk]
        exact f57 k
      · rw [set_1, if_neg (by omega), set_1, if_neg (by omega), set_1, if_neg (by omega)]
        exact qJ.2.2.1 a k (wr_p (fun a => Nat.ble 4 a && Nat.ble a 16) (by decide +kernel) (by rw [Bool.and_eq_true]; exact ⟨Nat.ble_eq_true_of_le h1, Nat.ble_eq_true_of_le h2⟩))
    · rw [hn] at hH
      have g := qR.2.2.2 H hH
      rw [qR.2.1, g.2.2.1] at h6
      exact absurd (show (Int32.ofInt 0 : Int32) = 0 by decide) h6
theorem rk_RRS : ∀ e ∈ RK, e ∈ RRS.2 := by decide +kernel
theorem cho_b {l : aL} (hl0 : l.1.stackTraces = false) {M : aM} (hJ : JR RRS M) {H0 : HS} (hH0 : cHo 17 H0 M) {u : Nat → Nat} {s : Nat} (s8 : s ≤ 800) (h21 : M.1 2 1 = nI s) (hu : ∀ i, u i < 256) (hb : ∀ i, i < s → M.1 3 i = sB (u i)) {x : Int32} : AC l (pI pg 39) (PH39 u H0 x M) 2 12 [.ref 0, .int x] SHF M := by
  refine fw_of hl0 ⟨by decide +kernel, by decide +kernel, by decide +kernel⟩ rfl ?_
  have hz : (Int32.ofInt 0).toNatClampNeg = 0 := by decide
  have z0 : (0 : Int32).toInt = 0 := by decide
  generalize hn : x.toInt.toNat = n
  have nx : ¬ x < 0 → x = nI n := fun h => by
    rw [Int32.lt_iff_toInt_lt] at h
    rw [← hn]
    exact nI_self (by omega)
  have ns : ¬ x < 0 → x ≤ M.1 2 1 → n ≤ s := fun h h3 => by
    rw [nx h, h21] at h3
    rw [Int32.le_iff_toInt_le] at h3
    have e1 := hi_i x
    rw [nI_toInt (by omega), nI_toInt (by omega)] at h3
    omega
  have rd : ¬ x < 0 → x ≤ M.1 2 1 → AC l (pI pg 45) (fcI M (fun y M' => (inI y (0, 5) ∧ Jm RRS (eW ens_166) M M') ∧ ∃ M1, QRA (parS u n (n + 1) HS0 0) M y M1 ∧ smeM M1 M')) 0 0 [.ref 1, .ref 4, .int x] SHF M := by
    intro h1 h3
    have h4 := ns h1 h3
    refine AC.joinI ?_ ?_
    · rw [nx h1]
      exact reaA_c hl0 (fun e he => hJ.2 e (rk_RRS e he)) (by omega) hu (fun i hi => hb i (by omega))
    · refine fcI_of (e := ens_166) hl0 (all_RRS hl0 _ List.mem_cons_self) rfl rfl rfl rfl ⟨rfl, rfl, ⟨x, rfl, ?_⟩, trivial⟩ hJ (fun _ h => absurd h List.not_mem_nil)
      rw [nx h1]
      exact ⟨by rw [nI_toInt (by omega)]; exact Int.natCast_nonneg n, by rw [nI_toInt (by omega)]; show (n : Int) ≤ 800; omega⟩
  have two : ∀ (y : Int32) (M4 : aM), Jm RRS (eW ens_166) M M4 → JR RRS (aset (aset M4 2 1 (.int (Int32.ofInt 0))) 0 13 (.int ((aset M4 2 1 (.int (Int32.ofInt 0))).1 1 2))) := by
    intro y M4 q4
    have j1 := J_setF (R := RRS) (W := ([], [(2, 1)])) (M0 := M4) (a := 2) (k := 1) (q := (0, 800)) (x := Int32.ofInt 0) ⟨q4.1, q4.2.1, fun _ _ _ => rfl, rfl⟩ (by decide +kernel) rfl ⟨by decide, by decide⟩
    have r12 := rgF_ok q4.1 (show rgF RRS.1 1 2 = some ((-1), 800) by decide +kernel)
    have j2 := J_setF (R := RRS) (W := ([], [(0, 13)])) (M0 := aset M4 2 1 (.int (Int32.ofInt 0))) (a := 0) (k := 13) (q := ((-1), 800)) (x := (aset M4 2 1 (.int (Int32.ofInt 0))).1 1 2) ⟨j1.1, j1.2.1, fun _ _ _ => rfl, rfl⟩ (by decide +kernel) rfl r12
    exact ⟨j2.1, j2.2.1⟩
  have sw : ∀ (M5 : aM), JR RRS M5 → JR RR (aset (aset M5 0 1 (.ref 4)) 0 2 (.ref 17)) := fun M5 h5 => JR_swap (R := RRS) (S := RR) (p := 4 + 1) (q := 17 + 1) rfl (by decide +kernel) (by decide +kernel) (by decide +kernel) h5 rfl rfl
  have f58 : ∀ {M4 : aM}, Jm RRS (eW ens_166) M M4 → ∀ a k, 58 ≤ a → M4.1 a k = M.1 a k := fun {M4} q a k ha => q.2.2.1 a k (wr_p (fun a => Nat.ble 58 a) (by decide +kernel) (Nat.ble_eq_true_of_le ha))
  have f12 : ∀ {M1 M4 : aM}, smeM M1 M4 → M4.1 1 2 = M1.1 1 2 := fun {M1 M4} h => (sme_fI h (i := 1) (ci := 4) (k := 2) rfl rfl (by decide) rfl).symm
  refine s39b_0 (kc := 1) (ks := 6) hJ.2 (fun h => ⟨rfl, Or.inl ⟨rfl, rfl, Or.inl h⟩⟩) _ (fun h1 h3 => rd h1 h3) (fun y M4 M' => Jm RR (eW en_77) (aset (aset (aset (aset M4 2 1 (.int (Int32.ofInt 0))) 0 13 (.int ((aset M4 2 1 (.int (Int32.ofInt 0))).1 1 2))) 0 1 (.ref 4)) 0 2 (.ref 17)) M') (fun h1 h3 y M4 e4 q4 h6 => ?_) (fun h1 h3 y M4 e4 q4 h6 M7 e7 q7 => ?_) (fun h1 h3 y M4 e4 q4 h6 => ?_) (fun h1 h3 y M4 e4 q4 h6 => ?_) (fun h1 h3 => ⟨rfl, Or.inl ⟨rfl, rfl, Or.inr h3⟩⟩)
  · exact fcV_of (e := en_77) hl0 (ok_77 hl0 (ctA_RR hl0) _ List.mem_cons_self) rfl rfl rfl rfl ⟨rfl, trivial⟩ (sw _ (two y M4 q4.1.2)) (fun _ h => absurd h List.not_mem_nil)
  · obtain ⟨⟨-, qJ⟩, M1, qR, qS⟩ := q4
    refine ⟨rfl, Or.inr ⟨_, rfl, h1, h3, ?_, fun a k ha => ?_, fun f hf => ?_, fun H hH => ?_⟩⟩
    · rw [q7.2.2.1 2 1 rfl]
      rfl
    · rw [q7.2.2.1 a k (wr_p (fun a => Nat.ble 58 a) (by decide +kernel) (Nat.ble_eq_true_of_le ha))]
      show (aset (aset M4 2 1 (.int (Int32.ofInt 0))) 0 13 (.int ((aset M4 2 1 (.int (Int32.ofInt 0))).1 1 2))).1 a k = M.1 a k
      rw [set_1, if_neg (by omega), set_1, if_neg (by omega)]
      exact f58 qJ a k ha
    · rw [hn] at hf
      have g := qR.2.2.1 f hf
      have g2 := parS_f hf
      rw [qR.2.1, g.1] at h6
      exact absurd h6 (nI_z g2.1 g2.2)
    · rw [hn] at hH
      obtain ⟨g1, g2, g3, g4⟩ := qR.2.2.2 H hH
      refine ⟨rfl, ?_, fun k => ?_, g2, Or.inl ⟨⟨q7.1, q7.2.1⟩, ?_⟩⟩
      · rw [q7.2.2.1 0 13 rfl]
        show M4.1 1 2 = _
        rw [f12 qS]
        exact g4
      · rw [q7.2.2.1 57 k (wr_p (fun a => Nat.beq 57 a) (by decide +kernel) rfl)]
        show M4.1 57 k = M.1 57 k
        exact qJ.2.2.1 57 k (wr_p (fun a => Nat.beq 57 a) (by decide +kernel) rfl)
      · refine cH_eq (cH_sme4 g2 qS g1) (fun a k h1 h2 => ?_)
        rw [q7.2.2.1 a k (wr_p (fun a => Nat.ble 4 a && Nat.ble a 16) (by decide +kernel) (by rw [Bool.and_eq_true]; exact ⟨Nat.ble_eq_true_of_le h1, Nat.ble_eq_true_of_le h2⟩))]
        show (aset (aset M4 2 1 (.int (Int32.ofInt 0))) 0 13 (.int ((aset M4 2 1 (.int (Int32.ofInt 0))).1 1 2))).1 a k = M4.1 a k
        rw [set_1, if_neg (by omega), set_1, if_neg (by omega)]
  · exact vp_in_nI (n := 0) (by omega) (by decide)
  · rw [hz]
    obtain ⟨⟨-, qJ⟩, M1, qR, qS⟩ := q4
    have j3 := J_setA (R := RRS) (W := ([57], [])) (M0 := aset (aset M4 2 1 (.int (Int32.ofInt 0))) 0 13 (.int ((aset M4 2 1 (.int (Int32.ofInt 0))).1 1 2))) (a := 57) (k := 0) (q := fullI) (x := (aset (aset M4 2 1 (.int (Int32.ofInt 0))) 0 13 (.int ((aset M4 2 1 (.int (Int32.ofInt 0))).1 1 2))).1 57 0 + Int32.ofInt 1) ⟨(two y M4 qJ).1, (two y M4 qJ).2, fun _ _ _ => rfl, rfl⟩ (by decide +kernel) rfl (in_full _)
    have f57 : ∀ k, M4.1 57 k = M.1 57 k := fun k => qJ.2.2.1 57 k (wr_p (fun a => Nat.beq 57 a) (by decide +kernel) rfl)
    refine ⟨rfl, Or.inr ⟨_, rfl, h1, h3, rfl, fun a k ha => ?_, fun f hf => ?_, fun H hH => ?_⟩⟩
    · rw [set_1, if_neg (by omega), set_1, if_neg (by omega), set_1, if_neg (by omega)]
      exact f58 qJ a k ha
    · rw [hn] at hf
      have g := qR.2.2.1 f hf
      refine ⟨qR.2.1.trans g.1, ?_, ?_, fun k hk => ?_, Or.inr ⟨⟨j3.1, j3.2.1⟩, cH_eq hH0 (fun a k h1 h2 => ?_)⟩⟩
      · show M4.1 1 2 = _
        rw [f12 qS]
        exact g.2
      · show M4.1 57 0 + Int32.ofInt 1 = _
        rw [f57]
      · rw [set_1, if_pos rfl, if_neg hk]
        exact f57 k
      · rw [set_1, if_neg (by omega), set_1, if_neg (by omega), set_1, if_neg (by omega)]
        exact qJ.2.2.1 a k (wr_p (fun a => Nat.ble 17 a && Nat.ble a 29) (by decide +kernel) (by rw [Bool.and_eq_true]; exact ⟨Nat.ble_eq_true_of_le h1, Nat.ble_eq_true_of_le h2⟩))
    · rw [hn] at hH
      have g := qR.2.2.2 H hH
      rw [qR.2.1, g.2.2.1] at h6
      exact absurd (show (Int32.ofInt 0 : Int32) = 0 by decide) h6
theorem cho_c {l : aL} (hl0 : l.1.stackTraces = false) {M : aM} {H0 : HS} (h : hoC H0 M) {u : Nat → Nat} {s : Nat} (s8 : s ≤ 800) (h21 : M.1 2 1 = nI s) (hu : ∀ i, u i < 256) (hb : ∀ i, i < s → M.1 3 i = sB (u i)) {x : Int32} : AC l (pI pg 39) (PH39 u H0 x M) 2 12 [.ref 0, .int x] SHF M := h.elim (fun h => cho_a hl0 h.1 h.2 s8 h21 hu hb) (fun h => cho_b hl0 h.1 h.2 s8 h21 hu hb)
