/-! THE TOLD ROW through house and tell -/
def QTo (c : Nat) (B : Prop) (x y : Int32) (M : aM) : Int32 → aM → Prop := fun z M' => (B ∧ z = Int32.ofInt 1 ∧ ∀ k, M'.1 c k = if k = x.toNatClampNeg then y else M.1 c k) ∨ (¬ B ∧ z = Int32.ofInt 0 ∧ ∀ k, M'.1 c k = M.1 c k)
theorem fil48_c {l : aL} {M : aM} {x : Int32} (hl0 : l.1.stackTraces = false) : AC l (pI pg 12) (fcV M (fun M' => ∀ k, k < 8 → M'.1 48 k = x)) 0 0 [.ref 48, .int x] SHF M := by
  refine fw_of hl0 ⟨by decide +kernel, by decide +kernel, by decide +kernel⟩ rfl ?_
  refine fil48_0 hl0 ?_
  have loop : ∀ (d i : Nat) (M1 : aM), i + d = 8 → M1.2.2 = M.2.2 → (∀ k, k < i → M1.1 48 k = x) → AW l (pI pg 12) (fcV M (fun M' => ∀ k, k < 8 → M'.1 48 k = x)) 0 0 5 [(0, .ref 48), (1, .int x), (2, .int (nI i)), (3, .int (Int32.ofNat 8))] [] SHF M1 := by
    intro d
    induction d with
    | zero =>
      intro i M1 hi e2 h2
      have hi2 : i = 8 := by omega
      subst hi2
      exact fil48_5 hl0 (fun _ => ⟨rfl, e2, rfl, h2⟩) (fun h => absurd (show (Int32.ofNat 8 : Int32) ≤ nI 8 by decide) h) (fun h => absurd (show (Int32.ofNat 8 : Int32) ≤ nI 8 by decide) h)
    | succ d ih =>
      intro i M1 hi e2 h2
      refine fil48_5 hl0 (fun h => ?_) (fun _ => vp_in_nI (by omega) (by decide)) (fun _ => ?_)
      · exact ge_no (a := i) (b := 8) (by omega) (by decide) h
      · rw [show nI i + Int32.ofInt 1 = nI (i + 1) from nI_1 _, nI_clamp (by omega)]
        refine ih (i + 1) _ (by omega) e2 (fun k hk => ?_)
        rw [set_1, if_pos rfl]
        by_cases e : k = i
        · rw [if_pos e]
        · rw [if_neg e]
          exact h2 k (by omega)
  exact loop 8 0 M (by omega) rfl (fun k hk => absurd hk (Nat.not_lt_zero _))
section TLD
variable {l : aL} {M : aM} {x y : Int32}
theorem se4a_c (hl0 : l.1.stackTraces = false) (hJ : JR RR M) : AC l (pI pg 11) (fcV M (fun M' => ∀ w, w < 8 → M'.1 48 w = Int32.ofInt (-1))) 0 0 [.ref 0] SHF M := by
  refine fw_of hl0 ⟨by decide +kernel, by decide +kernel, by decide +kernel⟩ rfl ?_
  have nl : ∀ (M1 : aM) (q : Nat × Nat × iI), q ∈ ([] : List (Nat × Nat × iI)) → inI (M1.1 q.1 q.2.1) q.2.2 := fun _ _ h => absurd h List.not_mem_nil
  have j5 : ∀ {M1 : aM}, Jm RR (eW en_70) M M1 → JR RR (aset (aset (aset (aset (aset M1 0 9 (.int (Int32.ofInt (-1)))) 49 0 (.int (Int32.ofInt 0))) 49 1 (.int (Int32.ofInt 0))) 53 0 (.int (Int32.ofInt 0))) 53 1 (.int (Int32.ofInt 0))) := fun {M1} q => JR_set (q := (0, 200)) (JR_set (q := (0, 1)) (JR_set (q := (0, 200)) (JR_set (q := (0, 1)) (JR_set (q := fullI) ⟨q.1, q.2.1⟩ (by decide +kernel) (in_full _)) (by decide +kernel) ⟨by decide, by decide⟩) (by decide +kernel) ⟨by decide, by decide⟩) (by decide +kernel) ⟨by decide, by decide⟩) (by decide +kernel) ⟨by decide, by decide⟩
  refine seta_0 hJ.2 hl0 (fun M' => Jm RR (eW en_70) M M' ∧ ∃ M1, (∀ k, k < 8 → M1.1 48 k = Int32.ofInt (-1)) ∧ smeM M1 M') (AC.joinV (fil48_c hl0) (fcV_of (e := en_70) hl0 (ok_70 hl0 (ctA_RR hl0) _ List.mem_cons_self) rfl rfl rfl rfl ⟨rfl, ⟨_, rfl, by decide, by decide⟩, trivial⟩ hJ (nl M))) (fun M1 M' => M' = aset (aset (aset M1 0 9 (.int (Int32.ofInt (-1)))) 49 0 (.int (Int32.ofInt 0))) 49 1 (.int (Int32.ofInt 0))) (fun M1 e1 q1 => stp49_c hl0) (fun M1 M3 M' => M' = aset (aset M3 53 0 (.int (Int32.ofInt 0))) 53 1 (.int (Int32.ofInt 0))) (fun M1 e1 q1 M3 e3 q3 => stp53_c hl0) (fun M1 M3 M5 M' => Jm RR (eW en_71) M5 M') (fun M1 e1 q1 M3 e3 q3 M5 e5 q5 => ?_) (fun M1 M3 M5 M7 M' => Jm RR (eW en_74) M7 M') (fun M1 e1 q1 M3 e3 q3 M5 e5 q5 M7 e7 q7 => ?_) (fun M1 M3 M5 M7 M9 M' => Jm RR (eW en_76) M9 M') (fun M1 e1 q1 M3 e3 q3 M5 e5 q5 M7 e7 q7 M9 e9 q9 => ?_) (fun M1 M3 M5 M7 M9 M11 M' => M' = aset (aset M11 40 2 (.int ((Int8.ofInt (-2)).toInt32))) 40 3 (.int ((Int8.ofInt (-2)).toInt32))) (fun M1 e1 q1 M3 e3 q3 M5 e5 q5 M7 e7 q7 M9 e9 q9 M11 e11 q11 => lrs_c hl0) (fun M1 M3 M5 M7 M9 M11 M13 M' => M' = aset M13 45 2 (.int (Int32.ofInt 0))) (fun M1 e1 q1 M3 e3 q3 M5 e5 q5 M7 e7 q7 M9 e9 q9 M11 e11 q11 M13 e13 q13 => grs_c hl0) (fun M1 e1 q1 M3 e3 q3 M5 e5 q5 M7 e7 q7 M9 e9 q9 M11 e11 q11 M13 e13 q13 M15 e15 q15 => ?_)
  · subst q3
    subst q5
    exact fcV_of (e := en_71) hl0 (ok_71 hl0 (ctA_RR hl0) _ List.mem_cons_self) rfl rfl rfl rfl ⟨rfl, rfl, trivial⟩ (j5 q1.1) (nl _)
  · exact fcV_of (e := en_74) hl0 (ok_74 hl0 (ctA_RR hl0) _ List.mem_cons_self) rfl rfl rfl rfl ⟨rfl, rfl, rfl, rfl, trivial⟩ ⟨q7.1, q7.2.1⟩ (nl _)
  · exact fcV_of (e := en_76) hl0 (ok_76 hl0 (ctA_RR hl0) _ List.mem_cons_self) rfl rfl rfl rfl ⟨rfl, rfl, trivial⟩ ⟨q9.1, q9.2.1⟩ (nl _)
  · have f : ∀ a k, wrW (eW en_71) a k = false → wrW (eW en_74) a k = false → wrW (eW en_76) a k = false → M11.1 a k = M5.1 a k := fun a k w1 w2 w3 => (q11.2.2.1 a k w3).trans ((q9.2.2.1 a k w2).trans (q7.2.2.1 a k w1))
    have er : M15.2.2 = M.2.2 := e15.trans (e13.trans (e11.trans (e9.trans (e7.trans (e5.trans (e3.trans e1))))))
    subst q15
    subst q13
    subst q3
    subst q5
    refine ⟨rfl, er, rfl, fun w hw => ?_⟩
    show M11.1 48 w = _
    rw [f 48 w (wr_p (fun a => Nat.beq 48 a) (by decide +kernel) rfl) (wr_p (fun a => Nat.beq 48 a) (by decide +kernel) rfl) (wr_p (fun a => Nat.beq 48 a) (by decide +kernel) rfl)]
    show M1.1 48 w = _
    obtain ⟨M0, g1, g2⟩ := q1.2
    rw [← sme_aI g2 (i := 48) (k := w) (n := 8) (ty := .int) rfl rfl hw]
    exact g1 w hw
theorem se4b_c (hl0 : l.1.stackTraces = false) (hJ : JR RRS M) : AC l (pI pg 11) (fcV M (fun M' => ∀ w, w < 8 → M'.1 48 w = Int32.ofInt (-1))) 0 0 [.ref 0] SHF M := by
  refine fw_of hl0 ⟨by decide +kernel, by decide +kernel, by decide +kernel⟩ rfl ?_
  have nl : ∀ (M1 : aM) (q : Nat × Nat × iI), q ∈ ([] : List (Nat × Nat × iI)) → inI (M1.1 q.1 q.2.1) q.2.2 := fun _ _ h => absurd h List.not_mem_nil
  have j5 : ∀ {M1 : aM}, Jm RRS (eW ens_70) M M1 → JR RRS (aset (aset (aset (aset (aset M1 0 9 (.int (Int32.ofInt (-1)))) 49 0 (.int (Int32.ofInt 0))) 49 1 (.int (Int32.ofInt 0))) 53 0 (.int (Int32.ofInt 0))) 53 1 (.int (Int32.ofInt 0))) := fun {M1} q => JR_set (q := (0, 200)) (JR_set (q := (0, 1)) (JR_set (q := (0, 200)) (JR_set (q := (0, 1)) (JR_set (q := fullI) ⟨q.1, q.2.1⟩ (by decide +kernel) (in_full _)) (by decide +kernel) ⟨by decide, by decide⟩) (by decide +kernel) ⟨by decide, by decide⟩) (by decide +kernel) ⟨by decide, by decide⟩) (by decide +kernel) ⟨by decide, by decide⟩
  refine setb_0 hJ.2 hl0 (fun M' => Jm RRS (eW ens_70) M M' ∧ ∃ M1, (∀ k, k < 8 → M1.1 48 k = Int32.ofInt (-1)) ∧ smeM M1 M') (AC.joinV (fil48_c hl0) (fcV_of (e := ens_70) hl0 (oks_70 hl0 (ctA_RRS hl0) _ List.mem_cons_self) rfl rfl rfl rfl ⟨rfl, ⟨_, rfl, by decide, by decide⟩, trivial⟩ hJ (nl M))) (fun M1 M' => M' = aset (aset (aset M1 0 9 (.int (Int32.ofInt (-1)))) 49 0 (.int (Int32.ofInt 0))) 49 1 (.int (Int32.ofInt 0))) (fun M1 e1 q1 => stp49_c hl0) (fun M1 M3 M' => M' = aset (aset M3 53 0 (.int (Int32.ofInt 0))) 53 1 (.int (Int32.ofInt 0))) (fun M1 e1 q1 M3 e3 q3 => stp53_c hl0) (fun M1 M3 M5 M' => Jm RRS (eW ens_71) M5 M') (fun M1 e1 q1 M3 e3 q3 M5 e5 q5 => ?_) (fun M1 M3 M5 M7 M' => Jm RRS (eW ens_74) M7 M') (fun M1 e1 q1 M3 e3 q3 M5 e5 q5 M7 e7 q7 => ?_) (fun M1 M3 M5 M7 M9 M' => Jm RRS (eW ens_76) M9 M') (fun M1 e1 q1 M3 e3 q3 M5 e5 q5 M7 e7 q7 M9 e9 q9 => ?_) (fun M1 M3 M5 M7 M9 M11 M' => M' = aset (aset M11 40 2 (.int ((Int8.ofInt (-2)).toInt32))) 40 3 (.int ((Int8.ofInt (-2)).toInt32))) (fun M1 e1 q1 M3 e3 q3 M5 e5 q5 M7 e7 q7 M9 e9 q9 M11 e11 q11 => lrs_c hl0) (fun M1 M3 M5 M7 M9 M11 M13 M' => M' = aset M13 45 2 (.int (Int32.ofInt 0))) (fun M1 e1 q1 M3 e3 q3 M5 e5 q5 M7 e7 q7 M9 e9 q9 M11 e11 q11 M13 e13 q13 => grs_c hl0) (fun M1 e1 q1 M3 e3 q3 M5 e5 q5 M7 e7 q7 M9 e9 q9 M11 e11 q11 M13 e13 q13 M15 e15 q15 => ?_)
  · subst q3
    subst q5
    exact fcV_of (e := ens_71) hl0 (oks_71 hl0 (ctA_RRS hl0) _ List.mem_cons_self) rfl rfl rfl rfl ⟨rfl, rfl, trivial⟩ (j5 q1.1) (nl _)
  · exact fcV_of (e := ens_74) hl0 (oks_74 hl0 (ctA_RRS hl0) _ List.mem_cons_self) rfl rfl rfl rfl ⟨rfl, rfl, rfl, rfl, trivial⟩ ⟨q7.1, q7.2.1⟩ (nl _)
  · exact fcV_of (e := ens_76) hl0 (oks_76 hl0 (ctA_RRS hl0) _ List.mem_cons_self) rfl rfl rfl rfl ⟨rfl, rfl, trivial⟩ ⟨q9.1, q9.2.1⟩ (nl _)
  · have f : ∀ a k, wrW (eW ens_71) a k = false → wrW (eW ens_74) a k = false → wrW (eW ens_76) a k = false → M11.1 a k = M5.1 a k := fun a k w1 w2 w3 => (q11.2.2.1 a k w3).trans ((q9.2.2.1 a k w2).trans (q7.2.2.1 a k w1))
    have er : M15.2.2 = M.2.2 := e15.trans (e13.trans (e11.trans (e9.trans (e7.trans (e5.trans (e3.trans e1))))))
    subst q15
    subst q13
    subst q3
    subst q5
    refine ⟨rfl, er, rfl, fun w hw => ?_⟩
    show M11.1 48 w = _
    rw [f 48 w (wr_p (fun a => Nat.beq 48 a) (by decide +kernel) rfl) (wr_p (fun a => Nat.beq 48 a) (by decide +kernel) rfl) (wr_p (fun a => Nat.beq 48 a) (by decide +kernel) rfl)]
    show M1.1 48 w = _
    obtain ⟨M0, g1, g2⟩ := q1.2
    rw [← sme_aI g2 (i := 48) (k := w) (n := 8) (ty := .int) rfl rfl hw]
    exact g1 w hw
theorem tl39a (hl0 : l.1.stackTraces = false) (hJ : JR RR M) : AC l (pI pg 39) (fun r sh' M' => sh' = SHF ∧ ((r = .inr "java/lang/IllegalArgumentException" ∧ M' = M) ∨ ∃ y : Int32, r = .inl (some (.int y)) ∧ ((y = 0 ∧ ∀ w, w < 8 → M'.1 48 w = Int32.ofInt (-1)) ∨ (¬ y = 0 ∧ ∀ k, M'.1 48 k = M.1 48 k)))) 2 12 [.ref 0, .int x] SHF M := by
  refine fw_of hl0 ⟨by decide +kernel, by decide +kernel, by decide +kernel⟩ rfl ?_
  have nl : ∀ (M1 : aM) (q : Nat × Nat × iI), q ∈ ([] : List (Nat × Nat × iI)) → inI (M1.1 q.1 q.2.1) q.2.2 := fun _ _ h => absurd h List.not_mem_nil
  have r21 := rgF_ok hJ.1 (show rgF RR.1 2 1 = some (0, 800) by decide +kernel)
  have g2 := r21.2
  simp only at g2
  have rd : ¬ x < 0 → x ≤ M.1 2 1 → AC l (pI pg 45) (fcI M (fun y M' => inI y (0, 5) ∧ Jm RR (eW en_166) M M')) 0 0 [.ref 1, .ref 17, .int x] SHF M := by
    intro h1 h3
    rw [Int32.lt_iff_toInt_lt] at h1
    rw [Int32.le_iff_toInt_le] at h3
    have : (0 : Int32).toInt = 0 := by decide
    exact fcI_of (e := en_166) hl0 (all_RR hl0 _ List.mem_cons_self) rfl rfl rfl rfl ⟨rfl, rfl, ⟨x, rfl, by show (0 : Int) ≤ _; omega, by show _ ≤ (800 : Int); omega⟩, trivial⟩ hJ (nl _)
  have two : ∀ (M4 : aM), Jm RR (eW en_166) M M4 → JR RR (aset (aset M4 2 1 (.int (Int32.ofInt 0))) 0 13 (.int ((aset M4 2 1 (.int (Int32.ofInt 0))).1 1 2))) := fun M4 q => JR_set (q := ((-1), 800)) (JR_set (q := (0, 800)) ⟨q.1, q.2.1⟩ (by decide +kernel) ⟨by decide, by decide⟩) (by decide +kernel) (rgF_ok (M := M4) (a := 1) (k := 2) q.1 (show rgF RR.1 1 2 = some ((-1), 800) by decide +kernel) : inI (M4.1 1 2) ((-1), 800))
  have sw : ∀ (M5 : aM), JR RR M5 → JR RRS (aset (aset M5 0 1 (.ref 17)) 0 2 (.ref 4)) := fun M5 h5 => JR_swap (R := RR) (S := RRS) (p := 17 + 1) (q := 4 + 1) rfl (by decide +kernel) (by decide +kernel) (by decide +kernel) h5 rfl rfl
  refine s39a_0 (kc := 1) (ks := 6) hJ.2 (fun _ => ⟨rfl, Or.inl ⟨rfl, rfl⟩⟩) _ rd (fun _ M4 M' => ∀ w, w < 8 → M'.1 48 w = Int32.ofInt (-1)) (fun h1 h3 y M4 e4 q4 h6 => se4b_c hl0 (sw _ (two M4 q4.2))) (fun h1 h3 y M4 e4 q4 h6 M7 e7 q7 => ⟨rfl, Or.inr ⟨_, rfl, Or.inl ⟨rfl, q7⟩⟩⟩) (fun _ _ _ _ _ _ _ => vp_in_nI (n := 0) (by omega) (by decide)) (fun h1 h3 y M4 e4 q4 h6 => ⟨rfl, Or.inr ⟨_, rfl, Or.inr ⟨h6, fun k => ?_⟩⟩⟩) (fun _ _ => ⟨rfl, Or.inl ⟨rfl, rfl⟩⟩)
  · show M4.1 48 k = M.1 48 k
    exact q4.2.2.2.1 48 k (wr_p (fun a => Nat.beq 48 a) (by decide +kernel) rfl)
theorem tl39b (hl0 : l.1.stackTraces = false) (hJ : JR RRS M) : AC l (pI pg 39) (fun r sh' M' => sh' = SHF ∧ ((r = .inr "java/lang/IllegalArgumentException" ∧ M' = M) ∨ ∃ y : Int32, r = .inl (some (.int y)) ∧ ((y = 0 ∧ ∀ w, w < 8 → M'.1 48 w = Int32.ofInt (-1)) ∨ (¬ y = 0 ∧ ∀ k, M'.1 48 k = M.1 48 k)))) 2 12 [.ref 0, .int x] SHF M := by
  refine fw_of hl0 ⟨by decide +kernel, by decide +kernel, by decide +kernel⟩ rfl ?_
  have nl : ∀ (M1 : aM) (q : Nat × Nat × iI), q ∈ ([] : List (Nat × Nat × iI)) → inI (M1.1 q.1 q.2.1) q.2.2 := fun _ _ h => absurd h List.not_mem_nil
  have r21 := rgF_ok hJ.1 (show rgF RRS.1 2 1 = some (0, 800) by decide +kernel)
  have g2 := r21.2
  simp only at g2
  have rd : ¬ x < 0 → x ≤ M.1 2 1 → AC l (pI pg 45) (fcI M (fun y M' => inI y (0, 5) ∧ Jm RRS (eW ens_166) M M')) 0 0 [.ref 1, .ref 4, .int x] SHF M := by
    intro h1 h3
    rw [Int32.lt_iff_toInt_lt] at h1
    rw [Int32.le_iff_toInt_le] at h3
    have : (0 : Int32).toInt = 0 := by decide
    exact fcI_of (e := ens_166) hl0 (all_RRS hl0 _ List.mem_cons_self) rfl rfl rfl rfl ⟨rfl, rfl, ⟨x, rfl, by show (0 : Int) ≤ _; omega, by show _ ≤ (800 : Int); omega⟩, trivial⟩ hJ (nl _)
  have two : ∀ (M4 : aM), Jm RRS (eW ens_166) M M4 → JR RRS (aset (aset M4 2 1 (.int (Int32.ofInt 0))) 0 13 (.int ((aset M4 2 1 (.int (Int32.ofInt 0))).1 1 2))) := fun M4 q => JR_set (q := ((-1), 800)) (JR_set (q := (0, 800)) ⟨q.1, q.2.1⟩ (by decide +kernel) ⟨by decide, by decide⟩) (by decide +kernel) (rgF_ok (M := M4) (a := 1) (k := 2) q.1 (show rgF RRS.1 1 2 = some ((-1), 800) by decide +kernel) : inI (M4.1 1 2) ((-1), 800))
  have sw : ∀ (M5 : aM), JR RRS M5 → JR RR (aset (aset M5 0 1 (.ref 4)) 0 2 (.ref 17)) := fun M5 h5 => JR_swap (R := RRS) (S := RR) (p := 4 + 1) (q := 17 + 1) rfl (by decide +kernel) (by decide +kernel) (by decide +kernel) h5 rfl rfl
  refine s39b_0 (kc := 1) (ks := 6) hJ.2 (fun _ => ⟨rfl, Or.inl ⟨rfl, rfl⟩⟩) _ rd (fun _ M4 M' => ∀ w, w < 8 → M'.1 48 w = Int32.ofInt (-1)) (fun h1 h3 y M4 e4 q4 h6 => se4a_c hl0 (sw _ (two M4 q4.2))) (fun h1 h3 y M4 e4 q4 h6 M7 e7 q7 => ⟨rfl, Or.inr ⟨_, rfl, Or.inl ⟨rfl, q7⟩⟩⟩) (fun _ _ _ _ _ _ _ => vp_in_nI (n := 0) (by omega) (by decide)) (fun h1 h3 y M4 e4 q4 h6 => ⟨rfl, Or.inr ⟨_, rfl, Or.inr ⟨h6, fun k => ?_⟩⟩⟩) (fun _ _ => ⟨rfl, Or.inl ⟨rfl, rfl⟩⟩)
  · show M4.1 48 k = M.1 48 k
    exact q4.2.2.2.1 48 k (wr_p (fun a => Nat.beq 48 a) (by decide +kernel) rfl)
end TLD
theorem teoa_c {l : aL} {M : aM} {H : HS} {x y : Int32} (hl0 : l.1.stackTraces = false) (hJ : JR RR M) (hI : HI H) (hH : cHo 4 H M) {kc ks : Nat} : AC l (pI pg 27) (fcI M (QTo 48 (telP H x y) x y M)) kc ks [.ref 0, .int x, .int y] SHF M := by
  have hp6 := hI.pe
  have hw8 := hI.wo
  have e1 : hpV (M.1 4 1) x = 0 ↔ ¬ inN H.wo x := by rw [hH.wo]; exact hpV_x (by omega)
  have e2 : hpV (M.1 4 0) y = 0 ↔ ¬ inN H.pe y := by rw [hH.pe]; exact hpV_x (by omega)
  have v1 : vp_in (Int32.ofInt 1) 3 := vp_in_nI (n := 1) (by decide) (by decide)
  have vx : ¬ hpV (M.1 4 1) x = 0 → vp_in x 8 := fun h => inN_vp (Decidable.not_not.mp (fun g => h (e1.mpr g))) hw8 (by decide)
  refine fw_of hl0 ⟨by decide +kernel, by decide +kernel, by decide +kernel⟩ rfl ?_
  exact tela_0 hJ.2 hl0 (fun _ => v1) (fun h3 => ⟨rfl, rfl, _, rfl, Or.inr ⟨fun g => (e1.mp h3) g.1, rfl, fun _ => rfl⟩⟩) (fun h3 _ => vx h3) (fun h3 h6 => ⟨rfl, rfl, _, rfl, Or.inl ⟨⟨Decidable.not_not.mp (fun g => h3 (e1.mpr g)), Or.inl (Decidable.not_not.mp (fun g => h6 (e2.mpr g)))⟩, rfl, fun _ => rfl⟩⟩) (fun h3 _ _ => vx h3) (fun h3 h6 h9 => ⟨rfl, rfl, _, rfl, Or.inl ⟨⟨Decidable.not_not.mp (fun g => h3 (e1.mpr g)), Or.inr h9⟩, rfl, fun _ => rfl⟩⟩) (fun _ _ _ => v1) (fun h3 h6 h9 => ⟨rfl, rfl, _, rfl, Or.inr ⟨fun g => g.2.elim (e2.mp h6) h9, rfl, fun _ => rfl⟩⟩)
theorem teob_c {l : aL} {M : aM} {H : HS} {x y : Int32} (hl0 : l.1.stackTraces = false) (hJ : JR RRS M) (hI : HI H) (hH : cHo 17 H M) {kc ks : Nat} : AC l (pI pg 27) (fcI M (QTo 48 (telP H x y) x y M)) kc ks [.ref 0, .int x, .int y] SHF M := by
  have hp6 := hI.pe
  have hw8 := hI.wo
  have e1 : hpV (M.1 17 1) x = 0 ↔ ¬ inN H.wo x := by rw [hH.wo]; exact hpV_x (by omega)
  have e2 : hpV (M.1 17 0) y = 0 ↔ ¬ inN H.pe y := by rw [hH.pe]; exact hpV_x (by omega)
  have v1 : vp_in (Int32.ofInt 1) 3 := vp_in_nI (n := 1) (by decide) (by decide)
  have vx : ¬ hpV (M.1 17 1) x = 0 → vp_in x 8 := fun h => inN_vp (Decidable.not_not.mp (fun g => h (e1.mpr g))) hw8 (by decide)
  refine fw_of hl0 ⟨by decide +kernel, by decide +kernel, by decide +kernel⟩ rfl ?_
  exact telb_0 hJ.2 hl0 (fun _ => v1) (fun h3 => ⟨rfl, rfl, _, rfl, Or.inr ⟨fun g => (e1.mp h3) g.1, rfl, fun _ => rfl⟩⟩) (fun h3 _ => vx h3) (fun h3 h6 => ⟨rfl, rfl, _, rfl, Or.inl ⟨⟨Decidable.not_not.mp (fun g => h3 (e1.mpr g)), Or.inl (Decidable.not_not.mp (fun g => h6 (e2.mpr g)))⟩, rfl, fun _ => rfl⟩⟩) (fun h3 _ _ => vx h3) (fun h3 h6 h9 => ⟨rfl, rfl, _, rfl, Or.inl ⟨⟨Decidable.not_not.mp (fun g => h3 (e1.mpr g)), Or.inr h9⟩, rfl, fun _ => rfl⟩⟩) (fun _ _ _ => v1) (fun h3 h6 h9 => ⟨rfl, rfl, _, rfl, Or.inr ⟨fun g => g.2.elim (e2.mp h6) h9, rfl, fun _ => rfl⟩⟩)
theorem mto_c {l : aL} {M : aM} {H : HS} {x y : Int32} (hl0 : l.1.stackTraces = false) (hR : ∀ e ∈ RM, M.2.2 e.1 e.2.1 = e.2.2) (hI : HI H) (hm : mHo H M) : AC l (pI pg 219) (fcI M (QTo 81 (telP H x y) x y M)) 0 0 [.ref 58, .int x, .int y] SHF M := by
  have hp6 := hI.pe
  have hw8 := hI.wo
  have a1 : (aset M 58 0 (.int (Int32.ofInt 0))).1 58 1 = nI H.pe := hm.1
  have a2 : (aset M 58 0 (.int (Int32.ofInt 0))).1 58 2 = nI H.wo := hm.2.1
  have v1 : vp_in (Int32.ofInt 1) 3 := vp_in_nI (n := 1) (by decide) (by decide)
  have hx : ¬ x < 0 → ¬ (aset M 58 0 (.int (Int32.ofInt 0))).1 58 2 ≤ x → inN H.wo x := fun h1 h2 => Decidable.byContradiction fun h => ((inN_no (by omega)).mp h).elim h1 (fun g => h2 (by rw [a2]; exact g))
  have m1 : (Int32.ofInt (-1)).toInt = -1 := by decide
  refine fw_of hl0 ⟨by decide +kernel, by decide +kernel, by decide +kernel⟩ rfl ?_
  refine mtl_0 hR (fun _ => v1) (fun h1 => ⟨rfl, rfl, _, rfl, Or.inr ⟨fun g => (inN_no (by omega)).mpr (Or.inl h1) g.1, rfl, fun _ => rfl⟩⟩) (fun _ _ => v1) (fun h1 h4 => ⟨rfl, rfl, _, rfl, Or.inr ⟨fun g => (inN_no (by omega)).mpr (Or.inr (by rw [← a2]; exact h4)) g.1, rfl, fun _ => rfl⟩⟩) (fun _ _ _ => v1) (fun h1 h4 h7 => ⟨rfl, rfl, _, rfl, Or.inr ⟨fun g => ?_, rfl, fun _ => rfl⟩⟩) (fun h1 h4 _ _ => inN_vp (hx h1 h4) hw8 (by decide)) (fun h1 h4 h7 h10 => ⟨rfl, rfl, _, rfl, Or.inl ⟨⟨hx h1 h4, ?_⟩, rfl, fun _ => rfl⟩⟩) (fun _ _ _ _ => v1) (fun h1 h4 h7 h10 => ⟨rfl, rfl, _, rfl, Or.inr ⟨fun g => ?_, rfl, fun _ => rfl⟩⟩)
  · rw [Int32.lt_iff_toInt_lt, m1] at h7
    rcases g.2 with g | g
    · have := g.1
      omega
    · rw [g, m1] at h7
      omega
  · rw [Int32.lt_iff_toInt_lt, m1] at h7
    rw [a1, Int32.lt_iff_toInt_lt, nI_toInt (by omega)] at h10
    by_cases e : y.toInt = -1
    · exact Or.inr (Int32.toInt_inj.mp (e.trans m1.symm))
    · exact Or.inl ⟨by omega, h10⟩
  · rw [a1, Int32.lt_iff_toInt_lt, nI_toInt (by omega)] at h10
    rcases g.2 with g | g
    · have := g.2
      omega
    · rw [g, m1] at h10
      omega
