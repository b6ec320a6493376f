/-! WHAT SETTLE LEAVES: spans, who can do which set, by number -/
def SL (H : HS) (M : aM) : Prop := spO H (2 ^ H.wo) M ∧ (∀ t, t < 2 ^ H.wo → abO H H.cd H.pe M t) ∧ nbO H (2 ^ H.wo) M
def kS (M M' : aM) : Prop := (∀ a k, (a = 31 ∨ a = 32) → k < 256 → M'.1 a k = M.1 a k) ∧ (∀ t, t < 256 → lgV M' 34 t = lgV M 34 t) ∧ ∀ k, k < 9 → lgV M' 35 k = lgV M 35 k
section SLK
variable {H : HS} {M M1 M' : aM}
theorem SL_fr (w8 : H.wo ≤ 8) (h : SL H M) (hk : kS M M') : SL H M' := by
  have P8 := p2_8 w8
  refine ⟨fun t ht => ?_, fun t ht => abO_fr (h.2.1 t ht) (hk.2.1 t (by omega)), fun k hk9 lf hlf => ?_⟩
  · rw [hk.1 31 t (Or.inl rfl) (by omega), hk.1 32 t (Or.inr rfl) (by omega)]
    exact h.1 t ht
  · rw [hk.2.2 k hk9, h.2.2 k hk9 lf hlf]
    constructor
    · rintro ⟨t, t1, t2, t3⟩
      exact ⟨t, t1, t2, by rw [hk.2.1 t (by omega)]; exact t3⟩
    · rintro ⟨t, t1, t2, t3⟩
      exact ⟨t, t1, t2, by rw [← hk.2.1 t (by omega)]; exact t3⟩
theorem kS_sme (h : smeM M1 M') : kS M1 M' := by
  refine ⟨fun a k ha hk => ?_, fun t ht => (sme_aJ h (i := 34) (k := t) (n := 256) rfl ht).symm, fun k hk => (sme_aJ h (i := 35) (k := k) (n := 9) rfl hk).symm⟩
  rcases ha with e | e
  · subst e
    exact (sme_aI h (i := 31) (n := 256) (ty := .int) rfl rfl hk).symm
  · subst e
    exact (sme_aI h (i := 32) (n := 256) (ty := .int) rfl rfl hk).symm
theorem kS_tr (h : kS M M1) (h2 : kS M1 M') : kS M M' := ⟨fun a k ha hk => (h2.1 a k ha hk).trans (h.1 a k ha hk), fun t ht => (h2.2.1 t ht).trans (h.2.1 t ht), fun k hk => (h2.2.2 k hk).trans (h.2.2 k hk)⟩
theorem kS_fr (h : ∀ a k, 31 ≤ a → a ≤ 35 → M'.1 a k = M.1 a k) : kS M M' := ⟨fun a k ha _ => h a k (by omega) (by omega), fun t _ => lgV_eq (h 34 _ (by decide) (by decide)) (h 34 _ (by decide) (by decide)), fun k _ => lgV_eq (h 35 _ (by decide) (by decide)) (h 35 _ (by decide) (by decide))⟩
def f35 (a : Nat) : Bool := Nat.ble 31 a && Nat.ble a 35
theorem kS_W {R : sR} {W : sW} (hJ : Jm R W M M') (hw : (W.1.all (fun b => !f35 b) && W.2.all (fun b => !f35 b.1)) = true) : kS M M' := kS_fr (fun a k h1 h2 => hJ.2.2.1 a k (wr_p f35 hw (by
  unfold f35
  rw [Bool.and_eq_true]
  exact ⟨Nat.ble_eq_true_of_le h1, Nat.ble_eq_true_of_le h2⟩)))
theorem kS_93 {k : Nat} {x : Int64} : kS M (asL M 93 k x) := kS_fr (fun a c h1 h2 => asL_off (by omega))
end SLK
/-! who can do what, with no teachings -/
theorem cdT_0 {H : HS} {p : Nat} : ∀ k, cdT H 0 p k = H.cd p
  | 0 => rfl
  | k + 1 => by
    unfold cdT
    rw [cdT_0 k, Nat.zero_testBit, if_neg (fun h => by cases h.1), Nat.or_zero]
theorem rea_cd {H : HS} {cd cd' : Nat → Nat} {lf : Nat} : ∀ {p t : Nat}, (∀ q, q < p → cd q = cd' q) → (rea H cd lf p t ↔ rea H cd' lf p t)
  | 0, _, _ => Iff.rfl
  | p + 1, t, h => by
    have ih : ∀ s, rea H cd lf p s ↔ rea H cd' lf p s := fun s => rea_cd (fun q hq => h q (by omega))
    show (_ ∨ _) ↔ (_ ∨ _)
    rw [h p (Nat.lt_succ_self _), ih t]
    refine or_congr (and_congr Iff.rfl ⟨?_, ?_⟩) Iff.rfl
    · rintro ⟨s, a, h1, h2, h3, h4, h5, h6⟩
      exact ⟨s, a, h1, h2, h3, h4, h5, (ih s).mp h6⟩
    · rintro ⟨s, a, h1, h2, h3, h4, h5, h6⟩
      exact ⟨s, a, h1, h2, h3, h4, h5, (ih s).mpr h6⟩
theorem cd_fun {H : HS} : (fun p => cdT H 0 p H.te) = H.cd := funext fun p => cdT_0 H.te
/-! MOST and BARS as answers -/
def moP (H : HS) (x z : Int32) : Prop := ∃ v, v ≤ 8 ∧ z = nI v ∧ mxO H H.cd x.toNatClampNeg H.pe (2 ^ H.wo) v
def baP (H : HS) (x z : Int32) : Prop := ∃ v, z = brV v ∧ brO H H.cd x.toNatClampNeg H.pe (2 ^ H.wo) v
noncomputable def piO (H : HS) (p : Int32 → Prop) (x : Int32) : Option Int32 := if inN (2 ^ H.pe) x then some (Classical.epsilon p) else none
theorem pi_no {H : HS} {p : Int32 → Prop} {x : Int32} (h : ¬ inN (2 ^ H.pe) x) : piO H p x = none := if_neg h
theorem pi_is {H : HS} {p : Int32 → Prop} {x z : Int32} (h : inN (2 ^ H.pe) x) (hz : p z) (hu : ∀ y z, p y → p z → y = z) : piO H p x = some z := by
  rw [piO, if_pos h, hu _ z (Classical.epsilon_spec ⟨z, hz⟩) hz]
theorem moP_u {H : HS} {x : Int32} : ∀ y z, moP H x y → moP H x z → y = z := by
  rintro y z ⟨v, -, rfl, h⟩ ⟨v', -, rfl, h'⟩
  rw [mxO_eq h h']
theorem baP_u {H : HS} {x : Int32} : ∀ y z, baP H x y → baP H x z → y = z := by
  rintro y z ⟨v, rfl, h⟩ ⟨v', rfl, h'⟩
  rw [br_eq h h']
/-! what a helper tells, out being a row of longs that is kept as ints -/
def QLg (o : Option Int32) : Int32 → aM → Prop := fun k M' => (o = none ∧ k = Int32.ofInt 1) ∨ ∃ y : Int32, o = some y ∧ k = Int32.ofInt 0 ∧ lgV M' 93 0 = y.toInt64
theorem QLg_sme {o : Option Int32} {k : Int32} {M1 M : aM} (h : QLg o k M1) (hs : smeM M1 M) : QLg o k M := h.imp id (fun ⟨y, h1, h2, h3⟩ => ⟨y, h1, h2, (sme_aJ hs (i := 93) (k := 0) (n := 1) rfl (by decide)).symm.trans h3⟩)
theorem mOL_sme {o : Option Int32} {z : Int32} {M1 M : aM} (h : mO o z M1) (hs : smeM M1 M) : mO o z M := by
  have e : M.1 58 0 = M1.1 58 0 := (sme_fI hs (i := 58) (ci := 10) (k := 0) rfl rfl (by decide) rfl).symm
  unfold mO at h ⊢
  rw [e]
  exact h
theorem cmpL {o : Option Int32} {k z : Int32} {M2 M4 : aM} (h1 : QLg o k M2) (h2 : mO o z M4) (h3 : lgV M4 93 0 = lgV M2 93 0) : M4.1 58 0 = k ∧ (k = 0 → lgV M4 93 0 = z.toInt64) := by
  rcases h1 with ⟨a1, a2⟩ | ⟨y, a1, a2, a3⟩ <;> rcases h2 with ⟨b1, b2⟩ | ⟨v, b1, b2, b3⟩
  · rw [a2, b2]
    exact ⟨rfl, fun h => absurd h (by decide)⟩
  · rw [a1] at b1
    cases b1
  · rw [a1] at b1
    cases b1
  · rw [a1] at b1
    cases b1
    rw [a2, b3, b2, h3]
    exact ⟨rfl, fun _ => a3⟩
/-! of the reference -/
theorem mmo_q {H : HS} {x z : Int32} {M' : aM} (h : QMmo H x z M') : mO (piO H (moP H x) x) z M' := by
  rcases h with ⟨h1, h2, v, v8, h3, h4⟩ | ⟨h1, h2⟩
  · rw [cd_fun] at h4
    exact Or.inr ⟨z, pi_is h1 ⟨v, v8, h3, h4⟩ moP_u, rfl, h2⟩
  · exact Or.inl ⟨pi_no h1, h2⟩
theorem mba_q {H : HS} {x z : Int32} {M' : aM} (h : QMba H x z M') : mO (piO H (baP H x) x) z M' := by
  rcases h with ⟨h1, h2, v, h3, h4⟩ | ⟨h1, h2⟩
  · rw [cd_fun] at h4
    exact Or.inr ⟨z, pi_is h1 ⟨v, h3, h4⟩ baP_u, rfl, h2⟩
  · exact Or.inl ⟨pi_no h1, h2⟩
def PS39 (u : Nat → Nat) (x : Int32) (M : aM) : aP := fun r sh' M' => sh' = SHF ∧ ((r = .inr "java/lang/IllegalArgumentException" ∧ M' = M) ∨ ∃ y : Int32, r = .inl (some (.int y)) ∧ (∀ f, parS u x.toInt.toNat (x.toInt.toNat + 1) HS0 0 = .inl f → kS M M') ∧ ∀ H, parS u x.toInt.toNat (x.toInt.toNat + 1) HS0 0 = .inr H → HI H ∧ SL H M')
section SLC
variable {l : aL} {M : aM} {H : HS} {x : Int32}
theorem se5a_c (hl0 : l.1.stackTraces = false) (hJ : JR RR M) (hI : HI H) (hH : cHo 4 H M) : AC l (pI pg 11) (fcV M (SL H)) 0 0 [.ref 0] SHF M := by
  refine fw_of hl0 ⟨by decide +kernel, by decide +kernel, by decide +kernel⟩ rfl ?_
  have nl : ∀ (M1 : aM) (q : Nat × Nat × iI), q ∈ ([] : List (Nat × Nat × iI)) → inI (M1.1 q.1 q.2.1) q.2.2 := fun _ _ h => absurd h List.not_mem_nil
  have j5 : ∀ {M1 : aM}, Jm RR (eW en_70) M M1 → JR RR (aset (aset (aset (aset (aset M1 0 9 (.int (Int32.ofInt (-1)))) 49 0 (.int (Int32.ofInt 0))) 49 1 (.int (Int32.ofInt 0))) 53 0 (.int (Int32.ofInt 0))) 53 1 (.int (Int32.ofInt 0))) := fun {M1} q => JR_set (q := (0, 200)) (JR_set (q := (0, 1)) (JR_set (q := (0, 200)) (JR_set (q := (0, 1)) (JR_set (q := fullI) ⟨q.1, q.2.1⟩ (by decide +kernel) (in_full _)) (by decide +kernel) ⟨by decide, by decide⟩) (by decide +kernel) ⟨by decide, by decide⟩) (by decide +kernel) ⟨by decide, by decide⟩) (by decide +kernel) ⟨by decide, by decide⟩
  have P8 := p2_8 hI.2.1
  have hsl : ∀ t, sumL H H.wo t ≤ 64 := fun t => Nat.le_trans (sumL_le hI H.wo (Nat.le_refl _)) (by have := hI.2.1; omega)
  have c5 : ∀ {M1 : aM}, Jm RR (eW en_70) M M1 → cHo 4 H (aset (aset (aset (aset (aset M1 0 9 (.int (Int32.ofInt (-1)))) 49 0 (.int (Int32.ofInt 0))) 49 1 (.int (Int32.ofInt 0))) 53 0 (.int (Int32.ofInt 0))) 53 1 (.int (Int32.ofInt 0))) := fun {M1} q => cH_eq hH (fun a k h1 h2 => by
    rw [set_1, if_neg (by omega), set_1, if_neg (by omega), set_1, if_neg (by omega), set_1, if_neg (by omega), set_1, if_neg (by omega)]
    exact q.2.2.1 a k (wr_p (fun a => Nat.ble 4 a && Nat.ble a (4 + 12)) (by decide +kernel) (by rw [Bool.and_eq_true]; exact ⟨Nat.ble_eq_true_of_le h1, Nat.ble_eq_true_of_le h2⟩)))
  have fH : ∀ {W : sW} {M1 M2 : aM}, Jm RR W M1 M2 → (W.1.all (fun b => !(fun a => Nat.ble 4 a && Nat.ble a (4 + 12)) b) && W.2.all (fun b => !(fun a => Nat.ble 4 a && Nat.ble a (4 + 12)) b.1)) = true → cHo 4 H M1 → cHo 4 H M2 := fun {W M1 M2} q hw h => cH_eq h (fun a k h1 h2 => q.2.2.1 a k (wr_p (fun a => Nat.ble 4 a && Nat.ble a (4 + 12)) hw (by rw [Bool.and_eq_true]; exact ⟨Nat.ble_eq_true_of_le h1, Nat.ble_eq_true_of_le h2⟩)))
  refine seta_0 hJ.2 hl0 (fun M' => Jm RR (eW en_70) M M') (fcV_of (e := en_70) hl0 (ok_70 hl0 (ctA_RR hl0) _ List.mem_cons_self) rfl rfl rfl rfl ⟨rfl, ⟨_, rfl, by decide, by decide⟩, trivial⟩ hJ (nl M)) (fun M1 M' => M' = aset (aset (aset M1 0 9 (.int (Int32.ofInt (-1)))) 49 0 (.int (Int32.ofInt 0))) 49 1 (.int (Int32.ofInt 0))) (fun M1 e1 q1 => stp49_c hl0) (fun M1 M3 M' => M' = aset (aset M3 53 0 (.int (Int32.ofInt 0))) 53 1 (.int (Int32.ofInt 0))) (fun M1 e1 q1 M3 e3 q3 => stp53_c hl0) (fun M1 M3 M5 M' => Jm RR (eW en_71) M5 M' ∧ ∃ M0, QSp H M5 M0 ∧ smeM M0 M') (fun M1 e1 q1 M3 e3 q3 M5 e5 q5 => ?_) (fun M1 M3 M5 M7 M' => Jm RR (eW en_74) M7 M' ∧ ∃ M0, QFl H M7 M0 ∧ smeM M0 M') (fun M1 e1 q1 M3 e3 q3 M5 e5 q5 M7 e7 q7 => ?_) (fun M1 M3 M5 M7 M9 M' => Jm RR (eW en_76) M9 M' ∧ ∃ M0, QSb H M9 M0 ∧ smeM M0 M') (fun M1 e1 q1 M3 e3 q3 M5 e5 q5 M7 e7 q7 M9 e9 q9 => ?_) (fun M1 M3 M5 M7 M9 M11 M' => M' = aset (aset M11 40 2 (.int ((Int8.ofInt (-2)).toInt32))) 40 3 (.int ((Int8.ofInt (-2)).toInt32))) (fun M1 e1 q1 M3 e3 q3 M5 e5 q5 M7 e7 q7 M9 e9 q9 M11 e11 q11 => lrs_c hl0) (fun M1 M3 M5 M7 M9 M11 M13 M' => M' = aset M13 45 2 (.int (Int32.ofInt 0))) (fun M1 e1 q1 M3 e3 q3 M5 e5 q5 M7 e7 q7 M9 e9 q9 M11 e11 q11 M13 e13 q13 => grs_c hl0) (fun M1 e1 q1 M3 e3 q3 M5 e5 q5 M7 e7 q7 M9 e9 q9 M11 e11 q11 M13 e13 q13 M15 e15 q15 => ?_)
  · subst q3
    subst q5
    exact AC.joinV (meaa_c hl0 (j5 q1).2 hI (c5 q1)) (fcV_of (e := en_71) hl0 (ok_71 hl0 (ctA_RR hl0) _ List.mem_cons_self) rfl rfl rfl rfl ⟨rfl, rfl, trivial⟩ (j5 q1) (nl _))
  · subst q3
    subst q5
    obtain ⟨q7, M0, s0, s1⟩ := q7
    exact AC.joinV (fila_c hl0 q7.2.1 hI (fH q7 (by decide +kernel) (c5 q1)) (fun t ht => by rw [← sme_aI s1 (i := 31) (k := t) (n := 256) (ty := .int) rfl rfl (by omega)]; exact (s0.1 t ht).1) hsl) (fcV_of (e := en_74) hl0 (ok_74 hl0 (ctA_RR hl0) _ List.mem_cons_self) rfl rfl rfl rfl ⟨rfl, rfl, rfl, rfl, trivial⟩ ⟨q7.1, q7.2.1⟩ (nl _))
  · subst q3
    subst q5
    obtain ⟨q7, -⟩ := q7
    obtain ⟨q9, -⟩ := q9
    exact AC.joinV (sbna_c hl0 (fun M' e k hk => c21 hl0 (fun e2 he => by rw [e]; exact rgR_ok q9.2.1 (okR_RR.1 e2 he)) hk) q9.2.1 hI.2.1 ((fH q9 (by decide +kernel) (fH q7 (by decide +kernel) (c5 q1))).wo)) (fcV_of (e := en_76) hl0 (ok_76 hl0 (ctA_RR hl0) _ List.mem_cons_self) rfl rfl rfl rfl ⟨rfl, rfl, trivial⟩ ⟨q9.1, q9.2.1⟩ (nl _))
  · have er : M15.2.2 = M.2.2 := e15.trans (e13.trans (e11.trans (e9.trans (e7.trans (e5.trans (e3.trans e1))))))
    subst q15
    subst q13
    obtain ⟨q7, N7, s7, t7⟩ := q7
    obtain ⟨q9, N9, s9, t9⟩ := q9
    obtain ⟨q11, N11, s11, t11⟩ := q11
    have r31 : ∀ a k, (a = 31 ∨ a = 32) → M11.1 a k = M7.1 a k := fun a k ha => by
      rcases ha with e | e
      · subst e
        exact (q11.2.2.1 31 k (wr_p (fun a => Nat.beq 31 a) (by decide +kernel) rfl)).trans (q9.2.2.1 31 k (wr_p (fun a => Nat.beq 31 a) (by decide +kernel) rfl))
      · subst e
        exact (q11.2.2.1 32 k (wr_p (fun a => Nat.beq 32 a) (by decide +kernel) rfl)).trans (q9.2.2.1 32 k (wr_p (fun a => Nat.beq 32 a) (by decide +kernel) rfl))
    have r34 : ∀ t, lgV M11 34 t = lgV M9 34 t := fun t => lgV_eq (q11.2.2.1 34 _ (wr_p (fun a => Nat.beq 34 a) (by decide +kernel) rfl)) (q11.2.2.1 34 _ (wr_p (fun a => Nat.beq 34 a) (by decide +kernel) rfl))
    have k7 := kS_sme t7
    have k9 := kS_sme t9
    have k11 := kS_sme t11
    have sl : SL H M11 := by
      refine ⟨fun t ht => ?_, fun t ht => abO_fr (s9.1 t ht) ((r34 t).trans (k9.2.1 t (by omega))), fun k hk lf hlf => ?_⟩
      · rw [r31 31 t (Or.inl rfl), r31 32 t (Or.inr rfl), k7.1 31 t (Or.inl rfl) (by omega), k7.1 32 t (Or.inr rfl) (by omega)]
        exact s7.1 t ht
      · rw [k11.2.2 k hk, s11.1 k hk lf hlf]
        constructor
        · rintro ⟨t, t1, t2, t3⟩
          exact ⟨t, t1, t2, by rw [k11.2.1 t (by omega)]; exact t3⟩
        · rintro ⟨t, t1, t2, t3⟩
          exact ⟨t, t1, t2, by rw [← k11.2.1 t (by omega)]; exact t3⟩
    exact ⟨rfl, er, rfl, SL_fr hI.2.1 sl (kS_fr (fun a k h1 h2 => by rw [set_1, if_neg (by omega), set_1, if_neg (by omega), set_1, if_neg (by omega)]))⟩
theorem se5b_c (hl0 : l.1.stackTraces = false) (hJ : JR RRS M) (hI : HI H) (hH : cHo 17 H M) : AC l (pI pg 11) (fcV M (SL H)) 0 0 [.ref 0] SHF M := by
  refine fw_of hl0 ⟨by decide +kernel, by decide +kernel, by decide +kernel⟩ rfl ?_
  have nl : ∀ (M1 : aM) (q : Nat × Nat × iI), q ∈ ([] : List (Nat × Nat × iI)) → inI (M1.1 q.1 q.2.1) q.2.2 := fun _ _ h => absurd h List.not_mem_nil
  have j5 : ∀ {M1 : aM}, Jm RRS (eW ens_70) M M1 → JR RRS (aset (aset (aset (aset (aset M1 0 9 (.int (Int32.ofInt (-1)))) 49 0 (.int (Int32.ofInt 0))) 49 1 (.int (Int32.ofInt 0))) 53 0 (.int (Int32.ofInt 0))) 53 1 (.int (Int32.ofInt 0))) := fun {M1} q => JR_set (q := (0, 200)) (JR_set (q := (0, 1)) (JR_set (q := (0, 200)) (JR_set (q := (0, 1)) (JR_set (q := fullI) ⟨q.1, q.2.1⟩ (by decide +kernel) (in_full _)) (by decide +kernel) ⟨by decide, by decide⟩) (by decide +kernel) ⟨by decide, by decide⟩) (by decide +kernel) ⟨by decide, by decide⟩) (by decide +kernel) ⟨by decide, by decide⟩
  have P8 := p2_8 hI.2.1
  have hsl : ∀ t, sumL H H.wo t ≤ 64 := fun t => Nat.le_trans (sumL_le hI H.wo (Nat.le_refl _)) (by have := hI.2.1; omega)
  have c5 : ∀ {M1 : aM}, Jm RRS (eW ens_70) M M1 → cHo 17 H (aset (aset (aset (aset (aset M1 0 9 (.int (Int32.ofInt (-1)))) 49 0 (.int (Int32.ofInt 0))) 49 1 (.int (Int32.ofInt 0))) 53 0 (.int (Int32.ofInt 0))) 53 1 (.int (Int32.ofInt 0))) := fun {M1} q => cH_eq hH (fun a k h1 h2 => by
    rw [set_1, if_neg (by omega), set_1, if_neg (by omega), set_1, if_neg (by omega), set_1, if_neg (by omega), set_1, if_neg (by omega)]
    exact q.2.2.1 a k (wr_p (fun a => Nat.ble 17 a && Nat.ble a (17 + 12)) (by decide +kernel) (by rw [Bool.and_eq_true]; exact ⟨Nat.ble_eq_true_of_le h1, Nat.ble_eq_true_of_le h2⟩)))
  have fH : ∀ {W : sW} {M1 M2 : aM}, Jm RRS W M1 M2 → (W.1.all (fun b => !(fun a => Nat.ble 17 a && Nat.ble a (17 + 12)) b) && W.2.all (fun b => !(fun a => Nat.ble 17 a && Nat.ble a (17 + 12)) b.1)) = true → cHo 17 H M1 → cHo 17 H M2 := fun {W M1 M2} q hw h => cH_eq h (fun a k h1 h2 => q.2.2.1 a k (wr_p (fun a => Nat.ble 17 a && Nat.ble a (17 + 12)) hw (by rw [Bool.and_eq_true]; exact ⟨Nat.ble_eq_true_of_le h1, Nat.ble_eq_true_of_le h2⟩)))
  refine setb_0 hJ.2 hl0 (fun M' => Jm RRS (eW ens_70) M M') (fcV_of (e := ens_70) hl0 (oks_70 hl0 (ctA_RRS hl0) _ List.mem_cons_self) rfl rfl rfl rfl ⟨rfl, ⟨_, rfl, by decide, by decide⟩, trivial⟩ hJ (nl M)) (fun M1 M' => M' = aset (aset (aset M1 0 9 (.int (Int32.ofInt (-1)))) 49 0 (.int (Int32.ofInt 0))) 49 1 (.int (Int32.ofInt 0))) (fun M1 e1 q1 => stp49_c hl0) (fun M1 M3 M' => M' = aset (aset M3 53 0 (.int (Int32.ofInt 0))) 53 1 (.int (Int32.ofInt 0))) (fun M1 e1 q1 M3 e3 q3 => stp53_c hl0) (fun M1 M3 M5 M' => Jm RRS (eW ens_71) M5 M' ∧ ∃ M0, QSp H M5 M0 ∧ smeM M0 M') (fun M1 e1 q1 M3 e3 q3 M5 e5 q5 => ?_) (fun M1 M3 M5 M7 M' => Jm RRS (eW ens_74) M7 M' ∧ ∃ M0, QFl H M7 M0 ∧ smeM M0 M') (fun M1 e1 q1 M3 e3 q3 M5 e5 q5 M7 e7 q7 => ?_) (fun M1 M3 M5 M7 M9 M' => Jm RRS (eW ens_76) M9 M' ∧ ∃ M0, QSb H M9 M0 ∧ smeM M0 M') (fun M1 e1 q1 M3 e3 q3 M5 e5 q5 M7 e7 q7 M9 e9 q9 => ?_) (fun M1 M3 M5 M7 M9 M11 M' => M' = aset (aset M11 40 2 (.int ((Int8.ofInt (-2)).toInt32))) 40 3 (.int ((Int8.ofInt (-2)).toInt32))) (fun M1 e1 q1 M3 e3 q3 M5 e5 q5 M7 e7 q7 M9 e9 q9 M11 e11 q11 => lrs_c hl0) (fun M1 M3 M5 M7 M9 M11 M13 M' => M' = aset M13 45 2 (.int (Int32.ofInt 0))) (fun M1 e1 q1 M3 e3 q3 M5 e5 q5 M7 e7 q7 M9 e9 q9 M11 e11 q11 M13 e13 q13 => grs_c hl0) (fun M1 e1 q1 M3 e3 q3 M5 e5 q5 M7 e7 q7 M9 e9 q9 M11 e11 q11 M13 e13 q13 M15 e15 q15 => ?_)
  · subst q3
    subst q5
    exact AC.joinV (meab_c hl0 (j5 q1).2 hI (c5 q1)) (fcV_of (e := ens_71) hl0 (oks_71 hl0 (ctA_RRS hl0) _ List.mem_cons_self) rfl rfl rfl rfl ⟨rfl, rfl, trivial⟩ (j5 q1) (nl _))
  · subst q3
    subst q5
    obtain ⟨q7, M0, s0, s1⟩ := q7
    exact AC.joinV (filb_c hl0 q7.2.1 hI (fH q7 (by decide +kernel) (c5 q1)) (fun t ht => by rw [← sme_aI s1 (i := 31) (k := t) (n := 256) (ty := .int) rfl rfl (by omega)]; exact (s0.1 t ht).1) hsl) (fcV_of (e := ens_74) hl0 (oks_74 hl0 (ctA_RRS hl0) _ List.mem_cons_self) rfl rfl rfl rfl ⟨rfl, rfl, rfl, rfl, trivial⟩ ⟨q7.1, q7.2.1⟩ (nl _))
  · subst q3
    subst q5
    obtain ⟨q7, -⟩ := q7
    obtain ⟨q9, -⟩ := q9
    exact AC.joinV (sbnb_c hl0 (fun M' e k hk => c21 hl0 (fun e2 he => by rw [e]; exact rgR_ok q9.2.1 (okR_RRS.1 e2 he)) hk) q9.2.1 hI.2.1 ((fH q9 (by decide +kernel) (fH q7 (by decide +kernel) (c5 q1))).wo)) (fcV_of (e := ens_76) hl0 (oks_76 hl0 (ctA_RRS hl0) _ List.mem_cons_self) rfl rfl rfl rfl ⟨rfl, rfl, trivial⟩ ⟨q9.1, q9.2.1⟩ (nl _))
  · have er : M15.2.2 = M.2.2 := e15.trans (e13.trans (e11.trans (e9.trans (e7.trans (e5.trans (e3.trans e1))))))
    subst q15
    subst q13
    obtain ⟨q7, N7, s7, t7⟩ := q7
    obtain ⟨q9, N9, s9, t9⟩ := q9
    obtain ⟨q11, N11, s11, t11⟩ := q11
    have r31 : ∀ a k, (a = 31 ∨ a = 32) → M11.1 a k = M7.1 a k := fun a k ha => by
      rcases ha with e | e
      · subst e
        exact (q11.2.2.1 31 k (wr_p (fun a => Nat.beq 31 a) (by decide +kernel) rfl)).trans (q9.2.2.1 31 k (wr_p (fun a => Nat.beq 31 a) (by decide +kernel) rfl))
      · subst e
        exact (q11.2.2.1 32 k (wr_p (fun a => Nat.beq 32 a) (by decide +kernel) rfl)).trans (q9.2.2.1 32 k (wr_p (fun a => Nat.beq 32 a) (by decide +kernel) rfl))
    have r34 : ∀ t, lgV M11 34 t = lgV M9 34 t := fun t => lgV_eq (q11.2.2.1 34 _ (wr_p (fun a => Nat.beq 34 a) (by decide +kernel) rfl)) (q11.2.2.1 34 _ (wr_p (fun a => Nat.beq 34 a) (by decide +kernel) rfl))
    have k7 := kS_sme t7
    have k9 := kS_sme t9
    have k11 := kS_sme t11
    have sl : SL H M11 := by
      refine ⟨fun t ht => ?_, fun t ht => abO_fr (s9.1 t ht) ((r34 t).trans (k9.2.1 t (by omega))), fun k hk lf hlf => ?_⟩
      · rw [r31 31 t (Or.inl rfl), r31 32 t (Or.inr rfl), k7.1 31 t (Or.inl rfl) (by omega), k7.1 32 t (Or.inr rfl) (by omega)]
        exact s7.1 t ht
      · rw [k11.2.2 k hk, s11.1 k hk lf hlf]
        constructor
        · rintro ⟨t, t1, t2, t3⟩
          exact ⟨t, t1, t2, by rw [k11.2.1 t (by omega)]; exact t3⟩
        · rintro ⟨t, t1, t2, t3⟩
          exact ⟨t, t1, t2, by rw [← k11.2.1 t (by omega)]; exact t3⟩
    exact ⟨rfl, er, rfl, SL_fr hI.2.1 sl (kS_fr (fun a k h1 h2 => by rw [set_1, if_neg (by omega), set_1, if_neg (by omega), set_1, if_neg (by omega)]))⟩
theorem sl39a (hl0 : l.1.stackTraces = false) (hJ : JR RR M) {u : Nat → Nat} {s : Nat} (s8 : s ≤ 800) (h21 : M.1 2 1 = nI s) (hu : ∀ i, u i < 256) (hb : ∀ i, i < s → M.1 3 i = sB (u i)) {x : Int32} : AC l (pI pg 39) (PS39 u x M) 2 12 [.ref 0, .int x] SHF M := by
  refine fw_of hl0 ⟨by decide +kernel, by decide +kernel, by decide +kernel⟩ rfl ?_
  have hz : (Int32.ofInt 0).toNatClampNeg = 0 := by decide
  have z0 : (0 : Int32).toInt = 0 := by decide
  generalize hn : x.toInt.toNat = n
  have nx : ¬ x < 0 → x = nI n := fun h => by
    rw [Int32.lt_iff_toInt_lt] at h
    rw [← hn]
    exact nI_self (by omega)
  have ns : ¬ x < 0 → x ≤ M.1 2 1 → n ≤ s := fun h h3 => by
    rw [nx h, h21] at h3
    rw [Int32.le_iff_toInt_le] at h3
    have e1 := hi_i x
    rw [nI_toInt (by omega), nI_toInt (by omega)] at h3
    omega
  have rd : ¬ x < 0 → x ≤ M.1 2 1 → AC l (pI pg 45) (fcI M (fun y M' => (inI y (0, 5) ∧ Jm RR (eW en_166) M M') ∧ ∃ M1, QRB (parS u n (n + 1) HS0 0) M y M1 ∧ smeM M1 M')) 0 0 [.ref 1, .ref 17, .int x] SHF M := by
    intro h1 h3
    have h4 := ns h1 h3
    refine AC.joinI ?_ ?_
    · rw [nx h1]
      exact reaB_c hl0 (fun e he => hJ.2 e (rk_RR e he)) (by omega) hu (fun i hi => hb i (by omega))
    · refine fcI_of (e := en_166) hl0 (all_RR hl0 _ List.mem_cons_self) rfl rfl rfl rfl ⟨rfl, rfl, ⟨x, rfl, ?_⟩, trivial⟩ hJ (fun _ h => absurd h List.not_mem_nil)
      rw [nx h1]
      exact ⟨by rw [nI_toInt (by omega)]; exact Int.natCast_nonneg n, by rw [nI_toInt (by omega)]; show (n : Int) ≤ 800; omega⟩
  have two : ∀ (y : Int32) (M4 : aM), Jm RR (eW en_166) M M4 → JR RR (aset (aset M4 2 1 (.int (Int32.ofInt 0))) 0 13 (.int ((aset M4 2 1 (.int (Int32.ofInt 0))).1 1 2))) := by
    intro y M4 q4
    have j1 := J_setF (R := RR) (W := ([], [(2, 1)])) (M0 := M4) (a := 2) (k := 1) (q := (0, 800)) (x := Int32.ofInt 0) ⟨q4.1, q4.2.1, fun _ _ _ => rfl, rfl⟩ (by decide +kernel) rfl ⟨by decide, by decide⟩
    have r12 := rgF_ok q4.1 (show rgF RR.1 1 2 = some ((-1), 800) by decide +kernel)
    have j2 := J_setF (R := RR) (W := ([], [(0, 13)])) (M0 := aset M4 2 1 (.int (Int32.ofInt 0))) (a := 0) (k := 13) (q := ((-1), 800)) (x := (aset M4 2 1 (.int (Int32.ofInt 0))).1 1 2) ⟨j1.1, j1.2.1, fun _ _ _ => rfl, rfl⟩ (by decide +kernel) rfl r12
    exact ⟨j2.1, j2.2.1⟩
  have sw : ∀ (M5 : aM), JR RR M5 → JR RRS (aset (aset M5 0 1 (.ref 17)) 0 2 (.ref 4)) := fun M5 h5 => JR_swap (R := RR) (S := RRS) (p := 17 + 1) (q := 4 + 1) rfl (by decide +kernel) (by decide +kernel) (by decide +kernel) h5 rfl rfl
  refine s39a_0 (kc := 1) (ks := 6) hJ.2 (fun h => ⟨rfl, Or.inl ⟨rfl, rfl⟩⟩) _ (fun h1 h3 => rd h1 h3) (fun y M4 M' => ∀ H, parS u n (n + 1) HS0 0 = .inr H → HI H ∧ SL H M') (fun h1 h3 y M4 e4 q4 h6 => ?_) (fun h1 h3 y M4 e4 q4 h6 M7 e7 q7 => ?_) (fun h1 h3 y M4 e4 q4 h6 => ?_) (fun h1 h3 y M4 e4 q4 h6 => ?_) (fun h1 h3 => ⟨rfl, Or.inl ⟨rfl, rfl⟩⟩)
  · obtain ⟨⟨-, qJ⟩, M1, qR, qS⟩ := q4
    cases hp : parS u n (n + 1) HS0 0 with
    | inl f =>
      have g := qR.2.2.1 f hp
      have g2 := parS_f hp
      rw [qR.2.1, g.1] at h6
      exact absurd h6 (nI_z g2.1 g2.2)
    | inr H =>
      obtain ⟨g1, g2, g3, g4⟩ := qR.2.2.2 H hp
      refine AC.post hl0 (fun r sh' M' hq => ?_) (se5b_c (H := H) hl0 (sw _ (two y M4 qJ)) g2 (cH_eq (cH_sme17 g2 qS g1) (fun a k h1 h2 => ?_)))
      · obtain ⟨r1, r2, r3, r4⟩ := hq
        refine ⟨r1, r2, r3, fun H2 h2 => ?_⟩
        cases h2
        exact ⟨g2, r4⟩
      · show (aset (aset M4 2 1 (.int (Int32.ofInt 0))) 0 13 (.int ((aset M4 2 1 (.int (Int32.ofInt 0))).1 1 2))).1 a k = M4.1 a k
        rw [set_1, if_neg (by omega), set_1, if_neg (by omega)]
  · obtain ⟨⟨-, qJ⟩, M1, qR, qS⟩ := q4
    refine ⟨rfl, Or.inr ⟨_, rfl, fun f hf => ?_, fun H hH => ?_⟩⟩
    · rw [hn] at hf
      have g := qR.2.2.1 f hf
      have g2 := parS_f hf
      rw [qR.2.1, g.1] at h6
      exact absurd h6 (nI_z g2.1 g2.2)
    · rw [hn] at hH
      exact q7 H hH
  · exact vp_in_nI (n := 0) (by omega) (by decide)
  · obtain ⟨⟨-, qJ⟩, M1, qR, qS⟩ := q4
    refine ⟨rfl, Or.inr ⟨_, rfl, fun f hf => ?_, fun H hH => ?_⟩⟩
    · refine kS_fr (fun a k h1 h2 => ?_)
      rw [set_1, if_neg (by omega), set_1, if_neg (by omega), set_1, if_neg (by omega)]
      exact qJ.2.2.1 a k (wr_p f35 (by decide +kernel) (by
        unfold f35
        rw [Bool.and_eq_true]
        exact ⟨Nat.ble_eq_true_of_le h1, Nat.ble_eq_true_of_le h2⟩))
    · rw [hn] at hH
      have g := qR.2.2.2 H hH
      rw [qR.2.1, g.2.2.1] at h6
      exact absurd (show (Int32.ofInt 0 : Int32) = 0 by decide) h6
theorem sl39b (hl0 : l.1.stackTraces = false) (hJ : JR RRS M) {u : Nat → Nat} {s : Nat} (s8 : s ≤ 800) (h21 : M.1 2 1 = nI s) (hu : ∀ i, u i < 256) (hb : ∀ i, i < s → M.1 3 i = sB (u i)) {x : Int32} : AC l (pI pg 39) (PS39 u x M) 2 12 [.ref 0, .int x] SHF M := by
  refine fw_of hl0 ⟨by decide +kernel, by decide +kernel, by decide +kernel⟩ rfl ?_
  have hz : (Int32.ofInt 0).toNatClampNeg = 0 := by decide
  have z0 : (0 : Int32).toInt = 0 := by decide
  generalize hn : x.toInt.toNat = n
  have nx : ¬ x < 0 → x = nI n := fun h => by
    rw [Int32.lt_iff_toInt_lt] at h
    rw [← hn]
    exact nI_self (by omega)
  have ns : ¬ x < 0 → x ≤ M.1 2 1 → n ≤ s := fun h h3 => by
    rw [nx h, h21] at h3
    rw [Int32.le_iff_toInt_le] at h3
    have e1 := hi_i x
    rw [nI_toInt (by omega), nI_toInt (by omega)] at h3
    omega
  have rd : ¬ x < 0 → x ≤ M.1 2 1 → AC l (pI pg 45) (fcI M (fun y M' => (inI y (0, 5) ∧ Jm RRS (eW ens_166) M M') ∧ ∃ M1, QRA (parS u n (n + 1) HS0 0) M y M1 ∧ smeM M1 M')) 0 0 [.ref 1, .ref 4, .int x] SHF M := by
    intro h1 h3
    have h4 := ns h1 h3
    refine AC.joinI ?_ ?_
    · rw [nx h1]
      exact reaA_c hl0 (fun e he => hJ.2 e (rk_RRS e he)) (by omega) hu (fun i hi => hb i (by omega))
    · refine fcI_of (e := ens_166) hl0 (all_RRS hl0 _ List.mem_cons_self) rfl rfl rfl rfl ⟨rfl, rfl, ⟨x, rfl, ?_⟩, trivial⟩ hJ (fun _ h => absurd h List.not_mem_nil)
      rw [nx h1]
      exact ⟨by rw [nI_toInt (by omega)]; exact Int.natCast_nonneg n, by rw [nI_toInt (by omega)]; show (n : Int) ≤ 800; omega⟩
  have two : ∀ (y : Int32) (M4 : aM), Jm RRS (eW ens_166) M M4 → JR RRS (aset (aset M4 2 1 (.int (Int32.ofInt 0))) 0 13 (.int ((aset M4 2 1 (.int (Int32.ofInt 0))).1 1 2))) := by
    intro y M4 q4
    have j1 := J_setF (R := RRS) (W := ([], [(2, 1)])) (M0 := M4) (a := 2) (k := 1) (q := (0, 800)) (x := Int32.ofInt 0) ⟨q4.1, q4.2.1, fun _ _ _ => rfl, rfl⟩ (by decide +kernel) rfl ⟨by decide, by decide⟩
    have r12 := rgF_ok q4.1 (show rgF RRS.1 1 2 = some ((-1), 800) by decide +kernel)
    have j2 := J_setF (R := RRS) (W := ([], [(0, 13)])) (M0 := aset M4 2 1 (.int (Int32.ofInt 0))) (a := 0) (k := 13) (q := ((-1), 800)) (x := (aset M4 2 1 (.int (Int32.ofInt 0))).1 1 2) ⟨j1.1, j1.2.1, fun _ _ _ => rfl, rfl⟩ (by decide +kernel) rfl r12
    exact ⟨j2.1, j2.2.1⟩
  have sw : ∀ (M5 : aM), JR RRS M5 → JR RR (aset (aset M5 0 1 (.ref 4)) 0 2 (.ref 17)) := fun M5 h5 => JR_swap (R := RRS) (S := RR) (p := 4 + 1) (q := 17 + 1) rfl (by decide +kernel) (by decide +kernel) (by decide +kernel) h5 rfl rfl
  refine s39b_0 (kc := 1) (ks := 6) hJ.2 (fun h => ⟨rfl, Or.inl ⟨rfl, rfl⟩⟩) _ (fun h1 h3 => rd h1 h3) (fun y M4 M' => ∀ H, parS u n (n + 1) HS0 0 = .inr H → HI H ∧ SL H M') (fun h1 h3 y M4 e4 q4 h6 => ?_) (fun h1 h3 y M4 e4 q4 h6 M7 e7 q7 => ?_) (fun h1 h3 y M4 e4 q4 h6 => ?_) (fun h1 h3 y M4 e4 q4 h6 => ?_) (fun h1 h3 => ⟨rfl, Or.inl ⟨rfl, rfl⟩⟩)
  · obtain ⟨⟨-, qJ⟩, M1, qR, qS⟩ := q4
    cases hp : parS u n (n + 1) HS0 0 with
    | inl f =>
      have g := qR.2.2.1 f hp
      have g2 := parS_f hp
      rw [qR.2.1, g.1] at h6
      exact absurd h6 (nI_z g2.1 g2.2)
    | inr H =>
      obtain ⟨g1, g2, g3, g4⟩ := qR.2.2.2 H hp
      refine AC.post hl0 (fun r sh' M' hq => ?_) (se5a_c (H := H) hl0 (sw _ (two y M4 qJ)) g2 (cH_eq (cH_sme4 g2 qS g1) (fun a k h1 h2 => ?_)))
      · obtain ⟨r1, r2, r3, r4⟩ := hq
        refine ⟨r1, r2, r3, fun H2 h2 => ?_⟩
        cases h2
        exact ⟨g2, r4⟩
      · show (aset (aset M4 2 1 (.int (Int32.ofInt 0))) 0 13 (.int ((aset M4 2 1 (.int (Int32.ofInt 0))).1 1 2))).1 a k = M4.1 a k
        rw [set_1, if_neg (by omega), set_1, if_neg (by omega)]
  · obtain ⟨⟨-, qJ⟩, M1, qR, qS⟩ := q4
    refine ⟨rfl, Or.inr ⟨_, rfl, fun f hf => ?_, fun H hH => ?_⟩⟩
    · rw [hn] at hf
      have g := qR.2.2.1 f hf
      have g2 := parS_f hf
      rw [qR.2.1, g.1] at h6
      exact absurd h6 (nI_z g2.1 g2.2)
    · rw [hn] at hH
      exact q7 H hH
  · exact vp_in_nI (n := 0) (by omega) (by decide)
  · obtain ⟨⟨-, qJ⟩, M1, qR, qS⟩ := q4
    refine ⟨rfl, Or.inr ⟨_, rfl, fun f hf => ?_, fun H hH => ?_⟩⟩
    · refine kS_fr (fun a k h1 h2 => ?_)
      rw [set_1, if_neg (by omega), set_1, if_neg (by omega), set_1, if_neg (by omega)]
      exact qJ.2.2.1 a k (wr_p f35 (by decide +kernel) (by
        unfold f35
        rw [Bool.and_eq_true]
        exact ⟨Nat.ble_eq_true_of_le h1, Nat.ble_eq_true_of_le h2⟩))
    · rw [hn] at hH
      have g := qR.2.2.2 H hH
      rw [qR.2.1, g.2.2.1] at h6
      exact absurd (show (Int32.ofInt 0 : Int32) = 0 by decide) h6
theorem msta_c (hl0 : l.1.stackTraces = false) (hJ : JR RR M) (hI : HI H) (hH : cHo 4 H M) (hS : SL H M) : AC l (pI pg 114) (tcO "java/lang/IllegalArgumentException" M (piO H (moP H x) x)) 2 12 [.ref 0, .int x] SHF M := by
  have p6 := pw_le hI.pe
  refine fw_of hl0 ⟨by decide +kernel, by decide +kernel, by decide +kernel⟩ rfl ?_
  refine msta_0 (kc := 1) (ks := 6) hJ.2 hl0 (¬ inN (2 ^ H.pe) x) (ckla_c hl0 hJ hI hH) (fun b => ⟨rfl, rfl, Or.inl ⟨pi_no b, rfl⟩⟩) (fun y M' => M' = M ∧ moP H x y) (fun b => ?_) (fun b y M1 e1 q1 => ?_)
  · have hy := Decidable.not_not.mp b
    have ly := inN_lt hy
    have c := gnu_c (l := l) (M := M) (H := H) (cd := H.cd) (lf := x.toNatClampNeg) (N := H.pe) hl0 (fun e he => hJ.2 e (rl_RR e he)) (by omega) ly hS.2.1 hS.2.2
    rw [← inN_eq hy] at c
    refine AC.post hl0 (fun r sh' M' hp => ?_) c
    obtain ⟨r1, r2, z, r3, r4, v, v8, r5, r6⟩ := hp
    exact ⟨r1, r2, z, r3, r4, v, v8, r5, r6⟩
  · obtain ⟨rfl, q1⟩ := q1
    exact ⟨rfl, rfl, Or.inr ⟨_, pi_is (Decidable.not_not.mp b) q1 moP_u, rfl⟩⟩
theorem brsa_c (hl0 : l.1.stackTraces = false) (hJ : JR RR M) (hI : HI H) (hH : cHo 4 H M) (hS : SL H M) : AC l (pI pg 117) (tcO "java/lang/IllegalArgumentException" M (piO H (baP H x) x)) 2 12 [.ref 0, .int x] SHF M := by
  have p6 := pw_le hI.pe
  refine fw_of hl0 ⟨by decide +kernel, by decide +kernel, by decide +kernel⟩ rfl ?_
  refine brsa_0 (kc := 1) (ks := 6) hJ.2 hl0 (¬ inN (2 ^ H.pe) x) (ckla_c hl0 hJ hI hH) (fun b => ⟨rfl, rfl, Or.inl ⟨pi_no b, rfl⟩⟩) (fun y M' => M' = M ∧ baP H x y) (fun b => ?_) (fun b y M1 e1 q1 => ?_)
  · have hy := Decidable.not_not.mp b
    have ly := inN_lt hy
    have c := suna_c (l := l) (M := M) (H := H) (cd := H.cd) (lf := x.toNatClampNeg) (N := H.pe) hl0 (fun M' e k hk => c21 hl0 (fun e2 he => by rw [e]; exact rgR_ok hJ.2 (okR_RR.1 e2 he)) hk) hJ.2 hI.2.1 hH.wo (by omega) ly hS.2.1
    rw [← inN_eq hy] at c
    refine AC.post hl0 (fun r sh' M' hp => ?_) c
    obtain ⟨r1, r2, z, r3, r4, v, r5, r6⟩ := hp
    exact ⟨r1, r2, z, r3, r4, v, r5, r6⟩
  · obtain ⟨rfl, q1⟩ := q1
    exact ⟨rfl, rfl, Or.inr ⟨_, pi_is (Decidable.not_not.mp b) q1 baP_u, rfl⟩⟩
theorem mstb_c (hl0 : l.1.stackTraces = false) (hJ : JR RRS M) (hI : HI H) (hH : cHo 17 H M) (hS : SL H M) : AC l (pI pg 114) (tcO "java/lang/IllegalArgumentException" M (piO H (moP H x) x)) 2 12 [.ref 0, .int x] SHF M := by
  have p6 := pw_le hI.pe
  refine fw_of hl0 ⟨by decide +kernel, by decide +kernel, by decide +kernel⟩ rfl ?_
  refine mstb_0 (kc := 1) (ks := 6) hJ.2 hl0 (¬ inN (2 ^ H.pe) x) (cklb_c hl0 hJ hI hH) (fun b => ⟨rfl, rfl, Or.inl ⟨pi_no b, rfl⟩⟩) (fun y M' => M' = M ∧ moP H x y) (fun b => ?_) (fun b y M1 e1 q1 => ?_)
  · have hy := Decidable.not_not.mp b
    have ly := inN_lt hy
    have c := gnu_c (l := l) (M := M) (H := H) (cd := H.cd) (lf := x.toNatClampNeg) (N := H.pe) hl0 (fun e he => hJ.2 e (rl_RRS e he)) (by omega) ly hS.2.1 hS.2.2
    rw [← inN_eq hy] at c
    refine AC.post hl0 (fun r sh' M' hp => ?_) c
    obtain ⟨r1, r2, z, r3, r4, v, v8, r5, r6⟩ := hp
    exact ⟨r1, r2, z, r3, r4, v, v8, r5, r6⟩
  · obtain ⟨rfl, q1⟩ := q1
    exact ⟨rfl, rfl, Or.inr ⟨_, pi_is (Decidable.not_not.mp b) q1 moP_u, rfl⟩⟩
theorem brsb_c (hl0 : l.1.stackTraces = false) (hJ : JR RRS M) (hI : HI H) (hH : cHo 17 H M) (hS : SL H M) : AC l (pI pg 117) (tcO "java/lang/IllegalArgumentException" M (piO H (baP H x) x)) 2 12 [.ref 0, .int x] SHF M := by
  have p6 := pw_le hI.pe
  refine fw_of hl0 ⟨by decide +kernel, by decide +kernel, by decide +kernel⟩ rfl ?_
  refine brsb_0 (kc := 1) (ks := 6) hJ.2 hl0 (¬ inN (2 ^ H.pe) x) (cklb_c hl0 hJ hI hH) (fun b => ⟨rfl, rfl, Or.inl ⟨pi_no b, rfl⟩⟩) (fun y M' => M' = M ∧ baP H x y) (fun b => ?_) (fun b y M1 e1 q1 => ?_)
  · have hy := Decidable.not_not.mp b
    have ly := inN_lt hy
    have c := sunb_c (l := l) (M := M) (H := H) (cd := H.cd) (lf := x.toNatClampNeg) (N := H.pe) hl0 (fun M' e k hk => c21 hl0 (fun e2 he => by rw [e]; exact rgR_ok hJ.2 (okR_RRS.1 e2 he)) hk) hJ.2 hI.2.1 hH.wo (by omega) ly hS.2.1
    rw [← inN_eq hy] at c
    refine AC.post hl0 (fun r sh' M' hp => ?_) c
    obtain ⟨r1, r2, z, r3, r4, v, r5, r6⟩ := hp
    exact ⟨r1, r2, z, r3, r4, v, r5, r6⟩
  · obtain ⟨rfl, q1⟩ := q1
    exact ⟨rfl, rfl, Or.inr ⟨_, pi_is (Decidable.not_not.mp b) q1 baP_u, rfl⟩⟩
end SLC
