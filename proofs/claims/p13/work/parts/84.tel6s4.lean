/-! THE CLASS'S SPANS: hours of each set of works, or that two are at one hour; hours that are busy -/
section SPN0
variable {M : aM} {H : HS}
def spO (H : HS) (s : Nat) (M : aM) : Prop := ∀ t, t < s → ((noC H H.wo t ∧ M.1 31 t = nI (sumL H H.wo t)) ∨ (¬ noC H H.wo t ∧ M.1 31 t = nI 99)) ∧ M.1 32 t = nI (bsy H H.wo t)
def QSp (H : HS) (M M' : aM) : Prop := spO H (2 ^ H.wo) M' ∧ ∀ a k, a ≠ 31 → a ≠ 32 → M'.1 a k = M.1 a k
theorem hb_hr {w : Nat} : hb H w = hrS H w := by
  unfold hb hrS
  rw [Nat.shiftLeft_eq, Nat.mul_comm]
theorem hb_lt (hI : HI H) {w : Nat} (hw : w < H.wo) : hb H w < 2 ^ 24 := by
  refine Nat.lt_pow_two_of_testBit _ fun i hi => ?_
  cases e : (hb H w).testBit i with
  | false => rfl
  | true =>
    have h1 := hb_bit.mp e
    have h2 := HI_w hI hw
    omega
theorem bsy_lt (hI : HI H) {t : Nat} : ∀ n, n ≤ H.wo → bsy H n t < 2 ^ 24
  | 0, _ => by
    show 0 < 2 ^ 24
    decide
  | n + 1, hn => by
    refine Nat.or_lt_two_pow (bsy_lt hI n (by omega)) ?_
    split
    · exact hb_lt hI (by omega)
    · decide
theorem bsy_0 : ∀ n, bsy H n 0 = 0
  | 0 => rfl
  | n + 1 => by
    show bsy H n 0 ||| _ = 0
    rw [bsy_0 n, Nat.zero_testBit, if_neg (by decide)]
    rfl
end SPN0
section SPNa
variable {l : aL} {M : aM} {H : HS}
theorem hfoa_c (hl0 : l.1.stackTraces = false) (hK : ∀ e ∈ RK, M.2.2 e.1 e.2.1 = e.2.2) (hI : HI H) (hH : cHo 4 H M) {w : Nat} (hw : w < H.wo) : AC l (pI pg 15) (fcI M (fun y M' => M' = M ∧ y = nI (hb H w))) 0 0 [.ref 4, .int (nI w)] SHF M := by
  have w8 := hI.2.1
  refine fw_of hl0 ⟨by decide +kernel, by decide +kernel, by decide +kernel⟩ rfl ?_
  refine hfoa_0 hK hl0 (vp_in_nI (by omega) (by decide)) ?_
  rw [nI_clamp (by omega), show M.1 9 w = nI (H.be w) from hH.be w hw, show M.1 10 w = nI (H.le w) from hH.le w hw, hr_int hI hw]
  exact ⟨rfl, rfl, _, rfl, rfl, by rw [hb_hr]⟩
theorem meaa_c (hl0 : l.1.stackTraces = false) (hR : ∀ e ∈ RR.2, M.2.2 e.1 e.2.1 = e.2.2) (hI : HI H) (hH : cHo 4 H M) : AC l (pI pg 14) (fcV M (QSp H M)) 0 0 [.ref 30, .ref 4] SHF M := by
  have w8 := hI.2.1
  have P8 := p2_8 w8
  refine fw_of hl0 ⟨by decide +kernel, by decide +kernel, by decide +kernel⟩ rfl ?_
  refine meaa_0 hR hl0 (vp_in_nI (n := 0) (by decide) (by decide)) ?_
  have fr : ∀ {M1 : aM}, (∀ a k, a ≠ 31 → a ≠ 32 → M1.1 a k = M.1 a k) → cHo 4 H M1 := fun {M1} h => cH_eq hH (fun a k h1 h2 => h a k (by omega) (by omega))
  have hle : ∀ b, b < H.wo → 1 ≤ H.le b := fun b hb => (HI_w hI hb).2.1
  have outer : ∀ (d w : Nat) (M1 : aM), w + d = H.wo → M1.2.2 = M.2.2 → (∀ a k, a ≠ 31 → a ≠ 32 → M1.1 a k = M.1 a k) → spO H (2 ^ w) M1 → AW l (pI pg 14) (fcV M (QSp H M)) 0 0 16 [(2, .int (nI w)), (1, .ref 4), (0, .ref 30)] [] SHF M1 := by
    intro d
    induction d with
    | zero =>
      intro w M1 hw h1 h2 h3
      have ew : w = H.wo := by omega
      subst ew
      have c1 := fr h2
      have le : M1.1 4 1 ≤ nI H.wo := by rw [c1.wo]; exact Int32.le_refl _
      exact meaa_16 (by rw [h1]; exact hR) hl0 (fun _ => ⟨rfl, h1, rfl, h3, h2⟩) (fun _ _ => True) (fun h => absurd le h) (fun h => absurd le h)
    | succ d ih =>
      intro w M1 hw h1 h2 h3
      have c1 := fr h2
      have wl : w < H.wo := by omega
      have ng : ¬ M1.1 4 1 ≤ nI w := by
        rw [c1.wo, nle (by omega) (by omega)]
        omega
      have pw : 2 ^ w ≤ 128 := Nat.pow_le_pow_right (n := 2) (by decide) (show w ≤ 7 by omega)
      refine meaa_16 (by rw [h1]; exact hR) hl0 (fun h => absurd h ng) (fun y M' => M' = M1 ∧ y = nI (hb H w)) (fun _ => hfoa_c hl0 (fun e he => by rw [h1]; exact hR e (rk_RR e he)) hI c1 wl) (fun _ y3 M3 e3 q3 => ?_)
      obtain ⟨rfl, rfl⟩ := q3
      rw [shW (by omega)]
      have hbl := hb_lt hI wl
      have inner : ∀ (d2 r : Nat) (M2 : aM), r + d2 = 2 ^ w → M2.2.2 = M.2.2 → (∀ a k, a ≠ 31 → a ≠ 32 → M2.1 a k = M.1 a k) → spO H (2 ^ w + r) M2 → AW l (pI pg 14) (fcV M (QSp H M)) 0 0 38 [(5, .int (nI r)), (4, .int (nI (2 ^ w))), (3, .int (nI (hb H w))), (2, .int (nI w)), (1, .ref 4), (0, .ref 30)] [] SHF M2 := by
        intro d2
        induction d2 with
        | zero =>
          intro r M2 hr g1 g2 g3
          have er : r = 2 ^ w := by omega
          subst er
          have le : nI (2 ^ w) ≤ nI (2 ^ w) := Int32.le_refl _
          refine meaa_38 (by rw [g1]; exact hR) hl0 (fun _ => ?_) (fun h => absurd le h) (fun h => absurd le h) (fun h => absurd le h) (fun h => absurd le h) (fun h => absurd le h) (fun h => absurd le h) (fun h => absurd le h) (fun h => absurd le h)
          rw [show nI w + Int32.ofInt 1 = nI (w + 1) from nI_1 w]
          exact ih (w + 1) M2 (by omega) g1 g2 (by rw [Nat.pow_succ, Nat.mul_two]; exact g3)
        | succ d2 ih2 =>
          intro r M2 hr g1 g2 g3
          have rl : r < 2 ^ w := by omega
          have c2 := fr g2
          have ng2 : ¬ nI (2 ^ w) ≤ nI r := by
            rw [nle (by omega) (by omega)]
            omega
          have cr : (nI r).toNatClampNeg = r := nI_clamp (by omega)
          have ix : nI (2 ^ w) ||| nI r = nI (2 ^ w + r) := by
            have e0 := Nat.two_pow_add_eq_or_of_lt rl 1
            rw [Nat.mul_one] at e0
            rw [nI_orN (by omega) (by omega), ← e0]
          have ci : (nI (2 ^ w + r)).toNatClampNeg = 2 ^ w + r := nI_clamp (by omega)
          obtain ⟨s1, s2⟩ := g3 r (by omega)
          have bl := bsy_lt hI (t := r) H.wo (Nat.le_refl _)
          have sl := sumL_le (t := r) hI H.wo (Nat.le_refl _)
          have ll := (HI_w hI wl).2.2.1
          have z99 : (Int8.ofInt 99).toInt32 = nI 99 := by decide
          have nb : M2.1 32 r ||| nI (hb H w) = nI (bsy H H.wo (2 ^ w + r)) := by
            rw [s2, nI_orN (by omega) (by omega), bsy_add rl wl]
          have nx : ∀ (v : Int32), ((noC H H.wo (2 ^ w + r) ∧ v = nI (sumL H H.wo (2 ^ w + r))) ∨ (¬ noC H H.wo (2 ^ w + r) ∧ v = nI 99)) → AW l (pI pg 14) (fcV M (QSp H M)) 0 0 38 [(5, .int (nI (r + 1))), (4, .int (nI (2 ^ w))), (3, .int (nI (hb H w))), (2, .int (nI w)), (1, .ref 4), (0, .ref 30)] [] SHF (aset (aset M2 31 (2 ^ w + r) (.int v)) 32 (2 ^ w + r) (.int (nI (bsy H H.wo (2 ^ w + r))))) := by
            intro v hv
            refine ih2 (r + 1) _ (by omega) g1 (fun a k a1 a2 => ?_) (fun t ht => ?_)
            · rw [set_1, if_neg a2, set_1, if_neg a1]
              exact g2 a k a1 a2
            · rw [show (aset (aset M2 31 (2 ^ w + r) (.int v)) 32 (2 ^ w + r) (.int (nI (bsy H H.wo (2 ^ w + r))))).1 31 t = if t = 2 ^ w + r then v else M2.1 31 t from rfl, show (aset (aset M2 31 (2 ^ w + r) (.int v)) 32 (2 ^ w + r) (.int (nI (bsy H H.wo (2 ^ w + r))))).1 32 t = if t = 2 ^ w + r then nI (bsy H H.wo (2 ^ w + r)) else M2.1 32 t from rfl]
              by_cases e : t = 2 ^ w + r
              · rw [if_pos e, if_pos e, e]
                exact ⟨hv, rfl⟩
              · rw [if_neg e, if_neg e]
                exact g3 t (by omega)
          refine meaa_38 (by rw [g1]; exact hR) hl0 (fun h => absurd h ng2) (fun _ => vp_in_nI (by omega) (by decide)) (fun _ _ => by rw [ix]; exact vp_in_nI (by omega) (by decide)) (fun _ h4 => ?_) (fun _ _ _ => vp_in_nI (by omega) (by decide)) (fun _ _ _ => by rw [ix]; exact vp_in_nI (by omega) (by decide)) (fun _ h4 h8 => ?_) (fun _ _ _ => by rw [ix]; exact vp_in_nI (by omega) (by decide)) (fun _ h4 h8 => ?_)
          · rw [cr, z99] at h4
            rw [ix, ci, cr, z99, show nI r + Int32.ofInt 1 = nI (r + 1) from nI_1 r, show (aset M2 31 (2 ^ w + r) (.int (nI 99))).1 32 r = M2.1 32 r from rfl, nb]
            refine nx (nI 99) (Or.inr ⟨fun hc => ?_, rfl⟩)
            rcases s1 with ⟨u1, u2⟩ | ⟨u1, -⟩
            · rw [u2, nI_eq (by omega) (by omega)] at h4
              omega
            · exact u1 ((noC_add rl wl).mp hc).1
          · rw [cr, z99] at h4
            rw [cr, s2, nI_andN (by omega) (by omega), show (0 : Int32) = nI 0 from rfl, nI_eq (Nat.lt_of_le_of_lt Nat.and_le_left (by omega)) (by decide), bsy_clh hle (hle w wl)] at h8
            obtain ⟨u1, u2⟩ := s1.resolve_right (fun q => h4 q.2)
            rw [ix, ci, cr, nI_clamp (n := w) (by omega), show nI r + Int32.ofInt 1 = nI (r + 1) from nI_1 r, u2, show M2.1 10 w = nI (H.le w) from c2.le w wl, nI_add, ← sumL_add rl wl, show (aset M2 31 (2 ^ w + r) (.int (nI (sumL H H.wo (2 ^ w + r))))).1 32 r = M2.1 32 r from rfl, nb]
            exact nx _ (Or.inl ⟨(noC_add rl wl).mpr ⟨u1, h8⟩, rfl⟩)
          · rw [cr, s2, nI_andN (by omega) (by omega), show (0 : Int32) = nI 0 from rfl, nI_eq (Nat.lt_of_le_of_lt Nat.and_le_left (by omega)) (by decide), bsy_clh hle (hle w wl)] at h8
            rw [ix, ci, cr, z99, show nI r + Int32.ofInt 1 = nI (r + 1) from nI_1 r, show (aset M2 31 (2 ^ w + r) (.int (nI 99))).1 32 r = M2.1 32 r from rfl, nb]
            exact nx (nI 99) (Or.inr ⟨fun hc => h8 ((noC_add rl wl).mp hc).2, rfl⟩)
      exact inner (2 ^ w) 0 M3 (by omega) h1 h2 h3
  refine outer H.wo 0 _ (by omega) rfl (fun a k a1 a2 => ?_) (fun t ht => ?_)
  · rw [set_1, if_neg a2, set_1, if_neg a1]
  · have et : t = 0 := by
      rw [Nat.pow_zero] at ht
      omega
    subst et
    exact ⟨Or.inl ⟨fit_0 (m := 0) |>.1, by rw [sumL_0]; rfl⟩, by rw [bsy_0]; rfl⟩
end SPNa
section SPNb
variable {l : aL} {M : aM} {H : HS}
theorem hfob_c (hl0 : l.1.stackTraces = false) (hK : ∀ e ∈ RK, M.2.2 e.1 e.2.1 = e.2.2) (hI : HI H) (hH : cHo 17 H M) {w : Nat} (hw : w < H.wo) : AC l (pI pg 15) (fcI M (fun y M' => M' = M ∧ y = nI (hb H w))) 0 0 [.ref 17, .int (nI w)] SHF M := by
  have w8 := hI.2.1
  refine fw_of hl0 ⟨by decide +kernel, by decide +kernel, by decide +kernel⟩ rfl ?_
  refine hfob_0 hK hl0 (vp_in_nI (by omega) (by decide)) ?_
  rw [nI_clamp (by omega), show M.1 22 w = nI (H.be w) from hH.be w hw, show M.1 23 w = nI (H.le w) from hH.le w hw, hr_int hI hw]
  exact ⟨rfl, rfl, _, rfl, rfl, by rw [hb_hr]⟩
theorem meab_c (hl0 : l.1.stackTraces = false) (hR : ∀ e ∈ RRS.2, M.2.2 e.1 e.2.1 = e.2.2) (hI : HI H) (hH : cHo 17 H M) : AC l (pI pg 14) (fcV M (QSp H M)) 0 0 [.ref 30, .ref 17] SHF M := by
  have w8 := hI.2.1
  have P8 := p2_8 w8
  refine fw_of hl0 ⟨by decide +kernel, by decide +kernel, by decide +kernel⟩ rfl ?_
  refine meab_0 hR hl0 (vp_in_nI (n := 0) (by decide) (by decide)) ?_
  have fr : ∀ {M1 : aM}, (∀ a k, a ≠ 31 → a ≠ 32 → M1.1 a k = M.1 a k) → cHo 17 H M1 := fun {M1} h => cH_eq hH (fun a k h1 h2 => h a k (by omega) (by omega))
  have hle : ∀ b, b < H.wo → 1 ≤ H.le b := fun b hb => (HI_w hI hb).2.1
  have outer : ∀ (d w : Nat) (M1 : aM), w + d = H.wo → M1.2.2 = M.2.2 → (∀ a k, a ≠ 31 → a ≠ 32 → M1.1 a k = M.1 a k) → spO H (2 ^ w) M1 → AW l (pI pg 14) (fcV M (QSp H M)) 0 0 16 [(2, .int (nI w)), (1, .ref 17), (0, .ref 30)] [] SHF M1 := by
    intro d
    induction d with
    | zero =>
      intro w M1 hw h1 h2 h3
      have ew : w = H.wo := by omega
      subst ew
      have c1 := fr h2
      have le : M1.1 17 1 ≤ nI H.wo := by rw [c1.wo]; exact Int32.le_refl _
      exact meab_16 (by rw [h1]; exact hR) hl0 (fun _ => ⟨rfl, h1, rfl, h3, h2⟩) (fun _ _ => True) (fun h => absurd le h) (fun h => absurd le h)
    | succ d ih =>
      intro w M1 hw h1 h2 h3
      have c1 := fr h2
      have wl : w < H.wo := by omega
      have ng : ¬ M1.1 17 1 ≤ nI w := by
        rw [c1.wo, nle (by omega) (by omega)]
        omega
      have pw : 2 ^ w ≤ 128 := Nat.pow_le_pow_right (n := 2) (by decide) (show w ≤ 7 by omega)
      refine meab_16 (by rw [h1]; exact hR) hl0 (fun h => absurd h ng) (fun y M' => M' = M1 ∧ y = nI (hb H w)) (fun _ => hfob_c hl0 (fun e he => by rw [h1]; exact hR e (rk_RRS e he)) hI c1 wl) (fun _ y3 M3 e3 q3 => ?_)
      obtain ⟨rfl, rfl⟩ := q3
      rw [shW (by omega)]
      have hbl := hb_lt hI wl
      have inner : ∀ (d2 r : Nat) (M2 : aM), r + d2 = 2 ^ w → M2.2.2 = M.2.2 → (∀ a k, a ≠ 31 → a ≠ 32 → M2.1 a k = M.1 a k) → spO H (2 ^ w + r) M2 → AW l (pI pg 14) (fcV M (QSp H M)) 0 0 38 [(5, .int (nI r)), (4, .int (nI (2 ^ w))), (3, .int (nI (hb H w))), (2, .int (nI w)), (1, .ref 17), (0, .ref 30)] [] SHF M2 := by
        intro d2
        induction d2 with
        | zero =>
          intro r M2 hr g1 g2 g3
          have er : r = 2 ^ w := by omega
          subst er
          have le : nI (2 ^ w) ≤ nI (2 ^ w) := Int32.le_refl _
          refine meab_38 (by rw [g1]; exact hR) hl0 (fun _ => ?_) (fun h => absurd le h) (fun h => absurd le h) (fun h => absurd le h) (fun h => absurd le h) (fun h => absurd le h) (fun h => absurd le h) (fun h => absurd le h) (fun h => absurd le h)
          rw [show nI w + Int32.ofInt 1 = nI (w + 1) from nI_1 w]
          exact ih (w + 1) M2 (by omega) g1 g2 (by rw [Nat.pow_succ, Nat.mul_two]; exact g3)
        | succ d2 ih2 =>
          intro r M2 hr g1 g2 g3
          have rl : r < 2 ^ w := by omega
          have c2 := fr g2
          have ng2 : ¬ nI (2 ^ w) ≤ nI r := by
            rw [nle (by omega) (by omega)]
            omega
          have cr : (nI r).toNatClampNeg = r := nI_clamp (by omega)
          have ix : nI (2 ^ w) ||| nI r = nI (2 ^ w + r) := by
            have e0 := Nat.two_pow_add_eq_or_of_lt rl 1
            rw [Nat.mul_one] at e0
            rw [nI_orN (by omega) (by omega), ← e0]
          have ci : (nI (2 ^ w + r)).toNatClampNeg = 2 ^ w + r := nI_clamp (by omega)
          obtain ⟨s1, s2⟩ := g3 r (by omega)
          have bl := bsy_lt hI (t := r) H.wo (Nat.le_refl _)
          have sl := sumL_le (t := r) hI H.wo (Nat.le_refl _)
          have ll := (HI_w hI wl).2.2.1
          have z99 : (Int8.ofInt 99).toInt32 = nI 99 := by decide
          have nb : M2.1 32 r ||| nI (hb H w) = nI (bsy H H.wo (2 ^ w + r)) := by
            rw [s2, nI_orN (by omega) (by omega), bsy_add rl wl]
          have nx : ∀ (v : Int32), ((noC H H.wo (2 ^ w + r) ∧ v = nI (sumL H H.wo (2 ^ w + r))) ∨ (¬ noC H H.wo (2 ^ w + r) ∧ v = nI 99)) → AW l (pI pg 14) (fcV M (QSp H M)) 0 0 38 [(5, .int (nI (r + 1))), (4, .int (nI (2 ^ w))), (3, .int (nI (hb H w))), (2, .int (nI w)), (1, .ref 17), (0, .ref 30)] [] SHF (aset (aset M2 31 (2 ^ w + r) (.int v)) 32 (2 ^ w + r) (.int (nI (bsy H H.wo (2 ^ w + r))))) := by
            intro v hv
            refine ih2 (r + 1) _ (by omega) g1 (fun a k a1 a2 => ?_) (fun t ht => ?_)
            · rw [set_1, if_neg a2, set_1, if_neg a1]
              exact g2 a k a1 a2
            · rw [show (aset (aset M2 31 (2 ^ w + r) (.int v)) 32 (2 ^ w + r) (.int (nI (bsy H H.wo (2 ^ w + r))))).1 31 t = if t = 2 ^ w + r then v else M2.1 31 t from rfl, show (aset (aset M2 31 (2 ^ w + r) (.int v)) 32 (2 ^ w + r) (.int (nI (bsy H H.wo (2 ^ w + r))))).1 32 t = if t = 2 ^ w + r then nI (bsy H H.wo (2 ^ w + r)) else M2.1 32 t from rfl]
              by_cases e : t = 2 ^ w + r
              · rw [if_pos e, if_pos e, e]
                exact ⟨hv, rfl⟩
              · rw [if_neg e, if_neg e]
                exact g3 t (by omega)
          refine meab_38 (by rw [g1]; exact hR) hl0 (fun h => absurd h ng2) (fun _ => vp_in_nI (by omega) (by decide)) (fun _ _ => by rw [ix]; exact vp_in_nI (by omega) (by decide)) (fun _ h4 => ?_) (fun _ _ _ => vp_in_nI (by omega) (by decide)) (fun _ _ _ => by rw [ix]; exact vp_in_nI (by omega) (by decide)) (fun _ h4 h8 => ?_) (fun _ _ _ => by rw [ix]; exact vp_in_nI (by omega) (by decide)) (fun _ h4 h8 => ?_)
          · rw [cr, z99] at h4
            rw [ix, ci, cr, z99, show nI r + Int32.ofInt 1 = nI (r + 1) from nI_1 r, show (aset M2 31 (2 ^ w + r) (.int (nI 99))).1 32 r = M2.1 32 r from rfl, nb]
            refine nx (nI 99) (Or.inr ⟨fun hc => ?_, rfl⟩)
            rcases s1 with ⟨u1, u2⟩ | ⟨u1, -⟩
            · rw [u2, nI_eq (by omega) (by omega)] at h4
              omega
            · exact u1 ((noC_add rl wl).mp hc).1
          · rw [cr, z99] at h4
            rw [cr, s2, nI_andN (by omega) (by omega), show (0 : Int32) = nI 0 from rfl, nI_eq (Nat.lt_of_le_of_lt Nat.and_le_left (by omega)) (by decide), bsy_clh hle (hle w wl)] at h8
            obtain ⟨u1, u2⟩ := s1.resolve_right (fun q => h4 q.2)
            rw [ix, ci, cr, nI_clamp (n := w) (by omega), show nI r + Int32.ofInt 1 = nI (r + 1) from nI_1 r, u2, show M2.1 23 w = nI (H.le w) from c2.le w wl, nI_add, ← sumL_add rl wl, show (aset M2 31 (2 ^ w + r) (.int (nI (sumL H H.wo (2 ^ w + r))))).1 32 r = M2.1 32 r from rfl, nb]
            exact nx _ (Or.inl ⟨(noC_add rl wl).mpr ⟨u1, h8⟩, rfl⟩)
          · rw [cr, s2, nI_andN (by omega) (by omega), show (0 : Int32) = nI 0 from rfl, nI_eq (Nat.lt_of_le_of_lt Nat.and_le_left (by omega)) (by decide), bsy_clh hle (hle w wl)] at h8
            rw [ix, ci, cr, z99, show nI r + Int32.ofInt 1 = nI (r + 1) from nI_1 r, show (aset M2 31 (2 ^ w + r) (.int (nI 99))).1 32 r = M2.1 32 r from rfl, nb]
            exact nx (nI 99) (Or.inr ⟨fun hc => h8 ((noC_add rl wl).mp hc).2, rfl⟩)
      exact inner (2 ^ w) 0 M3 (by omega) h1 h2 h3
  refine outer H.wo 0 _ (by omega) rfl (fun a k a1 a2 => ?_) (fun t ht => ?_)
  · rw [set_1, if_neg a2, set_1, if_neg a1]
  · have et : t = 0 := by
      rw [Nat.pow_zero] at ht
      omega
    subst et
    exact ⟨Or.inl ⟨fit_0 (m := 0) |>.1, by rw [sumL_0]; rfl⟩, by rw [bsy_0]; rfl⟩
end SPNb
