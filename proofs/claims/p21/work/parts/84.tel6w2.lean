section GUa
variable {l : aL} {M : aM} {H : HS} {x : Int32}
theorem sksa_c (hl0 : l.1.stackTraces = false) (hR : ∀ e ∈ RR.2, M.2.2 e.1 e.2.1 = e.2.2) (hI : HI H) (hH : cHo 4 H M) {f : Int64} {g : Nat → Nat} (hf : (f.toInt = -1 ∧ ∀ w, w < H.wo → g w = 0) ∨ ∃ (S : Int) (la : Nat → Nat), 0 ≤ S ∧ S ≤ 100 ∧ f.toInt = 16777216 * S + sumR cdG la (2 ^ H.wo - 1) H.wo ∧ (∀ w, w < H.wo → la w < H.pe) ∧ ∀ w, w < H.wo → g w = H.sk (8 * la w + w)) : AC l (pI pg 147) (fcI M (fun y M' => M' = M ∧ y = Int32.ofNat (snN g H.wo))) 0 0 [.ref 4, .long f] SHF M := by
  have w8 := hI.2.1
  have p6 := hI.1
  refine fw_of hl0 ⟨by decide +kernel, by decide +kernel, by decide +kernel⟩ rfl ?_
  refine sksa_0 hR hl0 ?_
  have loop : ∀ (d w : Nat), w + d = H.wo → AW l (pI pg 147) (fcI M (fun y M' => M' = M ∧ y = Int32.ofNat (snN g H.wo))) 0 0 5 [(4, .int (nI w)), (3, .int (Int32.ofNat (snN g w))), (1, .long f), (0, .ref 4)] [] SHF M := by
    intro d
    induction d with
    | zero =>
      intro w hw
      have ew : w = H.wo := by omega
      subst ew
      have le : M.1 4 1 ≤ nI H.wo := by rw [hH.wo]; exact Int32.le_refl _
      exact sksa_5 hR hl0 (fun _ => ⟨rfl, rfl, _, rfl, rfl, rfl⟩) (fun h => absurd le h) (fun _ _ => True) (fun h => absurd le h) (fun _ _ _ _ => True) (fun h => absurd le h) (fun h => absurd le h) (fun h => absurd le h) (fun h => absurd le h)
    | succ d ih =>
      intro w hw
      have ng : ¬ M.1 4 1 ≤ nI w := by
        rw [hH.wo, nle (by omega) (by omega)]
        omega
      have nx : nI w + Int32.ofInt 1 = nI (w + 1) := nI_1 w
      rcases hf with ⟨f1, f2⟩ | ⟨S, la, s1, s2, f1, f2, f3⟩
      · have yes : lg_cmp f (-1) = 0 := j_m1.mpr f1
        refine sksa_5 hR hl0 (fun h => absurd h ng) (fun _ _ => ⟨rfl, rfl, _, rfl, rfl, ?_⟩) (fun _ _ => True) (fun _ h => absurd yes h) (fun _ _ _ _ => True) (fun _ h => absurd yes h) (fun _ h => absurd yes h) (fun _ h => absurd yes h) (fun _ h => absurd yes h)
        rw [sn_0 w (fun z hz => f2 z (by omega)), sn_0 H.wo f2]
      · have c24 := cod_in (r := la) (t := 2 ^ H.wo - 1) w8
        have no : ¬ lg_cmp f (-1) = 0 := fun h => by
          have := j_m1.mp h
          omega
        obtain ⟨c1, c2⟩ := cod_N w8 (la := la)
        have lp := f2 w (by omega)
        have dg := codN_at (r := la) (w := w) (W := H.wo) (by omega) w8 (by omega)
        have hp : hpV (M.1 4 0) (nI (la w)) = Int32.ofInt 1 := by
          unfold hpV
          rw [hH.pe, if_neg (fun h => by rw [show (0 : Int32) = nI 0 from rfl, nlt (by omega) (by decide)] at h; omega), if_neg (fun h => by rw [nle (by omega) (by omega)] at h; omega)]
        have ix : nI (la w) * (Int8.ofInt 8).toInt32 + nI w = nI (8 * la w + w) := by rw [z_8, nI_mulN, nI_add, Nat.mul_comm]
        refine sksa_5 hR hl0 (fun h => absurd h ng) (fun _ h => absurd h no) (fun y M' => M' = M ∧ y = nI (codN la H.wo)) (fun _ _ => ?_) (fun _ M5 y M' => M' = M5 ∧ y = nI (la w)) (fun _ _ y5 M5 e5 q5 => ?_) (fun _ _ y5 M5 e5 q5 y7 M7 e7 q7 h10 => ?_) (fun _ _ y5 M5 e5 q5 y7 M7 e7 q7 h10 => ?_) (fun _ _ y5 M5 e5 q5 y7 M7 e7 q7 h10 => ?_)
        · refine AC.post hl0 (fun r sh' M' hp => ?_) (cof_c (l := l) (M := M) (f := f) hl0)
          obtain ⟨r1, r2, z, r3, r4, r5⟩ := hp
          exact ⟨r1, r2, z, r3, r4, by rw [r5, cof_v f1 s1 s2 c24.1 c24.2, c1]⟩
        · obtain ⟨rfl, rfl⟩ := q5
          refine AC.post hl0 (fun r sh' M' hp => ?_) (dri_c (l := l) (M := M5) (c := codN la H.wo) (w := w) hl0 c2 (by omega))
          obtain ⟨r1, r2, z, r3, r4, r5⟩ := hp
          rw [dg] at r5
          obtain ⟨-, r5⟩ := r5.resolve_left (fun q => by have := q.1; omega)
          exact ⟨r1, r2, z, r3, r4, by rw [r5]; exact congrArg nI (by omega)⟩
        · obtain ⟨rfl, -⟩ := q5
          obtain ⟨rfl, rfl⟩ := q7
          rw [hp] at h10
          exact absurd h10 (by decide)
        · obtain ⟨rfl, -⟩ := q5
          obtain ⟨rfl, rfl⟩ := q7
          rw [ix]
          exact vp_in_nI (by omega) (by decide)
        · obtain ⟨rfl, -⟩ := q5
          obtain ⟨rfl, rfl⟩ := q7
          have sk : M7.1 12 (nI (8 * la w + w)).toNatClampNeg = nI (g w) := by
            rw [nI_clamp (by omega), f3 w (by omega)]
            exact hH.sk (8 * la w + w) (by omega)
          have g16 : g w < 16 := by
            rw [f3 w (by omega)]
            have := (hI.2.2.2.2.2.2.2.1 (la w) w (by omega) (by omega)).1
            omega
          rw [nx, ix, sk, or_sh g16 (by omega)]
          exact ih (w + 1) (by omega)
  exact loop H.wo 0 (by omega)
theorem siga_c (hl0 : l.1.stackTraces = false) (hR : ∀ e ∈ RR.2, M.2.2 e.1 e.2.1 = e.2.2) (hI : HI H) (hH : cHo 4 H M) {s : Nat} (hs : s < 256) : AC l (pI pg 148) (fcI M (fun y M' => M' = M ∧ y = Int32.ofNat (snN (sgS s) H.wo))) 0 0 [.ref 4, .int (nI s)] SHF M := by
  have w8 := hI.2.1
  refine fw_of hl0 ⟨by decide +kernel, by decide +kernel, by decide +kernel⟩ rfl ?_
  refine siga_0 hR hl0 ?_
  have loop : ∀ (d w : Nat), w + d = H.wo → AW l (pI pg 148) (fcI M (fun y M' => M' = M ∧ y = Int32.ofNat (snN (sgS s) H.wo))) 0 0 4 [(3, .int (nI w)), (2, .int (Int32.ofNat (snN (sgS s) w))), (1, .int (nI s)), (0, .ref 4)] [] SHF M := by
    intro d
    induction d with
    | zero =>
      intro w hw
      have ew : w = H.wo := by omega
      subst ew
      have le : M.1 4 1 ≤ nI H.wo := by rw [hH.wo]; exact Int32.le_refl _
      exact siga_4 hR hl0 (fun _ => ⟨rfl, rfl, _, rfl, rfl, rfl⟩) (fun h => absurd le h) (fun h => absurd le h)
    | succ d ih =>
      intro w hw
      have ng : ¬ M.1 4 1 ≤ nI w := by
        rw [hH.wo, nle (by omega) (by omega)]
        omega
      have nx : nI w + Int32.ofInt 1 = nI (w + 1) := nI_1 w
      refine siga_4 hR hl0 (fun h => absurd h ng) (fun _ h3 => ?_) (fun _ h3 => ?_)
      · rw [bitF (by omega) (by omega)] at h3
        rw [nx]
        have e : snN (sgS s) (w + 1) = snN (sgS s) w := by
          show snN (sgS s) w ||| (sgS s w <<< (4 * w)) = _
          rw [show sgS s w = 0 from if_neg (by rw [h3]; decide), Nat.zero_shiftLeft, Nat.or_zero]
        rw [← e]
        exact ih (w + 1) (by omega)
      · have hb : s.testBit w = true := by
          cases e : s.testBit w with
          | true => rfl
          | false => exact absurd ((bitF (by omega) (by omega)).mpr e) h3
        rw [nx, show (Int8.ofInt 15).toInt32 = nI (sgS s w) by rw [show sgS s w = 15 from if_pos hb]; decide, or_sh sg_lt (by omega)]
        exact ih (w + 1) (by omega)
  exact loop H.wo 0 (by omega)
theorem prpa_c (hl0 : l.1.stackTraces = false) (hR : ∀ e ∈ RR.2, M.2.2 e.1 e.2.1 = e.2.2) (hI : HI H) (hH : cHo 4 H M) (hs : spH H M) : AC l (pI pg 146) (fcV M (fun M' => GSr H (H.pe + 1) M' ∧ frG M M')) 0 0 [.ref 45, .ref 4, .ref 30, .ref 36] SHF M := by
  have w8 := hI.2.1
  have p6 := hI.1
  refine fw_of hl0 ⟨by decide +kernel, by decide +kernel, by decide +kernel⟩ rfl ?_
  refine prpa_0 hR hl0 _ (alpa_c hl0 hI hH) (fun y1 M1 e1 q1 => ?_)
  obtain ⟨rfl, rfl⟩ := q1
  have fH : ∀ {M1 : aM}, frG M M1 → cHo 4 H M1 := fun {M1} h => cH_eq hH (fun a k h1 h2 => h a k (by omega) (by omega) (fun e => by omega) (fun e => by omega))
  have fS : ∀ {M1 : aM}, frG M M1 → spH H M1 := fun {M1} h t ht => by
    rw [h 31 t (by decide) (by decide) (fun e => absurd e (by decide)) (fun e => absurd e (by decide))]
    exact hs t ht
  have fT : ∀ {M1 M2 M3 : aM}, frG M1 M2 → frG M2 M3 → frG M1 M3 := fun {M1 M2 M3} h h2 a k a1 a2 a3 a4 => (h2 a k a1 a2 a3 a4).trans (h a k a1 a2 a3 a4)
  have loop : ∀ (d a : Nat) (M1 : aM), a + d = H.pe → M1.2.2 = M.2.2 → frG M M1 → GSr H a M1 → AW l (pI pg 146) (fcV M (fun M' => GSr H (H.pe + 1) M' ∧ frG M M')) 0 0 9 [(5, .int (nI a)), (4, .int (nI (2 ^ H.pe - 1))), (3, .ref 36), (2, .ref 30), (1, .ref 4), (0, .ref 45)] [] SHF M1 := by
    intro d
    induction d with
    | zero =>
      intro a M1 ha h1 h2 h3
      have ea : a = H.pe := by omega
      subst ea
      have c1 := fH h2
      have le : M1.1 4 0 ≤ nI H.pe := by rw [c1.pe]; exact Int32.le_refl _
      have l2 : lfG H H.pe = 2 ^ H.pe - 1 := if_neg (Nat.lt_irrefl _)
      have hl := lfG_lt (a := H.pe) p6
      have cp : (M1.1 4 0).toNatClampNeg = H.pe := by rw [c1.pe, nI_clamp (by omega)]
      refine prpa_9 (by rw [h1]; exact hR) hl0 (fun y M' => (∀ a k, (a = 36 → k ≠ 3) → M'.1 a k = M1.1 a k) ∧ ∃ g, isS H H.pe g ∧ ((y.toInt = -1 ∧ ∀ w, w < H.wo → g w = 0) ∨ ∃ (S : Int) (la : Nat → Nat), 0 ≤ S ∧ S ≤ 100 ∧ y.toInt = 16777216 * S + sumR cdG la (2 ^ H.wo - 1) H.wo ∧ (∀ w, w < H.wo → la w < H.pe) ∧ ∀ w, w < H.wo → g w = H.sk (8 * la w + w))) (fun _ => ?_) (fun _ M2 y M' => M' = M2 ∧ ∃ g, isS H H.pe g ∧ y = Int32.ofNat (snN g H.wo)) (fun _ y2 M2 e2 q2 => ?_) (fun _ y2 M2 e2 q2 y4 M4 e4 q4 => by rw [c1.pe]; exact vp_in_nI (by omega) (by decide)) (fun _ _ y4 M4 y M' => nI (smF H.ch H.pe) = y ∧ aset M4 46 (M1.1 4 0).toNatClampNeg (.int y4) = M') (fun _ y2 M2 e2 q2 y4 M4 e4 q4 => ?_) (fun _ y2 M2 e2 q2 y4 M4 e4 q4 y7 M7 e7 q7 => ?_) (fun _ y2 M2 e2 q2 y4 M4 e4 q4 y7 M7 e7 q7 => ?_) (fun _ _ => True) (fun h => absurd le h) (fun _ _ _ _ => True) (fun h => absurd le h) (fun h => absurd le h) (fun h => absurd le h) (fun h => absurd le h)
      · have c := roda_c (l := l) (M := M1) (H := H) (lf := lfG H H.pe) hl0 (by rw [h1]; exact hR) hI c1 (fS h2) hl
        rw [← l2]
        refine AC.post hl0 (fun r sh' M' hp => ?_) c
        obtain ⟨r1, r2, z, r3, r4, f, r5, r6⟩ := hp
        obtain ⟨g, g1, g2⟩ := rk_isS (a := H.pe) hI r5
        rw [← r6] at g2
        exact ⟨r1, r2, z, r3, r4, g, g1, g2⟩
      · obtain ⟨q2, g, g1, g2⟩ := q2
        have c2 : cHo 4 H M2 := cH_eq c1 (fun a k h1 h2 => q2 a k (fun e => by omega))
        refine AC.post hl0 (fun r sh' M' hp => ?_) (sksa_c (l := l) (M := M2) hl0 (by rw [e2, h1]; exact hR) hI c2 g2)
        obtain ⟨r1, r2, z, r3, r4, r5⟩ := hp
        exact ⟨r1, r2, z, r3, r4, g, g1, r5⟩
      · obtain ⟨rfl, -⟩ := q4
        obtain ⟨q2, -⟩ := q2
        have c2 : cHo 4 H (aset M4 46 (M1.1 4 0).toNatClampNeg (.int y4)) := cH_eq c1 (fun a k h1 h2 => by rw [set_1, if_neg (by omega)]; exact q2 a k (fun e => by omega))
        exact alcA_c hl0 (fun e he => by show M4.2.2 e.1 e.2.1 = e.2.2; rw [e2, h1]; exact hR e (rk_RR e he)) hI c2
      · show vp_in (M4.1 4 0) 7
        obtain ⟨rfl, -⟩ := q4
        rw [q2.1 4 0 (fun e => by omega), c1.pe]
        exact vp_in_nI (by omega) (by decide)
      · obtain ⟨rfl, g, g1, rfl⟩ := q4
        obtain ⟨rfl, rfl⟩ := q7
        obtain ⟨q2, -⟩ := q2
        have cp2 : ((aset M4 46 (M1.1 4 0).toNatClampNeg (.int (Int32.ofNat (snN g H.wo)))).1 4 0).toNatClampNeg = H.pe := by
          show (M4.1 4 0).toNatClampNeg = H.pe
          rw [q2 4 0 (fun e => by omega)]
          exact cp
        rw [cp2, cp]
        have sm := hI.2.2.2.2.2.1
        have ec : (Int16.ofInt 1000).toInt32 - nI (smF H.ch H.pe) = nI (chG H H.pe) := by
          rw [show (Int16.ofInt 1000).toInt32 = nI 1000 by decide, show chG H H.pe = 1000 - smF H.ch H.pe from if_neg (Nat.lt_irrefl _)]
          exact nI_subN (by omega) (by omega)
        rw [ec]
        refine ⟨rfl, e2.trans h1, rfl, fun a ha => ?_, fun a k a1 a2 a3 a4 => ?_⟩
        · by_cases e : a = H.pe
          · rw [e]
            refine ⟨⟨g, g1, ?_⟩, ?_⟩
            · rw [set_1, if_neg (by decide), set_1, if_neg (by decide), set_1, if_pos rfl, if_pos rfl]
            · rw [set_1, if_neg (by decide), set_1, if_pos rfl, if_pos rfl]
          · obtain ⟨⟨f, f1, f2⟩, f3⟩ := h3 a (by omega)
            refine ⟨⟨f, f1, ?_⟩, ?_⟩
            · rw [set_1, if_neg (by decide), set_1, if_neg (by decide), set_1, if_pos rfl, if_neg e, q2 46 a (fun e => absurd e (by decide))]
              exact f2
            · rw [set_1, if_neg (by decide), set_1, if_pos rfl, if_neg e, set_1, if_neg (by decide), q2 47 a (fun e => absurd e (by decide))]
              exact f3
        · rw [set_1]
          have k3 : (aset (aset M4 46 H.pe (.int (Int32.ofNat (snN g H.wo)))) 47 H.pe (.int (nI (chG H H.pe)))).1 a k = M.1 a k := by
            rw [set_1, if_neg a2, set_1, if_neg a1, q2 a k a3]
            exact h2 a k a1 a2 a3 a4
          by_cases e : a = 45
          · rw [if_pos e, if_neg (a4 e)]
            exact k3
          · rw [if_neg e]
            exact k3
    | succ d ih =>
      intro a M1 ha h1 h2 h3
      have c1 := fH h2
      have ng : ¬ M1.1 4 0 ≤ nI a := by
        rw [c1.pe, nle (by omega) (by omega)]
        omega
      have al : a < H.pe := by omega
      have l2 : lfG H a = awg H.pe a := if_pos al
      have hl := lfG_lt (a := a) p6
      have ca : (nI a).toNatClampNeg = a := nI_clamp (by omega)
      refine prpa_9 (by rw [h1]; exact hR) hl0 (fun _ _ => True) (fun h => absurd h ng) (fun _ _ _ _ => True) (fun h => absurd h ng) (fun h => absurd h ng) (fun _ _ _ _ _ _ => True) (fun h => absurd h ng) (fun h => absurd h ng) (fun h => absurd h ng) (fun y M' => (∀ a k, (a = 36 → k ≠ 3) → M'.1 a k = M1.1 a k) ∧ ∃ g, isS H a g ∧ ((y.toInt = -1 ∧ ∀ w, w < H.wo → g w = 0) ∨ ∃ (S : Int) (la : Nat → Nat), 0 ≤ S ∧ S ≤ 100 ∧ y.toInt = 16777216 * S + sumR cdG la (2 ^ H.wo - 1) H.wo ∧ (∀ w, w < H.wo → la w < H.pe) ∧ ∀ w, w < H.wo → g w = H.sk (8 * la w + w))) (fun _ => ?_) (fun _ M11 y M' => M' = M11 ∧ ∃ g, isS H a g ∧ y = Int32.ofNat (snN g H.wo)) (fun _ y2 M2 e2 q2 => ?_) (fun _ y2 M2 e2 q2 y4 M4 e4 q4 => vp_in_nI (by omega) (by decide)) (fun _ y2 M2 e2 q2 y4 M4 e4 q4 => vp_in_nI (by omega) (by decide)) (fun _ y2 M2 e2 q2 y4 M4 e4 q4 => ?_)
      · have c := roda_c (l := l) (M := M1) (H := H) (lf := lfG H a) hl0 (by rw [h1]; exact hR) hI c1 (fS h2) hl
        rw [awg_c H.pe p6 a al, ← l2]
        refine AC.post hl0 (fun r sh' M' hp => ?_) c
        obtain ⟨r1, r2, z, r3, r4, f, r5, r6⟩ := hp
        obtain ⟨g, g1, g2⟩ := rk_isS (a := a) hI r5
        rw [← r6] at g2
        exact ⟨r1, r2, z, r3, r4, g, g1, g2⟩
      · obtain ⟨q2, g, g1, g2⟩ := q2
        have c2 : cHo 4 H M2 := cH_eq c1 (fun a k h1 h2 => q2 a k (fun e => by omega))
        refine AC.post hl0 (fun r sh' M' hp => ?_) (sksa_c (l := l) (M := M2) hl0 (by rw [e2, h1]; exact hR) hI c2 g2)
        obtain ⟨r1, r2, z, r3, r4, r5⟩ := hp
        exact ⟨r1, r2, z, r3, r4, g, g1, r5⟩
      · obtain ⟨rfl, g, g1, rfl⟩ := q4
        obtain ⟨q2, -⟩ := q2
        have ch : (aset M4 46 (nI a).toNatClampNeg (.int (Int32.ofNat (snN g H.wo)))).1 6 (nI a).toNatClampNeg = nI (chG H a) := by
          show M4.1 6 (nI a).toNatClampNeg = _
          rw [ca, q2 6 a (fun e => by omega), show chG H a = H.ch a from if_pos al]
          exact c1.ch a al
        rw [ch, ca, show nI a + Int32.ofInt 1 = nI (a + 1) from nI_1 a]
        refine ih (a + 1) _ (by omega) (e2.trans h1) (fun b k b1 b2 b3 b4 => ?_) (fun b hb => ?_)
        · rw [set_1, if_neg b2, set_1, if_neg b1, q2 b k b3]
          exact h2 b k b1 b2 b3 b4
        · by_cases e : b = a
          · rw [e]
            refine ⟨⟨g, g1, ?_⟩, ?_⟩
            · rw [set_1, if_neg (by decide), set_1, if_pos rfl, if_pos rfl]
            · rw [set_1, if_pos rfl, if_pos rfl]
          · obtain ⟨⟨f, f1, f2⟩, f3⟩ := h3 b (by omega)
            refine ⟨⟨f, f1, ?_⟩, ?_⟩
            · rw [set_1, if_neg (by decide), set_1, if_pos rfl, if_neg e, q2 46 b (fun e => absurd e (by decide))]
              exact f2
            · rw [set_1, if_pos rfl, if_neg e, set_1, if_neg (by decide), q2 47 b (fun e => absurd e (by decide))]
              exact f3
  exact loop H.pe 0 M (by omega) rfl (fun _ _ _ _ _ _ => rfl) (fun a ha => absurd ha (Nat.not_lt_zero _))
/-- how likely he is right -/
theorem lrta_c (hl0 : l.1.stackTraces = false) (hR : ∀ e ∈ RR.2, M.2.2 e.1 e.2.1 = e.2.2) (hI : HI H) (hH : cHo 4 H M) (hs : spH H M) (hG : GSt H M) {s : Nat} (hs2 : s < 256) : AC l (pI pg 145) (fcI M (fun y M' => y = nI (guV H s) ∧ GSt H M' ∧ frG M M')) 0 0 [.ref 45, .ref 4, .ref 30, .ref 36, .int (nI s)] SHF M := by
  have w8 := hI.2.1
  have p6 := hI.1
  refine fw_of hl0 ⟨by decide +kernel, by decide +kernel, by decide +kernel⟩ rfl ?_
  have rest : ∀ (M1 : aM), M1.2.2 = M.2.2 → frG M M1 → GSr H (H.pe + 1) M1 → AW l (pI pg 145) (fcI M (fun y M' => y = nI (guV H s) ∧ GSt H M' ∧ frG M M')) 0 0 14 [(4, .int (nI s)), (3, .ref 36), (2, .ref 30), (1, .ref 4), (0, .ref 45)] [] SHF M1 := by
    intro M1 h1 h2 h3
    have hR1 : ∀ e ∈ RR.2, M1.2.2 e.1 e.2.1 = e.2.2 := by rw [h1]; exact hR
    have c1 : cHo 4 H M1 := cH_eq hH (fun a k g1 g2 => h2 a k (by omega) (by omega) (fun e => by omega) (fun e => by omega))
    refine lrta_14 hR1 hl0 _ (siga_c hl0 hR1 hI c1 hs2) (fun y1 M2 e1 q1 => ?_)
    obtain ⟨rfl, rfl⟩ := q1
    have chl : ∀ a, chG H a ≤ 1000 := chG_le hI
    have cell : ∀ {a : Nat}, a ≤ H.pe → M2.1 47 (nI a).toNatClampNeg = nI (chG H a) := fun {a} ha => by
      rw [nI_clamp (by omega)]
      exact (h3 a (by omega)).2
    have like : ∀ {a b : Nat}, a ≤ H.pe → b ≤ H.pe → (M2.1 46 (nI a).toNatClampNeg &&& Int32.ofNat (snN (sgS s) H.wo) = M2.1 46 (nI b).toNatClampNeg &&& Int32.ofNat (snN (sgS s) H.wo) ↔ lkSg H s a b) := fun {a b} ha hb => by
      obtain ⟨⟨f, f1, f2⟩, -⟩ := h3 a (by omega)
      obtain ⟨⟨g, g1, g2⟩, -⟩ := h3 b (by omega)
      rw [nI_clamp (by omega), nI_clamp (by omega), f2, g2]
      exact like_c hI f1 g1
    have outer : ∀ (d a : Nat), a + d = H.pe + 1 → AW l (pI pg 145) (fcI M (fun y M' => y = nI (guV H s) ∧ GSt H M' ∧ frG M M')) 0 0 28 [(7, .int (nI a)), (6, .int (nI (gcV0 H s a))), (5, .int (Int32.ofNat (snN (sgS s) H.wo))), (1, .ref 4), (0, .ref 45)] [] SHF M2 := by
      intro d
      induction d with
      | zero =>
        intro a ha
        have ea : a = H.pe + 1 := by omega
        subst ea
        have lt : M2.1 4 0 < nI (H.pe + 1) := by
          rw [c1.pe, nlt (by omega) (by omega)]
          omega
        exact lrta_28 hR1 hl0 (fun _ => ⟨rfl, h1, _, rfl, rfl, Or.inr h3, h2⟩) (fun h => absurd lt h)
      | succ d ih =>
        intro a ha
        have nl : ¬ M2.1 4 0 < nI a := by
          rw [c1.pe, nlt (by omega) (by omega)]
          omega
        refine lrta_28 hR1 hl0 (fun h => absurd h nl) (fun _ => ?_)
        have gl := gc_le hI (s := s) (n := a) (by omega)
        have inner : ∀ (d2 o : Nat) (k : Int32), o + d2 = H.pe + 1 → ((k = Int32.ofInt 1 ∧ ∀ b, b < o → lkSg H s b a → (b < a → chG H b < chG H a) ∧ (a ≤ b → chG H b ≤ chG H a)) ∨ (k = Int32.ofInt 0 ∧ ∃ b, b < o ∧ lkSg H s b a ∧ ¬ ((b < a → chG H b < chG H a) ∧ (a ≤ b → chG H b ≤ chG H a)))) → AW l (pI pg 145) (fcI M (fun y M' => y = nI (guV H s) ∧ GSt H M' ∧ frG M M')) 0 0 43 [(9, .int (nI o)), (8, .int k), (7, .int (nI a)), (6, .int (nI (gcV0 H s a))), (5, .int (Int32.ofNat (snN (sgS s) H.wo))), (1, .ref 4), (0, .ref 45)] [] SHF M2 := by
          intro d2
          induction d2 with
          | zero =>
            intro o k ho hk
            have eo : o = H.pe + 1 := by omega
            subst eo
            have lt : M2.1 4 0 < nI (H.pe + 1) := by
              rw [c1.pe, nlt (by omega) (by omega)]
              omega
            have nx : nI a + Int32.ofInt 1 = nI (a + 1) := nI_1 a
            refine lrta_43 hR1 hl0 (fun _ h2 => ?_) (fun _ _ => vp_in_nI (by omega) (by decide)) (fun _ h2 => ?_) (fun h => absurd lt h) (fun h => absurd lt h) (fun h => absurd lt h) (fun h => absurd lt h) (fun h => absurd lt h) (fun h => absurd lt h) (fun h => absurd lt h) (fun h => absurd lt h) (fun h => absurd lt h) (fun h => absurd lt h)
            · obtain ⟨-, b, b1, b2, b3⟩ := hk.resolve_left (fun q => absurd (q.1.symm.trans h2) (by decide))
              have e : gcV0 H s (a + 1) = gcV0 H s a := by
                show gcV0 H s a + fiN (lkG (lkSg H s) (chG H) (H.pe + 1) a) (chG H a) = _
                rw [fiN_f (fun q => b3 (q b b1 b2)), Nat.add_zero]
              rw [nx, show nI (gcV0 H s a) + Int32.ofInt 0 = nI (gcV0 H s (a + 1)) by rw [e]; exact nI_add _ 0]
              exact ih (a + 1) (by omega)
            · obtain ⟨-, b⟩ := hk.resolve_right (fun q => h2 q.1)
              have e : gcV0 H s (a + 1) = gcV0 H s a + chG H a := by
                show gcV0 H s a + fiN (lkG (lkSg H s) (chG H) (H.pe + 1) a) (chG H a) = _
                rw [fiN_t (show lkG (lkSg H s) (chG H) (H.pe + 1) a from b)]
              rw [nx, cell (by omega), nI_add, ← e]
              exact ih (a + 1) (by omega)
          | succ d2 ih2 =>
            intro o k ho hk
            have nl2 : ¬ M2.1 4 0 < nI o := by
              rw [c1.pe, nlt (by omega) (by omega)]
              omega
            have nx : nI o + Int32.ofInt 1 = nI (o + 1) := nI_1 o
            have co := cell (a := o) (by omega)
            have ca := cell (a := a) (by omega)
            have c1o := chl o
            have c1a := chl a
            have good : (lkSg H s o a → (o < a → chG H o < chG H a) ∧ (a ≤ o → chG H o ≤ chG H a)) → AW l (pI pg 145) (fcI M (fun y M' => y = nI (guV H s) ∧ GSt H M' ∧ frG M M')) 0 0 43 [(9, .int (nI (o + 1))), (8, .int k), (7, .int (nI a)), (6, .int (nI (gcV0 H s a))), (5, .int (Int32.ofNat (snN (sgS s) H.wo))), (1, .ref 4), (0, .ref 45)] [] SHF M2 := by
              intro hg
              refine ih2 (o + 1) k (by omega) (hk.imp (fun q => ⟨q.1, fun b hb hl => ?_⟩) (fun ⟨q1, b, b1, b2⟩ => ⟨q1, b, by omega, b2⟩))
              by_cases e : b = o
              · rw [e] at hl ⊢
                exact hg hl
              · exact q.2 b (by omega) hl
            have bad : lkSg H s o a → ¬ ((o < a → chG H o < chG H a) ∧ (a ≤ o → chG H o ≤ chG H a)) → AW l (pI pg 145) (fcI M (fun y M' => y = nI (guV H s) ∧ GSt H M' ∧ frG M M')) 0 0 43 [(9, .int (nI (o + 1))), (8, .int (Int32.ofInt 0)), (7, .int (nI a)), (6, .int (nI (gcV0 H s a))), (5, .int (Int32.ofNat (snN (sgS s) H.wo))), (1, .ref 4), (0, .ref 45)] [] SHF M2 := fun hl hb => ih2 (o + 1) _ (by omega) (Or.inr ⟨rfl, o, by omega, hl, hb⟩)
            refine lrta_43 hR1 hl0 (fun h => absurd h nl2) (fun h => absurd h nl2) (fun h => absurd h nl2) (fun _ _ => vp_in_nI (by omega) (by decide)) (fun _ _ => vp_in_nI (by omega) (by decide)) (fun _ h6 h9 => ?_) (fun _ h6 h9 h13 => ?_) (fun _ h6 h9 h13 => ?_) (fun _ _ => vp_in_nI (by omega) (by decide)) (fun _ _ => vp_in_nI (by omega) (by decide)) (fun _ h6 h18 => ?_) (fun _ h6 h18 h22 => ?_) (fun _ h6 h18 h22 => ?_)
            · rw [nle (by omega) (by omega)] at h6
              rw [co, ca, nle (by omega) (by omega)] at h9
              rw [nx]
              exact good (fun _ => ⟨fun h => by omega, fun _ => h9⟩)
            · rw [nx]
              rw [like (by omega) (by omega)] at h13
              exact good (fun hl => absurd hl h13)
            · rw [nle (by omega) (by omega)] at h6
              rw [co, ca, nle (by omega) (by omega)] at h9
              rw [nx]
              rw [like (by omega) (by omega)] at h13
              exact bad h13 (fun q => h9 (q.2 h6))
            · rw [nle (by omega) (by omega)] at h6
              rw [co, ca, nlt (by omega) (by omega)] at h18
              rw [nx]
              exact good (fun _ => ⟨fun _ => h18, fun h => absurd h h6⟩)
            · rw [nx]
              rw [like (by omega) (by omega)] at h22
              exact good (fun hl => absurd hl h22)
            · rw [nle (by omega) (by omega)] at h6
              rw [co, ca, nlt (by omega) (by omega)] at h18
              rw [nx]
              rw [like (by omega) (by omega)] at h22
              exact bad h22 (fun q => h18 (q.1 (by omega)))
        exact inner (H.pe + 1) 0 _ (by omega) (Or.inl ⟨rfl, fun b hb => absurd hb (Nat.not_lt_zero _)⟩)
    exact outer (H.pe + 1) 0 (by omega)
  refine lrta_0 hR hl0 (fun h1 => ?_) (fun M' => GSr H (H.pe + 1) M' ∧ frG M M') (fun h1 => prpa_c hl0 hR hI hH hs) (fun h1 M3 e3 q3 => rest M3 e3 q3.2 q3.1)
  exact rest M rfl (fun _ _ _ _ _ _ => rfl) (hG.resolve_left h1)
end GUa
section GUb
variable {l : aL} {M : aM} {H : HS} {x : Int32}
theorem sksb_c (hl0 : l.1.stackTraces = false) (hR : ∀ e ∈ RRS.2, M.2.2 e.1 e.2.1 = e.2.2) (hI : HI H) (hH : cHo 17 H M) {f : Int64} {g : Nat → Nat} (hf : (f.toInt = -1 ∧ ∀ w, w < H.wo → g w = 0) ∨ ∃ (S : Int) (la : Nat → Nat), 0 ≤ S ∧ S ≤ 100 ∧ f.toInt = 16777216 * S + sumR cdG la (2 ^ H.wo - 1) H.wo ∧ (∀ w, w < H.wo → la w < H.pe) ∧ ∀ w, w < H.wo → g w = H.sk (8 * la w + w)) : AC l (pI pg 147) (fcI M (fun y M' => M' = M ∧ y = Int32.ofNat (snN g H.wo))) 0 0 [.ref 17, .long f] SHF M := by
  have w8 := hI.2.1
  have p6 := hI.1
  refine fw_of hl0 ⟨by decide +kernel, by decide +kernel, by decide +kernel⟩ rfl ?_
  refine sksb_0 hR hl0 ?_
  have loop : ∀ (d w : Nat), w + d = H.wo → AW l (pI pg 147) (fcI M (fun y M' => M' = M ∧ y = Int32.ofNat (snN g H.wo))) 0 0 5 [(4, .int (nI w)), (3, .int (Int32.ofNat (snN g w))), (1, .long f), (0, .ref 17)] [] SHF M := by
    intro d
    induction d with
    | zero =>
      intro w hw
      have ew : w = H.wo := by omega
      subst ew
      have le : M.1 17 1 ≤ nI H.wo := by rw [hH.wo]; exact Int32.le_refl _
      exact sksb_5 hR hl0 (fun _ => ⟨rfl, rfl, _, rfl, rfl, rfl⟩) (fun h => absurd le h) (fun _ _ => True) (fun h => absurd le h) (fun _ _ _ _ => True) (fun h => absurd le h) (fun h => absurd le h) (fun h => absurd le h) (fun h => absurd le h)
    | succ d ih =>
      intro w hw
      have ng : ¬ M.1 17 1 ≤ nI w := by
        rw [hH.wo, nle (by omega) (by omega)]
        omega
      have nx : nI w + Int32.ofInt 1 = nI (w + 1) := nI_1 w
      rcases hf with ⟨f1, f2⟩ | ⟨S, la, s1, s2, f1, f2, f3⟩
      · have yes : lg_cmp f (-1) = 0 := j_m1.mpr f1
        refine sksb_5 hR hl0 (fun h => absurd h ng) (fun _ _ => ⟨rfl, rfl, _, rfl, rfl, ?_⟩) (fun _ _ => True) (fun _ h => absurd yes h) (fun _ _ _ _ => True) (fun _ h => absurd yes h) (fun _ h => absurd yes h) (fun _ h => absurd yes h) (fun _ h => absurd yes h)
        rw [sn_0 w (fun z hz => f2 z (by omega)), sn_0 H.wo f2]
      · have c24 := cod_in (r := la) (t := 2 ^ H.wo - 1) w8
        have no : ¬ lg_cmp f (-1) = 0 := fun h => by
          have := j_m1.mp h
          omega
        obtain ⟨c1, c2⟩ := cod_N w8 (la := la)
        have lp := f2 w (by omega)
        have dg := codN_at (r := la) (w := w) (W := H.wo) (by omega) w8 (by omega)
        have hp : hpV (M.1 17 0) (nI (la w)) = Int32.ofInt 1 := by
          unfold hpV
          rw [hH.pe, if_neg (fun h => by rw [show (0 : Int32) = nI 0 from rfl, nlt (by omega) (by decide)] at h; omega), if_neg (fun h => by rw [nle (by omega) (by omega)] at h; omega)]
        have ix : nI (la w) * (Int8.ofInt 8).toInt32 + nI w = nI (8 * la w + w) := by rw [z_8, nI_mulN, nI_add, Nat.mul_comm]
        refine sksb_5 hR hl0 (fun h => absurd h ng) (fun _ h => absurd h no) (fun y M' => M' = M ∧ y = nI (codN la H.wo)) (fun _ _ => ?_) (fun _ M5 y M' => M' = M5 ∧ y = nI (la w)) (fun _ _ y5 M5 e5 q5 => ?_) (fun _ _ y5 M5 e5 q5 y7 M7 e7 q7 h10 => ?_) (fun _ _ y5 M5 e5 q5 y7 M7 e7 q7 h10 => ?_) (fun _ _ y5 M5 e5 q5 y7 M7 e7 q7 h10 => ?_)
        · refine AC.post hl0 (fun r sh' M' hp => ?_) (cof_c (l := l) (M := M) (f := f) hl0)
          obtain ⟨r1, r2, z, r3, r4, r5⟩ := hp
          exact ⟨r1, r2, z, r3, r4, by rw [r5, cof_v f1 s1 s2 c24.1 c24.2, c1]⟩
        · obtain ⟨rfl, rfl⟩ := q5
          refine AC.post hl0 (fun r sh' M' hp => ?_) (dri_c (l := l) (M := M5) (c := codN la H.wo) (w := w) hl0 c2 (by omega))
          obtain ⟨r1, r2, z, r3, r4, r5⟩ := hp
          rw [dg] at r5
          obtain ⟨-, r5⟩ := r5.resolve_left (fun q => by have := q.1; omega)
          exact ⟨r1, r2, z, r3, r4, by rw [r5]; exact congrArg nI (by omega)⟩
        · obtain ⟨rfl, -⟩ := q5
          obtain ⟨rfl, rfl⟩ := q7
          rw [hp] at h10
          exact absurd h10 (by decide)
        · obtain ⟨rfl, -⟩ := q5
          obtain ⟨rfl, rfl⟩ := q7
          rw [ix]
          exact vp_in_nI (by omega) (by decide)
        · obtain ⟨rfl, -⟩ := q5
          obtain ⟨rfl, rfl⟩ := q7
          have sk : M7.1 25 (nI (8 * la w + w)).toNatClampNeg = nI (g w) := by
            rw [nI_clamp (by omega), f3 w (by omega)]
            exact hH.sk (8 * la w + w) (by omega)
          have g16 : g w < 16 := by
            rw [f3 w (by omega)]
            have := (hI.2.2.2.2.2.2.2.1 (la w) w (by omega) (by omega)).1
            omega
          rw [nx, ix, sk, or_sh g16 (by omega)]
          exact ih (w + 1) (by omega)
  exact loop H.wo 0 (by omega)
theorem sigb_c (hl0 : l.1.stackTraces = false) (hR : ∀ e ∈ RRS.2, M.2.2 e.1 e.2.1 = e.2.2) (hI : HI H) (hH : cHo 17 H M) {s : Nat} (hs : s < 256) : AC l (pI pg 148) (fcI M (fun y M' => M' = M ∧ y = Int32.ofNat (snN (sgS s) H.wo))) 0 0 [.ref 17, .int (nI s)] SHF M := by
  have w8 := hI.2.1
  refine fw_of hl0 ⟨by decide +kernel, by decide +kernel, by decide +kernel⟩ rfl ?_
  refine sigb_0 hR hl0 ?_
  have loop : ∀ (d w : Nat), w + d = H.wo → AW l (pI pg 148) (fcI M (fun y M' => M' = M ∧ y = Int32.ofNat (snN (sgS s) H.wo))) 0 0 4 [(3, .int (nI w)), (2, .int (Int32.ofNat (snN (sgS s) w))), (1, .int (nI s)), (0, .ref 17)] [] SHF M := by
    intro d
    induction d with
    | zero =>
      intro w hw
      have ew : w = H.wo := by omega
      subst ew
      have le : M.1 17 1 ≤ nI H.wo := by rw [hH.wo]; exact Int32.le_refl _
      exact sigb_4 hR hl0 (fun _ => ⟨rfl, rfl, _, rfl, rfl, rfl⟩) (fun h => absurd le h) (fun h => absurd le h)
    | succ d ih =>
      intro w hw
      have ng : ¬ M.1 17 1 ≤ nI w := by
        rw [hH.wo, nle (by omega) (by omega)]
        omega
      have nx : nI w + Int32.ofInt 1 = nI (w + 1) := nI_1 w
      refine sigb_4 hR hl0 (fun h => absurd h ng) (fun _ h3 => ?_) (fun _ h3 => ?_)
      · rw [bitF (by omega) (by omega)] at h3
        rw [nx]
        have e : snN (sgS s) (w + 1) = snN (sgS s) w := by
          show snN (sgS s) w ||| (sgS s w <<< (4 * w)) = _
          rw [show sgS s w = 0 from if_neg (by rw [h3]; decide), Nat.zero_shiftLeft, Nat.or_zero]
        rw [← e]
        exact ih (w + 1) (by omega)
      · have hb : s.testBit w = true := by
          cases e : s.testBit w with
          | true => rfl
          | false => exact absurd ((bitF (by omega) (by omega)).mpr e) h3
        rw [nx, show (Int8.ofInt 15).toInt32 = nI (sgS s w) by rw [show sgS s w = 15 from if_pos hb]; decide, or_sh sg_lt (by omega)]
        exact ih (w + 1) (by omega)
  exact loop H.wo 0 (by omega)
theorem prpb_c (hl0 : l.1.stackTraces = false) (hR : ∀ e ∈ RRS.2, M.2.2 e.1 e.2.1 = e.2.2) (hI : HI H) (hH : cHo 17 H M) (hs : spH H M) : AC l (pI pg 146) (fcV M (fun M' => GSr H (H.pe + 1) M' ∧ frG M M')) 0 0 [.ref 45, .ref 17, .ref 30, .ref 36] SHF M := by
  have w8 := hI.2.1
  have p6 := hI.1
  refine fw_of hl0 ⟨by decide +kernel, by decide +kernel, by decide +kernel⟩ rfl ?_
  refine prpb_0 hR hl0 _ (alpb_c hl0 hI hH) (fun y1 M1 e1 q1 => ?_)
  obtain ⟨rfl, rfl⟩ := q1
  have fH : ∀ {M1 : aM}, frG M M1 → cHo 17 H M1 := fun {M1} h => cH_eq hH (fun a k h1 h2 => h a k (by omega) (by omega) (fun e => by omega) (fun e => by omega))
  have fS : ∀ {M1 : aM}, frG M M1 → spH H M1 := fun {M1} h t ht => by
    rw [h 31 t (by decide) (by decide) (fun e => absurd e (by decide)) (fun e => absurd e (by decide))]
    exact hs t ht
  have fT : ∀ {M1 M2 M3 : aM}, frG M1 M2 → frG M2 M3 → frG M1 M3 := fun {M1 M2 M3} h h2 a k a1 a2 a3 a4 => (h2 a k a1 a2 a3 a4).trans (h a k a1 a2 a3 a4)
  have loop : ∀ (d a : Nat) (M1 : aM), a + d = H.pe → M1.2.2 = M.2.2 → frG M M1 → GSr H a M1 → AW l (pI pg 146) (fcV M (fun M' => GSr H (H.pe + 1) M' ∧ frG M M')) 0 0 9 [(5, .int (nI a)), (4, .int (nI (2 ^ H.pe - 1))), (3, .ref 36), (2, .ref 30), (1, .ref 17), (0, .ref 45)] [] SHF M1 := by
    intro d
    induction d with
    | zero =>
      intro a M1 ha h1 h2 h3
      have ea : a = H.pe := by omega
      subst ea
      have c1 := fH h2
      have le : M1.1 17 0 ≤ nI H.pe := by rw [c1.pe]; exact Int32.le_refl _
      have l2 : lfG H H.pe = 2 ^ H.pe - 1 := if_neg (Nat.lt_irrefl _)
      have hl := lfG_lt (a := H.pe) p6
      have cp : (M1.1 17 0).toNatClampNeg = H.pe := by rw [c1.pe, nI_clamp (by omega)]
      refine prpb_9 (by rw [h1]; exact hR) hl0 (fun y M' => (∀ a k, (a = 36 → k ≠ 3) → M'.1 a k = M1.1 a k) ∧ ∃ g, isS H H.pe g ∧ ((y.toInt = -1 ∧ ∀ w, w < H.wo → g w = 0) ∨ ∃ (S : Int) (la : Nat → Nat), 0 ≤ S ∧ S ≤ 100 ∧ y.toInt = 16777216 * S + sumR cdG la (2 ^ H.wo - 1) H.wo ∧ (∀ w, w < H.wo → la w < H.pe) ∧ ∀ w, w < H.wo → g w = H.sk (8 * la w + w))) (fun _ => ?_) (fun _ M2 y M' => M' = M2 ∧ ∃ g, isS H H.pe g ∧ y = Int32.ofNat (snN g H.wo)) (fun _ y2 M2 e2 q2 => ?_) (fun _ y2 M2 e2 q2 y4 M4 e4 q4 => by rw [c1.pe]; exact vp_in_nI (by omega) (by decide)) (fun _ _ y4 M4 y M' => nI (smF H.ch H.pe) = y ∧ aset M4 46 (M1.1 17 0).toNatClampNeg (.int y4) = M') (fun _ y2 M2 e2 q2 y4 M4 e4 q4 => ?_) (fun _ y2 M2 e2 q2 y4 M4 e4 q4 y7 M7 e7 q7 => ?_) (fun _ y2 M2 e2 q2 y4 M4 e4 q4 y7 M7 e7 q7 => ?_) (fun _ _ => True) (fun h => absurd le h) (fun _ _ _ _ => True) (fun h => absurd le h) (fun h => absurd le h) (fun h => absurd le h) (fun h => absurd le h)
      · have c := rodb_c (l := l) (M := M1) (H := H) (lf := lfG H H.pe) hl0 (by rw [h1]; exact hR) hI c1 (fS h2) hl
        rw [← l2]
        refine AC.post hl0 (fun r sh' M' hp => ?_) c
        obtain ⟨r1, r2, z, r3, r4, f, r5, r6⟩ := hp
        obtain ⟨g, g1, g2⟩ := rk_isS (a := H.pe) hI r5
        rw [← r6] at g2
        exact ⟨r1, r2, z, r3, r4, g, g1, g2⟩
      · obtain ⟨q2, g, g1, g2⟩ := q2
        have c2 : cHo 17 H M2 := cH_eq c1 (fun a k h1 h2 => q2 a k (fun e => by omega))
        refine AC.post hl0 (fun r sh' M' hp => ?_) (sksb_c (l := l) (M := M2) hl0 (by rw [e2, h1]; exact hR) hI c2 g2)
        obtain ⟨r1, r2, z, r3, r4, r5⟩ := hp
        exact ⟨r1, r2, z, r3, r4, g, g1, r5⟩
      · obtain ⟨rfl, -⟩ := q4
        obtain ⟨q2, -⟩ := q2
        have c2 : cHo 17 H (aset M4 46 (M1.1 17 0).toNatClampNeg (.int y4)) := cH_eq c1 (fun a k h1 h2 => by rw [set_1, if_neg (by omega)]; exact q2 a k (fun e => by omega))
        exact alcB_c hl0 (fun e he => by show M4.2.2 e.1 e.2.1 = e.2.2; rw [e2, h1]; exact hR e (rk_RRS e he)) hI c2
      · show vp_in (M4.1 17 0) 7
        obtain ⟨rfl, -⟩ := q4
        rw [q2.1 17 0 (fun e => by omega), c1.pe]
        exact vp_in_nI (by omega) (by decide)
      · obtain ⟨rfl, g, g1, rfl⟩ := q4
        obtain ⟨rfl, rfl⟩ := q7
        obtain ⟨q2, -⟩ := q2
        have cp2 : ((aset M4 46 (M1.1 17 0).toNatClampNeg (.int (Int32.ofNat (snN g H.wo)))).1 17 0).toNatClampNeg = H.pe := by
          show (M4.1 17 0).toNatClampNeg = H.pe
          rw [q2 17 0 (fun e => by omega)]
          exact cp
        rw [cp2, cp]
        have sm := hI.2.2.2.2.2.1
        have ec : (Int16.ofInt 1000).toInt32 - nI (smF H.ch H.pe) = nI (chG H H.pe) := by
          rw [show (Int16.ofInt 1000).toInt32 = nI 1000 by decide, show chG H H.pe = 1000 - smF H.ch H.pe from if_neg (Nat.lt_irrefl _)]
          exact nI_subN (by omega) (by omega)
        rw [ec]
        refine ⟨rfl, e2.trans h1, rfl, fun a ha => ?_, fun a k a1 a2 a3 a4 => ?_⟩
        · by_cases e : a = H.pe
          · rw [e]
            refine ⟨⟨g, g1, ?_⟩, ?_⟩
            · rw [set_1, if_neg (by decide), set_1, if_neg (by decide), set_1, if_pos rfl, if_pos rfl]
            · rw [set_1, if_neg (by decide), set_1, if_pos rfl, if_pos rfl]
          · obtain ⟨⟨f, f1, f2⟩, f3⟩ := h3 a (by omega)
            refine ⟨⟨f, f1, ?_⟩, ?_⟩
            · rw [set_1, if_neg (by decide), set_1, if_neg (by decide), set_1, if_pos rfl, if_neg e, q2 46 a (fun e => absurd e (by decide))]
              exact f2
            · rw [set_1, if_neg (by decide), set_1, if_pos rfl, if_neg e, set_1, if_neg (by decide), q2 47 a (fun e => absurd e (by decide))]
              exact f3
        · rw [set_1]
          have k3 : (aset (aset M4 46 H.pe (.int (Int32.ofNat (snN g H.wo)))) 47 H.pe (.int (nI (chG H H.pe)))).1 a k = M.1 a k := by
            rw [set_1, if_neg a2, set_1, if_neg a1, q2 a k a3]
            exact h2 a k a1 a2 a3 a4
          by_cases e : a = 45
          · rw [if_pos e, if_neg (a4 e)]
            exact k3
          · rw [if_neg e]
            exact k3
    | succ d ih =>
      intro a M1 ha h1 h2 h3
      have c1 := fH h2
      have ng : ¬ M1.1 17 0 ≤ nI a := by
        rw [c1.pe, nle (by omega) (by omega)]
        omega
      have al : a < H.pe := by omega
      have l2 : lfG H a = awg H.pe a := if_pos al
      have hl := lfG_lt (a := a) p6
      have ca : (nI a).toNatClampNeg = a := nI_clamp (by omega)
      refine prpb_9 (by rw [h1]; exact hR) hl0 (fun _ _ => True) (fun h => absurd h ng) (fun _ _ _ _ => True) (fun h => absurd h ng) (fun h => absurd h ng) (fun _ _ _ _ _ _ => True) (fun h => absurd h ng) (fun h => absurd h ng) (fun h => absurd h ng) (fun y M' => (∀ a k, (a = 36 → k ≠ 3) → M'.1 a k = M1.1 a k) ∧ ∃ g, isS H a g ∧ ((y.toInt = -1 ∧ ∀ w, w < H.wo → g w = 0) ∨ ∃ (S : Int) (la : Nat → Nat), 0 ≤ S ∧ S ≤ 100 ∧ y.toInt = 16777216 * S + sumR cdG la (2 ^ H.wo - 1) H.wo ∧ (∀ w, w < H.wo → la w < H.pe) ∧ ∀ w, w < H.wo → g w = H.sk (8 * la w + w))) (fun _ => ?_) (fun _ M11 y M' => M' = M11 ∧ ∃ g, isS H a g ∧ y = Int32.ofNat (snN g H.wo)) (fun _ y2 M2 e2 q2 => ?_) (fun _ y2 M2 e2 q2 y4 M4 e4 q4 => vp_in_nI (by omega) (by decide)) (fun _ y2 M2 e2 q2 y4 M4 e4 q4 => vp_in_nI (by omega) (by decide)) (fun _ y2 M2 e2 q2 y4 M4 e4 q4 => ?_)
      · have c := rodb_c (l := l) (M := M1) (H := H) (lf := lfG H a) hl0 (by rw [h1]; exact hR) hI c1 (fS h2) hl
        rw [awg_c H.pe p6 a al, ← l2]
        refine AC.post hl0 (fun r sh' M' hp => ?_) c
        obtain ⟨r1, r2, z, r3, r4, f, r5, r6⟩ := hp
        obtain ⟨g, g1, g2⟩ := rk_isS (a := a) hI r5
        rw [← r6] at g2
        exact ⟨r1, r2, z, r3, r4, g, g1, g2⟩
      · obtain ⟨q2, g, g1, g2⟩ := q2
        have c2 : cHo 17 H M2 := cH_eq c1 (fun a k h1 h2 => q2 a k (fun e => by omega))
        refine AC.post hl0 (fun r sh' M' hp => ?_) (sksb_c (l := l) (M := M2) hl0 (by rw [e2, h1]; exact hR) hI c2 g2)
        obtain ⟨r1, r2, z, r3, r4, r5⟩ := hp
        exact ⟨r1, r2, z, r3, r4, g, g1, r5⟩
      · obtain ⟨rfl, g, g1, rfl⟩ := q4
        obtain ⟨q2, -⟩ := q2
        have ch : (aset M4 46 (nI a).toNatClampNeg (.int (Int32.ofNat (snN g H.wo)))).1 19 (nI a).toNatClampNeg = nI (chG H a) := by
          show M4.1 19 (nI a).toNatClampNeg = _
          rw [ca, q2 19 a (fun e => by omega), show chG H a = H.ch a from if_pos al]
          exact c1.ch a al
        rw [ch, ca, show nI a + Int32.ofInt 1 = nI (a + 1) from nI_1 a]
        refine ih (a + 1) _ (by omega) (e2.trans h1) (fun b k b1 b2 b3 b4 => ?_) (fun b hb => ?_)
        · rw [set_1, if_neg b2, set_1, if_neg b1, q2 b k b3]
          exact h2 b k b1 b2 b3 b4
        · by_cases e : b = a
          · rw [e]
            refine ⟨⟨g, g1, ?_⟩, ?_⟩
            · rw [set_1, if_neg (by decide), set_1, if_pos rfl, if_pos rfl]
            · rw [set_1, if_pos rfl, if_pos rfl]
          · obtain ⟨⟨f, f1, f2⟩, f3⟩ := h3 b (by omega)
            refine ⟨⟨f, f1, ?_⟩, ?_⟩
            · rw [set_1, if_neg (by decide), set_1, if_pos rfl, if_neg e, q2 46 b (fun e => absurd e (by decide))]
              exact f2
            · rw [set_1, if_pos rfl, if_neg e, set_1, if_neg (by decide), q2 47 b (fun e => absurd e (by decide))]
              exact f3
  exact loop H.pe 0 M (by omega) rfl (fun _ _ _ _ _ _ => rfl) (fun a ha => absurd ha (Nat.not_lt_zero _))
/-- how likely he is right -/
theorem lrtb_c (hl0 : l.1.stackTraces = false) (hR : ∀ e ∈ RRS.2, M.2.2 e.1 e.2.1 = e.2.2) (hI : HI H) (hH : cHo 17 H M) (hs : spH H M) (hG : GSt H M) {s : Nat} (hs2 : s < 256) : AC l (pI pg 145) (fcI M (fun y M' => y = nI (guV H s) ∧ GSt H M' ∧ frG M M')) 0 0 [.ref 45, .ref 17, .ref 30, .ref 36, .int (nI s)] SHF M := by
  have w8 := hI.2.1
  have p6 := hI.1
  refine fw_of hl0 ⟨by decide +kernel, by decide +kernel, by decide +kernel⟩ rfl ?_
  have rest : ∀ (M1 : aM), M1.2.2 = M.2.2 → frG M M1 → GSr H (H.pe + 1) M1 → AW l (pI pg 145) (fcI M (fun y M' => y = nI (guV H s) ∧ GSt H M' ∧ frG M M')) 0 0 14 [(4, .int (nI s)), (3, .ref 36), (2, .ref 30), (1, .ref 17), (0, .ref 45)] [] SHF M1 := by
    intro M1 h1 h2 h3
    have hR1 : ∀ e ∈ RRS.2, M1.2.2 e.1 e.2.1 = e.2.2 := by rw [h1]; exact hR
    have c1 : cHo 17 H M1 := cH_eq hH (fun a k g1 g2 => h2 a k (by omega) (by omega) (fun e => by omega) (fun e => by omega))
    refine lrtb_14 hR1 hl0 _ (sigb_c hl0 hR1 hI c1 hs2) (fun y1 M2 e1 q1 => ?_)
    obtain ⟨rfl, rfl⟩ := q1
    have chl : ∀ a, chG H a ≤ 1000 := chG_le hI
    have cell : ∀ {a : Nat}, a ≤ H.pe → M2.1 47 (nI a).toNatClampNeg = nI (chG H a) := fun {a} ha => by
      rw [nI_clamp (by omega)]
      exact (h3 a (by omega)).2
    have like : ∀ {a b : Nat}, a ≤ H.pe → b ≤ H.pe → (M2.1 46 (nI a).toNatClampNeg &&& Int32.ofNat (snN (sgS s) H.wo) = M2.1 46 (nI b).toNatClampNeg &&& Int32.ofNat (snN (sgS s) H.wo) ↔ lkSg H s a b) := fun {a b} ha hb => by
      obtain ⟨⟨f, f1, f2⟩, -⟩ := h3 a (by omega)
      obtain ⟨⟨g, g1, g2⟩, -⟩ := h3 b (by omega)
      rw [nI_clamp (by omega), nI_clamp (by omega), f2, g2]
      exact like_c hI f1 g1
    have outer : ∀ (d a : Nat), a + d = H.pe + 1 → AW l (pI pg 145) (fcI M (fun y M' => y = nI (guV H s) ∧ GSt H M' ∧ frG M M')) 0 0 28 [(7, .int (nI a)), (6, .int (nI (gcV0 H s a))), (5, .int (Int32.ofNat (snN (sgS s) H.wo))), (1, .ref 17), (0, .ref 45)] [] SHF M2 := by
      intro d
      induction d with
      | zero =>
        intro a ha
        have ea : a = H.pe + 1 := by omega
        subst ea
        have lt : M2.1 17 0 < nI (H.pe + 1) := by
          rw [c1.pe, nlt (by omega) (by omega)]
          omega
        exact lrtb_28 hR1 hl0 (fun _ => ⟨rfl, h1, _, rfl, rfl, Or.inr h3, h2⟩) (fun h => absurd lt h)
      | succ d ih =>
        intro a ha
        have nl : ¬ M2.1 17 0 < nI a := by
          rw [c1.pe, nlt (by omega) (by omega)]
          omega
        refine lrtb_28 hR1 hl0 (fun h => absurd h nl) (fun _ => ?_)
        have gl := gc_le hI (s := s) (n := a) (by omega)
        have inner : ∀ (d2 o : Nat) (k : Int32), o + d2 = H.pe + 1 → ((k = Int32.ofInt 1 ∧ ∀ b, b < o → lkSg H s b a → (b < a → chG H b < chG H a) ∧ (a ≤ b → chG H b ≤ chG H a)) ∨ (k = Int32.ofInt 0 ∧ ∃ b, b < o ∧ lkSg H s b a ∧ ¬ ((b < a → chG H b < chG H a) ∧ (a ≤ b → chG H b ≤ chG H a)))) → AW l (pI pg 145) (fcI M (fun y M' => y = nI (guV H s) ∧ GSt H M' ∧ frG M M')) 0 0 43 [(9, .int (nI o)), (8, .int k), (7, .int (nI a)), (6, .int (nI (gcV0 H s a))), (5, .int (Int32.ofNat (snN (sgS s) H.wo))), (1, .ref 17), (0, .ref 45)] [] SHF M2 := by
          intro d2
          induction d2 with
          | zero =>
            intro o k ho hk
            have eo : o = H.pe + 1 := by omega
            subst eo
            have lt : M2.1 17 0 < nI (H.pe + 1) := by
              rw [c1.pe, nlt (by omega) (by omega)]
              omega
            have nx : nI a + Int32.ofInt 1 = nI (a + 1) := nI_1 a
            refine lrtb_43 hR1 hl0 (fun _ h2 => ?_) (fun _ _ => vp_in_nI (by omega) (by decide)) (fun _ h2 => ?_) (fun h => absurd lt h) (fun h => absurd lt h) (fun h => absurd lt h) (fun h => absurd lt h) (fun h => absurd lt h) (fun h => absurd lt h) (fun h => absurd lt h) (fun h => absurd lt h) (fun h => absurd lt h) (fun h => absurd lt h)
            · obtain ⟨-, b, b1, b2, b3⟩ := hk.resolve_left (fun q => absurd (q.1.symm.trans h2) (by decide))
              have e : gcV0 H s (a + 1) = gcV0 H s a := by
                show gcV0 H s a + fiN (lkG (lkSg H s) (chG H) (H.pe + 1) a) (chG H a) = _
                rw [fiN_f (fun q => b3 (q b b1 b2)), Nat.add_zero]
              rw [nx, show nI (gcV0 H s a) + Int32.ofInt 0 = nI (gcV0 H s (a + 1)) by rw [e]; exact nI_add _ 0]
              exact ih (a + 1) (by omega)
            · obtain ⟨-, b⟩ := hk.resolve_right (fun q => h2 q.1)
              have e : gcV0 H s (a + 1) = gcV0 H s a + chG H a := by
                show gcV0 H s a + fiN (lkG (lkSg H s) (chG H) (H.pe + 1) a) (chG H a) = _
                rw [fiN_t (show lkG (lkSg H s) (chG H) (H.pe + 1) a from b)]
              rw [nx, cell (by omega), nI_add, ← e]
              exact ih (a + 1) (by omega)
          | succ d2 ih2 =>
            intro o k ho hk
            have nl2 : ¬ M2.1 17 0 < nI o := by
              rw [c1.pe, nlt (by omega) (by omega)]
              omega
            have nx : nI o + Int32.ofInt 1 = nI (o + 1) := nI_1 o
            have co := cell (a := o) (by omega)
            have ca := cell (a := a) (by omega)
            have c1o := chl o
            have c1a := chl a
            have good : (lkSg H s o a → (o < a → chG H o < chG H a) ∧ (a ≤ o → chG H o ≤ chG H a)) → AW l (pI pg 145) (fcI M (fun y M' => y = nI (guV H s) ∧ GSt H M' ∧ frG M M')) 0 0 43 [(9, .int (nI (o + 1))), (8, .int k), (7, .int (nI a)), (6, .int (nI (gcV0 H s a))), (5, .int (Int32.ofNat (snN (sgS s) H.wo))), (1, .ref 17), (0, .ref 45)] [] SHF M2 := by
              intro hg
              refine ih2 (o + 1) k (by omega) (hk.imp (fun q => ⟨q.1, fun b hb hl => ?_⟩) (fun ⟨q1, b, b1, b2⟩ => ⟨q1, b, by omega, b2⟩))
              by_cases e : b = o
              · rw [e] at hl ⊢
                exact hg hl
              · exact q.2 b (by omega) hl
            have bad : lkSg H s o a → ¬ ((o < a → chG H o < chG H a) ∧ (a ≤ o → chG H o ≤ chG H a)) → AW l (pI pg 145) (fcI M (fun y M' => y = nI (guV H s) ∧ GSt H M' ∧ frG M M')) 0 0 43 [(9, .int (nI (o + 1))), (8, .int (Int32.ofInt 0)), (7, .int (nI a)), (6, .int (nI (gcV0 H s a))), (5, .int (Int32.ofNat (snN (sgS s) H.wo))), (1, .ref 17), (0, .ref 45)] [] SHF M2 := fun hl hb => ih2 (o + 1) _ (by omega) (Or.inr ⟨rfl, o, by omega, hl, hb⟩)
            refine lrtb_43 hR1 hl0 (fun h => absurd h nl2) (fun h => absurd h nl2) (fun h => absurd h nl2) (fun _ _ => vp_in_nI (by omega) (by decide)) (fun _ _ => vp_in_nI (by omega) (by decide)) (fun _ h6 h9 => ?_) (fun _ h6 h9 h13 => ?_) (fun _ h6 h9 h13 => ?_) (fun _ _ => vp_in_nI (by omega) (by decide)) (fun _ _ => vp_in_nI (by omega) (by decide)) (fun _ h6 h18 => ?_) (fun _ h6 h18 h22 => ?_) (fun _ h6 h18 h22 => ?_)
            · rw [nle (by omega) (by omega)] at h6
              rw [co, ca, nle (by omega) (by omega)] at h9
              rw [nx]
              exact good (fun _ => ⟨fun h => by omega, fun _ => h9⟩)
            · rw [nx]
              rw [like (by omega) (by omega)] at h13
              exact good (fun hl => absurd hl h13)
            · rw [nle (by omega) (by omega)] at h6
              rw [co, ca, nle (by omega) (by omega)] at h9
              rw [nx]
              rw [like (by omega) (by omega)] at h13
              exact bad h13 (fun q => h9 (q.2 h6))
            · rw [nle (by omega) (by omega)] at h6
              rw [co, ca, nlt (by omega) (by omega)] at h18
              rw [nx]
              exact good (fun _ => ⟨fun _ => h18, fun h => absurd h h6⟩)
            · rw [nx]
              rw [like (by omega) (by omega)] at h22
              exact good (fun hl => absurd hl h22)
            · rw [nle (by omega) (by omega)] at h6
              rw [co, ca, nlt (by omega) (by omega)] at h18
              rw [nx]
              rw [like (by omega) (by omega)] at h22
              exact bad h22 (fun q => h18 (q.1 (by omega)))
        exact inner (H.pe + 1) 0 _ (by omega) (Or.inl ⟨rfl, fun b hb => absurd hb (Nat.not_lt_zero _)⟩)
    exact outer (H.pe + 1) 0 (by omega)
  refine lrtb_0 hR hl0 (fun h1 => ?_) (fun M' => GSr H (H.pe + 1) M' ∧ frG M M') (fun h1 => prpb_c hl0 hR hI hH hs) (fun h1 M3 e3 q3 => rest M3 e3 q3.2 q3.1)
  exact rest M rfl (fun _ _ _ _ _ _ => rfl) (hG.resolve_left h1)
end GUb
section BEO
variable {H : HS} {m s : Nat}
/-- of the sets below s, of m works, the first of the greatest -/
def beO (H : HS) (m s : Nat) : Option Nat → Prop
  | none => ∀ t, t < s → pcN t ≠ m
  | some b => b < s ∧ pcN b = m ∧ ∀ t, t < s → pcN t = m → guV H t < guV H b ∨ (guV H t = guV H b ∧ b ≤ t)
theorem be_skip {v : Option Nat} (h : beO H m s v) (hn : pcN s ≠ m) : beO H m (s + 1) v := by
  cases v with
  | none =>
    intro t ht
    by_cases e : t = s
    · rw [e]; exact hn
    · exact h t (by omega)
  | some b =>
    refine ⟨Nat.lt_succ_of_lt h.1, h.2.1, fun t ht hp => ?_⟩
    by_cases e : t = s
    · rw [e] at hp; exact absurd hp hn
    · exact h.2.2 t (by omega) hp
theorem be_first (h : beO H m s none) (hp : pcN s = m) : beO H m (s + 1) (some s) := by
  refine ⟨Nat.lt_succ_self _, hp, fun t ht hp2 => ?_⟩
  by_cases e : t = s
  · rw [e]; exact Or.inr ⟨rfl, Nat.le_refl _⟩
  · exact absurd hp2 (h t (by omega))
theorem be_more {b : Nat} (h : beO H m s (some b)) (hp : pcN s = m) (hl : guV H b < guV H s) : beO H m (s + 1) (some s) := by
  refine ⟨Nat.lt_succ_self _, hp, fun t ht hp2 => ?_⟩
  by_cases e : t = s
  · rw [e]; exact Or.inr ⟨rfl, Nat.le_refl _⟩
  · have := h.2.2 t (by omega) hp2
    exact Or.inl (by omega)
theorem be_ge {b : Nat} (h : beO H m s (some b)) (hl : guV H s ≤ guV H b) : beO H m (s + 1) (some b) := by
  refine ⟨Nat.lt_succ_of_lt h.1, h.2.1, fun t ht hp => ?_⟩
  by_cases e : t = s
  · rw [e]
    have := h.1
    omega
  · exact h.2.2 t (by omega) hp
theorem be_u {b b' : Nat} (h : beO H m s (some b)) (h' : beO H m s (some b')) : b = b' := by
  have h1 := h.2.2 b' h'.1 h'.2.1
  have h2 := h'.2.2 b h.1 h.2.1
  omega
theorem pc_m : ∀ m, m ≤ 8 → pcN (2 ^ m - 1) = m := by decide +kernel
theorem be_all (hI : HI H) (hm : m < H.wo + 1) {v : Option Nat} (h : beO H m (2 ^ H.wo) v) : ∃ b, v = some b ∧ beO H m (2 ^ H.wo) (some b) := by
  have w8 := hI.2.1
  cases v with
  | none =>
    have P : 2 ^ m ≤ 2 ^ H.wo := Nat.pow_le_pow_right (by decide) (by omega)
    have := Nat.two_pow_pos m
    exact absurd (pc_m m (by omega)) (h (2 ^ m - 1) (by omega))
  | some b => exact ⟨b, rfl, h⟩
def beP (H : HS) (x z : Int32) : Prop := ∃ b, z = nI b ∧ beO H x.toNatClampNeg (2 ^ H.wo) (some b)
theorem beP_u {x : Int32} : ∀ y z, beP H x y → beP H x z → y = z := by
  rintro y z ⟨b, rfl, h⟩ ⟨b', rfl, h'⟩
  rw [be_u h h']
def PLo (H : HS) (x : Int32) (M : aM) : aP := fun r sh' M' => sh' = SHF ∧ ((¬ inN (2 ^ H.wo) x ∧ r = .inr "java/lang/IllegalArgumentException" ∧ M' = M) ∨ (inN (2 ^ H.wo) x ∧ ∃ y : Int32, r = .inl (some (.int y)) ∧ y = nI (guV H x.toNatClampNeg) ∧ GSt H M'))
def PBe (H : HS) (x : Int32) (M : aM) : aP := fun r sh' M' => sh' = SHF ∧ ((¬ inN (H.wo + 1) x ∧ r = .inr "java/lang/IllegalArgumentException" ∧ M' = M) ∨ (inN (H.wo + 1) x ∧ ∃ y : Int32, r = .inl (some (.int y)) ∧ beP H x y ∧ GSt H M'))
end BEO
section LOa
variable {l : aL} {M : aM} {H : HS} {x : Int32}
theorem loka_c (hl0 : l.1.stackTraces = false) (hJ : JR RR M) (hI : HI H) (hH : cHo 4 H M) (hs : spH H M) (hG : GSt H M) : AC l (pI pg 144) (PLo H x M) 2 12 [.ref 0, .int x] SHF M := by
  have w8 := hI.2.1
  have P8 := p2_8 w8
  refine fw_of hl0 ⟨by decide +kernel, by decide +kernel, by decide +kernel⟩ rfl ?_
  refine loka_0 (kc := 1) (ks := 6) hJ.2 hl0 _ (alwa_c hl0 w8 hH.wo) (fun y1 M1 y M' => y = nI (guV H x.toNatClampNeg) ∧ GSt H M') (fun y1 M1 e1 q1 h3 => ?_) (fun y1 M1 e1 q1 h3 y4 M4 e4 q4 => ?_) (fun y1 M1 e1 q1 h3 => ?_)
  · obtain ⟨rfl, rfl⟩ := q1
    have hx := (left_iff8 w8).mp h3
    have lx := inN_lt hx
    have c := lrta_c (l := l) (M := M1) (H := H) (s := x.toNatClampNeg) hl0 hJ.2 hI hH hs hG (by omega)
    rw [← inN_eq hx] at c
    refine AC.post hl0 (fun r sh' M' hp => ?_) c
    obtain ⟨r1, r2, z, r3, r4, r5, -⟩ := hp
    exact ⟨r1, r2, z, r3, r4, r5⟩
  · obtain ⟨rfl, rfl⟩ := q1
    exact ⟨rfl, Or.inr ⟨(left_iff8 w8).mp h3, _, rfl, q4⟩⟩
  · obtain ⟨rfl, rfl⟩ := q1
    exact ⟨rfl, Or.inl ⟨fun h => h3 ((left_iff8 w8).mpr h), rfl, rfl⟩⟩
theorem besa_c (hl0 : l.1.stackTraces = false) (hJ : JR RR M) (hI : HI H) (hH : cHo 4 H M) (hs : spH H M) (hG : GSt H M) : AC l (pI pg 150) (PBe H x M) 2 12 [.ref 0, .int x] SHF M := by
  have w8 := hI.2.1
  have P8 := p2_8 w8
  have wpos := Nat.two_pow_pos H.wo
  have z0 : (0 : Int32).toInt = 0 := by decide
  refine fw_of hl0 ⟨by decide +kernel, by decide +kernel, by decide +kernel⟩ rfl ?_
  refine besa_0 (kc := 1) (ks := 6) hJ.2 hl0 (fun h1 => ⟨rfl, Or.inl ⟨fun h => ?_, rfl, rfl⟩⟩) (fun h1 h3 => ?_) (fun h1 h3 => ⟨rfl, Or.inl ⟨fun h => h3 ?_, rfl, rfl⟩⟩)
  · have := h.1
    rw [Int32.lt_iff_toInt_lt] at h1
    omega
  · have hx : inN (H.wo + 1) x := by
      rw [Int32.lt_iff_toInt_lt] at h1
      rw [hH.wo, Int32.le_iff_toInt_le, nI_toInt (by omega)] at h3
      exact ⟨by omega, by omega⟩
    have lx := inN_lt hx
    have fH : ∀ {M1 : aM}, frG M M1 → cHo 4 H M1 := fun {M1} h => cH_eq hH (fun a k h1 h2 => h a k (by omega) (by omega) (fun e => by omega) (fun e => by omega))
    have fS : ∀ {M1 : aM}, frG M M1 → spH H M1 := fun {M1} h t ht => by
      rw [h 31 t (by decide) (by decide) (fun e => absurd e (by decide)) (fun e => absurd e (by decide))]
      exact hs t ht
    have loop : ∀ (d s : Nat) (v : Option Nat) (M1 : aM), s + d = 2 ^ H.wo → M1.2.2 = M.2.2 → frG M M1 → GSt H M1 → beO H x.toNatClampNeg s v → AW l (pI pg 150) (PBe H x M) (1 + 1) (6 + 6) 33 [(4, .int (nI s)), (3, .int (match v with | none => Int32.ofInt (-1) | some b => nI (guV H b))), (2, .int (match v with | none => Int32.ofInt 0 | some b => nI b)), (1, .int x), (0, .ref 0)] [] SHF M1 := by
      intro d
      induction d with
      | zero =>
        intro s v M1 hd g1 g2 g3 g4
        have es : s = 2 ^ H.wo := by omega
        subst es
        have c1 := fH g2
        have hR1 : ∀ e ∈ RR.2, M1.2.2 e.1 e.2.1 = e.2.2 := by rw [g1]; exact hJ.2
        have lt : nI (2 ^ H.wo - 1) < nI (2 ^ H.wo) := by
          rw [nlt (by omega) (by omega)]
          omega
        refine besa_33 hR1 hl0 (fun y M' => M' = M1 ∧ y = nI (2 ^ H.wo - 1)) (alwa_c hl0 w8 c1.wo) (fun y1 M2 e1 q1 h3 => ?_) (fun _ _ _ _ => True) (fun y1 M2 e1 q1 h3 => ?_) (fun y1 M2 e1 q1 h3 => ?_) (fun _ _ _ _ _ _ => True) (fun y1 M2 e1 q1 h3 => ?_) (fun y1 M2 e1 q1 h3 => ?_) (fun y1 M2 e1 q1 h3 => ?_)
        · obtain ⟨rfl, rfl⟩ := q1
          obtain ⟨b, rfl, hb⟩ := be_all hI lx g4
          exact ⟨rfl, Or.inr ⟨hx, _, rfl, ⟨b, rfl, hb⟩, g3⟩⟩
        all_goals
          obtain ⟨rfl, rfl⟩ := q1
          exact absurd lt h3
      | succ d ih =>
        intro s v M1 hd g1 g2 g3 g4
        have c1 := fH g2
        have hR1 : ∀ e ∈ RR.2, M1.2.2 e.1 e.2.1 = e.2.2 := by rw [g1]; exact hJ.2
        have nl : ¬ nI (2 ^ H.wo - 1) < nI s := by
          rw [nlt (by omega) (by omega)]
          omega
        have nx : nI s + Int32.ofInt 1 = nI (s + 1) := nI_1 s
        have p8 := pcN_le8 (k := s)
        have xe := inN_eq hx
        have px : nI (pcN s) = x ↔ pcN s = x.toNatClampNeg := by
          rw [xe, nI_clamp (by omega)]
          exact nI_eq (by omega) (by omega)
        have gul : ∀ b, guV H b ≤ 7000 := fun b => gc_le hI (by have := hI.1; omega)
        refine besa_33 hR1 hl0 (fun y M' => M' = M1 ∧ y = nI (2 ^ H.wo - 1)) (alwa_c hl0 w8 c1.wo) (fun y1 M2 e1 q1 h3 => ?_) (fun _ M2 y M' => M' = M2 ∧ y = nI (pcN s)) (fun y1 M2 e1 q1 h3 => ?_) (fun y1 M2 e1 q1 h3 y5 M5 e5 q5 h7 => ?_) (fun _ _ _ M5 y M' => y = nI (guV H s) ∧ GSt H M' ∧ frG M5 M') (fun y1 M2 e1 q1 h3 y5 M5 e5 q5 h7 => ?_) (fun y1 M2 e1 q1 h3 y5 M5 e5 q5 h7 y9 M9 e9 q9 h11 => ?_) (fun y1 M2 e1 q1 h3 y5 M5 e5 q5 h7 y9 M9 e9 q9 h11 => ?_)
        · obtain ⟨rfl, rfl⟩ := q1
          exact absurd h3 nl
        · obtain ⟨rfl, -⟩ := q1
          exact c21 hl0 (fun e2 he => by rw [g1]; exact rgR_ok hJ.2 (okR_RR.1 e2 he)) (by omega)
        · obtain ⟨rfl, -⟩ := q1
          obtain ⟨rfl, rfl⟩ := q5
          rw [px] at h7
          rw [nx]
          exact ih (s + 1) v M5 (by omega) g1 g2 g3 (be_skip g4 h7)
        · obtain ⟨rfl, -⟩ := q1
          obtain ⟨rfl, -⟩ := q5
          exact lrta_c hl0 hR1 hI c1 (fS g2) g3 (by omega)
        · obtain ⟨rfl, -⟩ := q1
          obtain ⟨rfl, rfl⟩ := q5
          obtain ⟨rfl, q10, q11⟩ := q9
          rw [px] at h7
          rw [nx]
          have fr : frG M M9 := fun a k a1 a2 a3 a4 => (q11 a k a1 a2 a3 a4).trans (g2 a k a1 a2 a3 a4)
          cases v with
          | none =>
            have := gul s
            exact absurd h11 (fun h => by rw [Int32.le_iff_toInt_le, nI_toInt (by omega), show (Int32.ofInt (-1)).toInt = -1 by decide] at h; omega)
          | some b =>
            have := gul s
            have := gul b
            have h11 : nI (guV H s) ≤ nI (guV H b) := h11
            rw [nle (by omega) (by omega)] at h11
            exact ih (s + 1) (some b) M9 (by omega) (e9.trans g1) fr q10 (be_ge g4 h11)
        · obtain ⟨rfl, -⟩ := q1
          obtain ⟨rfl, rfl⟩ := q5
          obtain ⟨rfl, q10, q11⟩ := q9
          rw [px] at h7
          rw [nx]
          have fr : frG M M9 := fun a k a1 a2 a3 a4 => (q11 a k a1 a2 a3 a4).trans (g2 a k a1 a2 a3 a4)
          refine ih (s + 1) (some s) M9 (by omega) (e9.trans g1) fr q10 ?_
          cases v with
          | none => exact be_first g4 h7
          | some b =>
            have := gul s
            have := gul b
            have h11 : ¬ nI (guV H s) ≤ nI (guV H b) := h11
            rw [nle (by omega) (by omega)] at h11
            exact be_more g4 h7 (by omega)
    exact loop (2 ^ H.wo) 0 none M (by omega) rfl (fun _ _ _ _ _ _ => rfl) hG (fun t ht => absurd ht (Nat.not_lt_zero _))
  · rw [hH.wo, Int32.le_iff_toInt_le, nI_toInt (by omega)]
    have := h.2
    omega
end LOa
section LOb
variable {l : aL} {M : aM} {H : HS} {x : Int32}
theorem lokb_c (hl0 : l.1.stackTraces = false) (hJ : JR RRS M) (hI : HI H) (hH : cHo 17 H M) (hs : spH H M) (hG : GSt H M) : AC l (pI pg 144) (PLo H x M) 2 12 [.ref 0, .int x] SHF M := by
  have w8 := hI.2.1
  have P8 := p2_8 w8
  refine fw_of hl0 ⟨by decide +kernel, by decide +kernel, by decide +kernel⟩ rfl ?_
  refine lokb_0 (kc := 1) (ks := 6) hJ.2 hl0 _ (alwb_c hl0 w8 hH.wo) (fun y1 M1 y M' => y = nI (guV H x.toNatClampNeg) ∧ GSt H M') (fun y1 M1 e1 q1 h3 => ?_) (fun y1 M1 e1 q1 h3 y4 M4 e4 q4 => ?_) (fun y1 M1 e1 q1 h3 => ?_)
  · obtain ⟨rfl, rfl⟩ := q1
    have hx := (left_iff8 w8).mp h3
    have lx := inN_lt hx
    have c := lrtb_c (l := l) (M := M1) (H := H) (s := x.toNatClampNeg) hl0 hJ.2 hI hH hs hG (by omega)
    rw [← inN_eq hx] at c
    refine AC.post hl0 (fun r sh' M' hp => ?_) c
    obtain ⟨r1, r2, z, r3, r4, r5, -⟩ := hp
    exact ⟨r1, r2, z, r3, r4, r5⟩
  · obtain ⟨rfl, rfl⟩ := q1
    exact ⟨rfl, Or.inr ⟨(left_iff8 w8).mp h3, _, rfl, q4⟩⟩
  · obtain ⟨rfl, rfl⟩ := q1
    exact ⟨rfl, Or.inl ⟨fun h => h3 ((left_iff8 w8).mpr h), rfl, rfl⟩⟩
theorem besb_c (hl0 : l.1.stackTraces = false) (hJ : JR RRS M) (hI : HI H) (hH : cHo 17 H M) (hs : spH H M) (hG : GSt H M) : AC l (pI pg 150) (PBe H x M) 2 12 [.ref 0, .int x] SHF M := by
  have w8 := hI.2.1
  have P8 := p2_8 w8
  have wpos := Nat.two_pow_pos H.wo
  have z0 : (0 : Int32).toInt = 0 := by decide
  refine fw_of hl0 ⟨by decide +kernel, by decide +kernel, by decide +kernel⟩ rfl ?_
  refine besb_0 (kc := 1) (ks := 6) hJ.2 hl0 (fun h1 => ⟨rfl, Or.inl ⟨fun h => ?_, rfl, rfl⟩⟩) (fun h1 h3 => ?_) (fun h1 h3 => ⟨rfl, Or.inl ⟨fun h => h3 ?_, rfl, rfl⟩⟩)
  · have := h.1
    rw [Int32.lt_iff_toInt_lt] at h1
    omega
  · have hx : inN (H.wo + 1) x := by
      rw [Int32.lt_iff_toInt_lt] at h1
      rw [hH.wo, Int32.le_iff_toInt_le, nI_toInt (by omega)] at h3
      exact ⟨by omega, by omega⟩
    have lx := inN_lt hx
    have fH : ∀ {M1 : aM}, frG M M1 → cHo 17 H M1 := fun {M1} h => cH_eq hH (fun a k h1 h2 => h a k (by omega) (by omega) (fun e => by omega) (fun e => by omega))
    have fS : ∀ {M1 : aM}, frG M M1 → spH H M1 := fun {M1} h t ht => by
      rw [h 31 t (by decide) (by decide) (fun e => absurd e (by decide)) (fun e => absurd e (by decide))]
      exact hs t ht
    have loop : ∀ (d s : Nat) (v : Option Nat) (M1 : aM), s + d = 2 ^ H.wo → M1.2.2 = M.2.2 → frG M M1 → GSt H M1 → beO H x.toNatClampNeg s v → AW l (pI pg 150) (PBe H x M) (1 + 1) (6 + 6) 33 [(4, .int (nI s)), (3, .int (match v with | none => Int32.ofInt (-1) | some b => nI (guV H b))), (2, .int (match v with | none => Int32.ofInt 0 | some b => nI b)), (1, .int x), (0, .ref 0)] [] SHF M1 := by
      intro d
      induction d with
      | zero =>
        intro s v M1 hd g1 g2 g3 g4
        have es : s = 2 ^ H.wo := by omega
        subst es
        have c1 := fH g2
        have hR1 : ∀ e ∈ RRS.2, M1.2.2 e.1 e.2.1 = e.2.2 := by rw [g1]; exact hJ.2
        have lt : nI (2 ^ H.wo - 1) < nI (2 ^ H.wo) := by
          rw [nlt (by omega) (by omega)]
          omega
        refine besb_33 hR1 hl0 (fun y M' => M' = M1 ∧ y = nI (2 ^ H.wo - 1)) (alwb_c hl0 w8 c1.wo) (fun y1 M2 e1 q1 h3 => ?_) (fun _ _ _ _ => True) (fun y1 M2 e1 q1 h3 => ?_) (fun y1 M2 e1 q1 h3 => ?_) (fun _ _ _ _ _ _ => True) (fun y1 M2 e1 q1 h3 => ?_) (fun y1 M2 e1 q1 h3 => ?_) (fun y1 M2 e1 q1 h3 => ?_)
        · obtain ⟨rfl, rfl⟩ := q1
          obtain ⟨b, rfl, hb⟩ := be_all hI lx g4
          exact ⟨rfl, Or.inr ⟨hx, _, rfl, ⟨b, rfl, hb⟩, g3⟩⟩
        all_goals
          obtain ⟨rfl, rfl⟩ := q1
          exact absurd lt h3
      | succ d ih =>
        intro s v M1 hd g1 g2 g3 g4
        have c1 := fH g2
        have hR1 : ∀ e ∈ RRS.2, M1.2.2 e.1 e.2.1 = e.2.2 := by rw [g1]; exact hJ.2
        have nl : ¬ nI (2 ^ H.wo - 1) < nI s := by
          rw [nlt (by omega) (by omega)]
          omega
        have nx : nI s + Int32.ofInt 1 = nI (s + 1) := nI_1 s
        have p8 := pcN_le8 (k := s)
        have xe := inN_eq hx
        have px : nI (pcN s) = x ↔ pcN s = x.toNatClampNeg := by
          rw [xe, nI_clamp (by omega)]
          exact nI_eq (by omega) (by omega)
        have gul : ∀ b, guV H b ≤ 7000 := fun b => gc_le hI (by have := hI.1; omega)
        refine besb_33 hR1 hl0 (fun y M' => M' = M1 ∧ y = nI (2 ^ H.wo - 1)) (alwb_c hl0 w8 c1.wo) (fun y1 M2 e1 q1 h3 => ?_) (fun _ M2 y M' => M' = M2 ∧ y = nI (pcN s)) (fun y1 M2 e1 q1 h3 => ?_) (fun y1 M2 e1 q1 h3 y5 M5 e5 q5 h7 => ?_) (fun _ _ _ M5 y M' => y = nI (guV H s) ∧ GSt H M' ∧ frG M5 M') (fun y1 M2 e1 q1 h3 y5 M5 e5 q5 h7 => ?_) (fun y1 M2 e1 q1 h3 y5 M5 e5 q5 h7 y9 M9 e9 q9 h11 => ?_) (fun y1 M2 e1 q1 h3 y5 M5 e5 q5 h7 y9 M9 e9 q9 h11 => ?_)
        · obtain ⟨rfl, rfl⟩ := q1
          exact absurd h3 nl
        · obtain ⟨rfl, -⟩ := q1
          exact c21 hl0 (fun e2 he => by rw [g1]; exact rgR_ok hJ.2 (okR_RRS.1 e2 he)) (by omega)
        · obtain ⟨rfl, -⟩ := q1
          obtain ⟨rfl, rfl⟩ := q5
          rw [px] at h7
          rw [nx]
          exact ih (s + 1) v M5 (by omega) g1 g2 g3 (be_skip g4 h7)
        · obtain ⟨rfl, -⟩ := q1
          obtain ⟨rfl, -⟩ := q5
          exact lrtb_c hl0 hR1 hI c1 (fS g2) g3 (by omega)
        · obtain ⟨rfl, -⟩ := q1
          obtain ⟨rfl, rfl⟩ := q5
          obtain ⟨rfl, q10, q11⟩ := q9
          rw [px] at h7
          rw [nx]
          have fr : frG M M9 := fun a k a1 a2 a3 a4 => (q11 a k a1 a2 a3 a4).trans (g2 a k a1 a2 a3 a4)
          cases v with
          | none =>
            have := gul s
            exact absurd h11 (fun h => by rw [Int32.le_iff_toInt_le, nI_toInt (by omega), show (Int32.ofInt (-1)).toInt = -1 by decide] at h; omega)
          | some b =>
            have := gul s
            have := gul b
            have h11 : nI (guV H s) ≤ nI (guV H b) := h11
            rw [nle (by omega) (by omega)] at h11
            exact ih (s + 1) (some b) M9 (by omega) (e9.trans g1) fr q10 (be_ge g4 h11)
        · obtain ⟨rfl, -⟩ := q1
          obtain ⟨rfl, rfl⟩ := q5
          obtain ⟨rfl, q10, q11⟩ := q9
          rw [px] at h7
          rw [nx]
          have fr : frG M M9 := fun a k a1 a2 a3 a4 => (q11 a k a1 a2 a3 a4).trans (g2 a k a1 a2 a3 a4)
          refine ih (s + 1) (some s) M9 (by omega) (e9.trans g1) fr q10 ?_
          cases v with
          | none => exact be_first g4 h7
          | some b =>
            have := gul s
            have := gul b
            have h11 : ¬ nI (guV H s) ≤ nI (guV H b) := h11
            rw [nle (by omega) (by omega)] at h11
            exact be_more g4 h7 (by omega)
    exact loop (2 ^ H.wo) 0 none M (by omega) rfl (fun _ _ _ _ _ _ => rfl) hG (fun t ht => absurd ht (Nat.not_lt_zero _))
  · rw [hH.wo, Int32.le_iff_toInt_le, nI_toInt (by omega)]
    have := h.2
    omega
end LOb
