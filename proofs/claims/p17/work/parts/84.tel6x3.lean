section LRNA
variable {l : aL} {M : aM} {H : HS}
theorem psoa_c (hl0 : l.1.stackTraces = false) (hI : HI H) (hR : ∀ e ∈ RR.2, M.2.2 e.1 e.2.1 = e.2.2) (hH : cHo 4 H M) {ts : Nat} (ht : ts < 256) : AC l (pI pg 135) (fcI M (fun y M' => M' = M ∧ y = nI (pnH H ts))) 0 0 [.ref 4, .int (nI ts)] SHF M := by
  have t8 := hI.2.2.1
  refine fw_of hl0 ⟨by decide +kernel, by decide +kernel, by decide +kernel⟩ rfl ?_
  refine psoa_0 hR hl0 ?_
  have loop : ∀ (d k : Nat), k + d = H.te → AW l (pI pg 135) (fcI M (fun y M' => M' = M ∧ y = nI (pnH H ts))) 0 0 4 [(3, .int (nI k)), (2, .int (nI (pnS H ts k))), (1, .int (nI ts)), (0, .ref 4)] [] SHF M := by
    intro d
    induction d with
    | zero =>
      intro k hk
      have ek : k = H.te := by omega
      subst ek
      have le : M.1 4 2 ≤ nI H.te := by rw [hH.te]; exact Int32.le_refl _
      exact psoa_4 hR hl0 (fun _ => ⟨rfl, rfl, _, rfl, rfl, rfl⟩) (fun h => absurd le h) (fun h => absurd le h) (fun h => absurd le h)
    | succ d ih =>
      intro k hk
      have ng : ¬ M.1 4 2 ≤ nI k := by
        rw [hH.te, nle (by omega) (by omega)]
        omega
      refine psoa_4 hR hl0 (fun h => absurd h ng) (fun _ h3 => ?_) (fun _ h3 => vp_in_nI (by omega) (by decide)) (fun _ h3 => ?_)
      · rw [bitF (by omega) (by omega)] at h3
        rw [show nI k + Int32.ofInt 1 = nI (k + 1) from nI_1 k, ← pnS_n (k := k) (fun q => by rw [h3] at q; cases q)]
        exact ih (k + 1) (by omega)
      · rw [bitF (by omega) (by omega)] at h3
        have hb : ts.testBit k = true := by
          cases e : ts.testBit k with
          | true => rfl
          | false => exact absurd e h3
        rw [show nI k + Int32.ofInt 1 = nI (k + 1) from nI_1 k, nI_clamp (by omega), show M.1 16 k = nI (H.t3 k) from hH.t3 k (by omega), nI_add, ← pnS_y hb]
        exact ih (k + 1) (by omega)
  exact loop H.te 0 (by omega)
theorem atca_c (hl0 : l.1.stackTraces = false) (t8 : H.te ≤ 8) (h : M.1 4 2 = nI H.te) : AC l (pI pg 133) (fcI M (fun y M' => M' = M ∧ y = nI (2 ^ H.te - 1))) 0 0 [.ref 4] SHF M := by
  refine fw_of hl0 ⟨by decide +kernel, by decide +kernel, by decide +kernel⟩ rfl ?_
  refine atca_0 hl0 ?_
  rw [h, fullW t8]
  exact ⟨rfl, rfl, _, rfl, rfl, rfl⟩
theorem seka_c (hl0 : l.1.stackTraces = false) (hR : ∀ e ∈ RR.2, M.2.2 e.1 e.2.1 = e.2.2) (hI : HI H) (hH : cHo 4 H M) (hs : ∀ t, t < 2 ^ H.wo → ((noC H H.wo t ∧ M.1 31 t = nI (sumL H H.wo t)) ∨ (¬ noC H H.wo t ∧ M.1 31 t = nI 99))) {f : Int64} (hf : ∀ i, i < 64 → bL f i = true → i < 2 ^ H.pe) : AC l (pI pg 132) (fcI M (fun y M' => frL M M' ∧ ∃ v, y = brV v ∧ lnO (hoW H f) (pnH H) (2 ^ H.te) v)) 0 0 [.ref 40, .ref 4, .ref 30, .long f] SHF M := by
  have t8 := hI.2.2.1
  have T8 := p2_8 t8
  have tpos := Nat.two_pow_pos H.te
  have z0 : (Int32.ofInt 0 : Int32) = 0 := by decide
  have n1 : ¬ (Int32.ofInt 1 : Int32) = 0 := by decide
  have fH : ∀ {M1 : aM}, frL M M1 → cHo 4 H M1 := fun {M1} h => cH_eq hH (fun a k h1 h2 => h a k (by omega) (by omega))
  have fs : ∀ {M1 : aM}, frL M M1 → ∀ t, t < 2 ^ H.wo → ((noC H H.wo t ∧ M1.1 31 t = nI (sumL H H.wo t)) ∨ (¬ noC H H.wo t ∧ M1.1 31 t = nI 99)) := fun {M1} h t ht => by
    rw [h 31 t (by decide) (by decide)]
    exact hs t ht
  have tr : ∀ {M1 M2 : aM}, frL M M1 → frL M1 M2 → frL M M2 := fun {M1 M2} h g a k a1 a2 => (g a k a1 a2).trans (h a k a1 a2)
  refine fw_of hl0 ⟨by decide +kernel, by decide +kernel, by decide +kernel⟩ rfl ?_
  refine seka_0 hR hl0 _ (atca_c hl0 t8 hH.te) (fun _ M1 y M' => frL M1 M' ∧ ((y = Int32.ofInt 1 ∧ hoW H f (2 ^ H.te - 1)) ∨ (y = Int32.ofInt 0 ∧ ¬ hoW H f (2 ^ H.te - 1)))) (fun y1 M1 e1 q1 => ?_) (fun y1 M1 e1 q1 y3 M3 e3 q3 h5 => ?_) (fun y1 M1 e1 q1 y3 M3 e3 q3 h5 => ?_)
  · obtain ⟨rfl, rfl⟩ := q1
    exact hwia_c hl0 hR hI hH hs hf (by omega)
  · obtain ⟨rfl, rfl⟩ := q1
    have all := (q3.2.resolve_right (fun q => h5 (q.1.trans z0))).2
    -- the last loop: all sets
    have l2 : ∀ (nd : Nat), nd < 2 ^ H.te → (∀ j, j < H.te → (nd.testBit j = true ↔ ¬ hoW H f ((2 ^ H.te - 1) ^^^ 2 ^ j))) → ∀ (d s : Nat) (v : Option Nat) (p g : Int32) (M2 : aM), s + d = 2 ^ H.te → M2.2.2 = M1.2.2 → frL M1 M2 → lnO (hoW H f) (pnH H) s v → ((v = none ∧ p = 2147483647) ∨ ∃ b, v = some b ∧ p = nI (pnH H b) ∧ g = nI b) → AW l (pI pg 132) (fcI M1 (fun y M' => frL M1 M' ∧ ∃ v, y = brV v ∧ lnO (hoW H f) (pnH H) (2 ^ H.te) v)) 0 0 78 [(9, .int (nI s)), (8, .int p), (7, .int g), (6, .int (nI nd)), (5, .int (nI (2 ^ H.te - 1))), (3, .long f), (2, .ref 30), (1, .ref 4), (0, .ref 40)] [] SHF M2 := by
      intro nd nd1 nd2 d
      induction d with
      | zero =>
        intro s v p g M2 hd g1 g2 hv hp
        have es : s = 2 ^ H.te := by omega
        subst es
        have lt : nI (2 ^ H.te - 1) < nI (2 ^ H.te) := by
          rw [nlt (by omega) (by omega)]
          omega
        refine seka_78 (by rw [g1]; exact hR) hl0 (fun _ => ?_) (fun _ _ => True) (fun h => absurd lt h) (fun h => absurd lt h) (fun h => absurd lt h) (fun _ _ _ _ => True) (fun h => absurd lt h) (fun h => absurd lt h) (fun h => absurd lt h)
        rcases hp with ⟨rfl, -⟩ | ⟨b, rfl, -, rfl⟩
        · exact absurd all (hv _ (by omega))
        · exact ⟨rfl, g1, _, rfl, g2, some b, rfl, hv⟩
      | succ d ih =>
        intro s v p g M2 hd g1 g2 hv hp
        have ng : ¬ nI (2 ^ H.te - 1) < nI s := by
          rw [nlt (by omega) (by omega)]
          omega
        have nx : nI s + Int32.ofInt 1 = nI (s + 1) := nI_1 s
        have hR2 : ∀ e ∈ RR.2, M2.2.2 e.1 e.2.1 = e.2.2 := by rw [g1]; exact hR
        have ps := pnH_le hI s
        refine seka_78 hR2 hl0 (fun h => absurd h ng) (fun y M' => M' = M2 ∧ y = nI (pnH H s)) (fun _ => psoa_c hl0 hI hR2 (fH g2) (by omega)) (fun _ y3 M3 e3 q3 h5 => ?_) (fun _ y3 M3 e3 q3 h5 h7 => ?_) (fun _ M3 y M' => frL M3 M' ∧ ((y = Int32.ofInt 1 ∧ hoW H f s) ∨ (y = Int32.ofInt 0 ∧ ¬ hoW H f s))) (fun _ y3 M3 e3 q3 h5 h7 => ?_) (fun _ y3 M3 e3 q3 h5 h7 y9 M9 e9 q9 h11 => ?_) (fun _ y3 M3 e3 q3 h5 h7 y9 M9 e9 q9 h11 => ?_)
        · obtain ⟨rfl, rfl⟩ := q3
          rw [and_nt nd (by omega) s (by omega)] at h5
          rw [nx]
          exact ih (s + 1) v p g _ (by omega) g1 g2 (ln_keep hv (nd_out (fun a b => hoW_up) nd1 (by omega) nd2 h5)) hp
        · obtain ⟨rfl, rfl⟩ := q3
          rw [nx]
          rcases hp with ⟨rfl, rfl⟩ | ⟨b, rfl, rfl, rfl⟩
          · exfalso
            rw [Int32.le_iff_toInt_le, nI_toInt (by omega), show (2147483647 : Int32).toInt = 2147483647 by decide] at h7
            omega
          · have pb := pnH_le hI b
            rw [nle (by omega) (by omega)] at h7
            exact ih (s + 1) (some b) _ _ _ (by omega) g1 g2 (ln_ge hv h7) (Or.inr ⟨b, rfl, rfl, rfl⟩)
        · obtain ⟨rfl, rfl⟩ := q3
          exact hwia_c hl0 hR2 hI (fH g2) (fs g2) hf (by omega)
        · obtain ⟨rfl, rfl⟩ := q3
          have hn := (q9.2.resolve_left (fun q => n1 (q.1.symm.trans h11))).2
          rw [nx]
          exact ih (s + 1) v p g _ (by omega) (e9.trans g1) (tr g2 q9.1) (ln_keep hv hn) hp
        · obtain ⟨rfl, rfl⟩ := q3
          have hy := (q9.2.resolve_right (fun q => h11 (q.1.trans z0))).2
          rw [nx]
          rcases hp with ⟨rfl, rfl⟩ | ⟨b, rfl, rfl, rfl⟩
          · exact ih (s + 1) (some s) _ _ _ (by omega) (e9.trans g1) (tr g2 q9.1) (ln_none hv hy) (Or.inr ⟨s, rfl, rfl, rfl⟩)
          · have pb := pnH_le hI b
            rw [nle (by omega) (by omega)] at h7
            exact ih (s + 1) (some s) _ _ _ (by omega) (e9.trans g1) (tr g2 q9.1) (ln_less hv hy (by omega)) (Or.inr ⟨s, rfl, rfl, rfl⟩)
    -- which teachings are needed
    have l1 : ∀ (d k v : Nat) (M2 : aM), k + d = H.te → M2.2.2 = M1.2.2 → frL M1 M2 → v < 2 ^ k → (∀ j, j < k → (v.testBit j = true ↔ ¬ hoW H f ((2 ^ H.te - 1) ^^^ 2 ^ j))) → AW l (pI pg 132) (fcI M1 (fun y M' => frL M1 M' ∧ ∃ v, y = brV v ∧ lnO (hoW H f) (pnH H) (2 ^ H.te) v)) 0 0 26 [(7, .int (nI k)), (6, .int (nI v)), (5, .int (nI (2 ^ H.te - 1))), (3, .long f), (2, .ref 30), (1, .ref 4), (0, .ref 40)] [] SHF M2 := by
      intro d
      induction d with
      | zero =>
        intro k v M2 hk g1 g2 hv hb
        have ek : k = H.te := by omega
        subst ek
        have c2 := fH g2
        have le : M2.1 4 2 ≤ nI H.te := by rw [c2.te]; exact Int32.le_refl _
        exact seka_26 (by rw [g1]; exact hR) hl0 (fun _ => l2 v hv hb (2 ^ H.te) 0 none _ _ M2 (by omega) g1 g2 (fun t ht => absurd ht (Nat.not_lt_zero _)) (Or.inl ⟨rfl, rfl⟩)) (fun _ _ => True) (fun h => absurd le h) (fun h => absurd le h) (fun h => absurd le h)
      | succ d ih =>
        intro k v M2 hk g1 g2 hv hb
        have c2 := fH g2
        have ng : ¬ M2.1 4 2 ≤ nI k := by
          rw [c2.te, nle (by omega) (by omega)]
          omega
        have nx : nI k + Int32.ofInt 1 = nI (k + 1) := nI_1 k
        have p28 : 2 ^ k ≤ 128 := Nat.le_trans (Nat.pow_le_pow_right (by decide) (show k ≤ 7 by omega)) (by decide)
        have pp : 2 ^ (k + 1) = 2 ^ k + 2 ^ k := by rw [Nat.pow_succ]; omega
        have xl : (2 ^ H.te - 1) ^^^ 2 ^ k < 256 := Nat.xor_lt_two_pow (n := 8) (by omega) (by omega)
        have hR2 : ∀ e ∈ RR.2, M2.2.2 e.1 e.2.1 = e.2.2 := by rw [g1]; exact hR
        refine seka_26 hR2 hl0 (fun h => absurd h ng) (fun y M' => frL M2 M' ∧ ((y = Int32.ofInt 1 ∧ hoW H f ((2 ^ H.te - 1) ^^^ 2 ^ k)) ∨ (y = Int32.ofInt 0 ∧ ¬ hoW H f ((2 ^ H.te - 1) ^^^ 2 ^ k)))) (fun _ => ?_) (fun _ y3 M3 e3 q3 h5 => ?_) (fun _ y3 M3 e3 q3 h5 => ?_)
        · rw [shW (by omega), nI_xorN (by omega) (by omega)]
          exact hwia_c hl0 hR2 hI c2 (fs g2) hf xl
        · have hy := (q3.2.resolve_right (fun q => h5 (q.1.trans z0))).2
          rw [nx]
          refine ih (k + 1) v M3 (by omega) (e3.trans g1) (tr g2 q3.1) (by omega) (fun j hj => ?_)
          by_cases e : j = k
          · subst e
            rw [tb_no hv (Nat.le_refl _)]
            exact ⟨fun h => (by cases h), fun h => absurd hy h⟩
          · exact hb j (by omega)
        · have hn := (q3.2.resolve_left (fun q => n1 (q.1.symm.trans h5))).2
          rw [nx, shW (by omega), nI_orN (by omega) (by omega)]
          refine ih (k + 1) (v ||| 2 ^ k) M3 (by omega) (e3.trans g1) (tr g2 q3.1) (Nat.or_lt_two_pow (by omega) (by omega)) (fun j hj => ?_)
          rw [Nat.testBit_or]
          by_cases e : j = k
          · subst e
            rw [Nat.testBit_two_pow_self, Bool.or_true]
            exact ⟨fun _ => hn, fun _ => rfl⟩
          · rw [Nat.testBit_two_pow_of_ne (fun g => e g.symm), Bool.or_false]
            exact hb j (by omega)
    exact l1 H.te 0 0 M3 (by omega) e3 q3.1 (by decide) (fun j hj => absurd hj (Nat.not_lt_zero _))
  · obtain ⟨rfl, rfl⟩ := q1
    have hn := (q3.2.resolve_left (fun q => n1 (q.1.symm.trans h5))).2
    refine ⟨rfl, e3, _, rfl, q3.1, none, rfl, fun t ht ha => hn (hoW_up (fun w hw => ?_) ha)⟩
    rw [Nat.testBit_two_pow_sub_one, decide_eq_true_eq]
    exact Nat.lt_of_not_le fun hle => by rw [tb_no ht hle] at hw; cases hw
theorem chsa_c (hl0 : l.1.stackTraces = false) (hR : ∀ e ∈ RR.2, M.2.2 e.1 e.2.1 = e.2.2) (hI : HI H) (hH : cHo 4 H M) (hs : ∀ t, t < 2 ^ H.wo → ((noC H H.wo t ∧ M.1 31 t = nI (sumL H H.wo t)) ∨ (¬ noC H H.wo t ∧ M.1 31 t = nI 99))) (hE : LNt H M) {b : Int32} : AC l (pI pg 131) (fcI M (fun y M' => LNt H M' ∧ frK M M' ∧ ∃ v, y = brV v ∧ lnA H b v)) 0 0 [.ref 40, .ref 4, .ref 30, .int b] SHF M := by
  have hp6 := hI.1
  have p6 := pw_le hp6
  have hb1 : ¬ (1 : Int32) = 0 := by decide
  refine fw_of hl0 ⟨by decide +kernel, by decide +kernel, by decide +kernel⟩ rfl ?_
  refine chsa_0 hR hl0 (fun h1 h2 => ?_) (fun f M' => M' = M ∧ ∀ i, i < 64 → (bL f i = true ↔ ∃ p, p < H.pe ∧ i = aw1 H.pe p)) (fun h1 h2 => waoa_c hl0 hI hH) (fun f M4 y M' => frL M4 M' ∧ ∃ v, y = brV v ∧ lnO (hoW H f) (pnH H) (2 ^ H.te) v) (fun h1 h2 f M4 e4 q4 => ?_) (fun h1 h2 f M4 e4 q4 y6 M6 e6 q6 => ?_) (fun h1 h9 => ?_) (fun f M' => M' = M ∧ ∀ i, i < 64 → (bL f i = true ↔ (H.pe = 1 ∧ i = aw1 H.pe 0) ∨ ∃ p q, q < p ∧ p < H.pe ∧ i = aw2 H.pe p q)) (fun h1 h9 => wata_c hl0 hI hH) (fun f M4 y M' => frL M4 M' ∧ ∃ v, y = brV v ∧ lnO (hoW H f) (pnH H) (2 ^ H.te) v) (fun h1 h9 f M11 e11 q11 => ?_) (fun h1 h9 f M11 e11 q11 y13 M13 e13 q13 => ?_)
  · obtain ⟨v, v1, v2⟩ := hE.1.resolve_left h2
    refine ⟨rfl, rfl, _, rfl, hE, fun _ _ _ _ _ => rfl, v, v1, ?_⟩
    unfold lnA at v2 ⊢
    rw [hoB_0 h1]
    rw [hoB_0 rfl] at v2
    exact v2
  · obtain ⟨rfl, q4⟩ := q4
    refine seka_c hl0 hR hI hH hs (fun i hi hb => ?_)
    obtain ⟨p, hp, rfl⟩ := (q4 i hi).mp hb
    exact aw1_lt H.pe hp6 p hp
  · obtain ⟨rfl, q4⟩ := q4
    obtain ⟨g, v, v1, v2⟩ := q6
    rw [hoW1 hI q4] at v2
    have la : ∀ {c : Int32}, c = 0 → lnA H c v := fun {c} hc => by
      unfold lnA
      rw [hoB_0 hc]
      exact v2
    refine ⟨rfl, e6, _, rfl, ⟨?_, ?_⟩, fun a k a1 a2 a3 => ?_, v, ?_, la h1⟩
    · exact Or.inr ⟨v, by rw [set_1, if_pos rfl, if_pos rfl]; exact v1, la rfl⟩
    · rw [set_1, if_pos rfl, if_neg (by decide), g 40 3 (by decide) (by decide)]
      exact hE.2
    · rw [set_1, if_neg a3]
      exact g a k a1 a2
    · rw [set_1, if_pos rfl, if_pos rfl]
      exact v1
  · obtain ⟨v, v1, v2⟩ := hE.2.resolve_left h9
    refine ⟨rfl, rfl, _, rfl, hE, fun _ _ _ _ _ => rfl, v, v1, ?_⟩
    unfold lnA at v2 ⊢
    rw [hoB_n h1]
    rw [hoB_n hb1] at v2
    exact v2
  · obtain ⟨rfl, q11⟩ := q11
    refine seka_c hl0 hR hI hH hs (fun i hi hb => ?_)
    rcases (q11 i hi).mp hb with ⟨e, rfl⟩ | ⟨p, q, hq, hp, rfl⟩
    · exact aw1_lt H.pe hp6 0 (by omega)
    · exact aw2_lt H.pe hp6 p hp q (by omega)
  · obtain ⟨rfl, q11⟩ := q11
    obtain ⟨g, v, v1, v2⟩ := q13
    rw [hoW2 hI q11] at v2
    have la : ∀ {c : Int32}, ¬ c = 0 → lnA H c v := fun {c} hc => by
      unfold lnA
      rw [hoB_n hc]
      exact v2
    refine ⟨rfl, e13, _, rfl, ⟨?_, ?_⟩, fun a k a1 a2 a3 => ?_, v, ?_, la h1⟩
    · rw [set_1, if_pos rfl, if_neg (by decide), g 40 2 (by decide) (by decide)]
      exact hE.1
    · exact Or.inr ⟨v, by rw [set_1, if_pos rfl, if_pos rfl]; exact v1, la hb1⟩
    · rw [set_1, if_neg a3]
      exact g a k a1 a2
    · rw [set_1, if_pos rfl, if_pos rfl]
      exact v1
theorem lspa_c (hl0 : l.1.stackTraces = false) (hR : ∀ e ∈ RR.2, M.2.2 e.1 e.2.1 = e.2.2) (hI : HI H) (hH : cHo 4 H M) (hs : ∀ t, t < 2 ^ H.wo → ((noC H H.wo t ∧ M.1 31 t = nI (sumL H H.wo t)) ∨ (¬ noC H H.wo t ∧ M.1 31 t = nI 99))) (hE : LNt H M) {b : Int32} : AC l (pI pg 130) (fcI M (fun y M' => LNt H M' ∧ ∃ v, lnA H b v ∧ y = pnV H v)) 0 0 [.ref 40, .ref 4, .ref 30, .int b] SHF M := by
  have t8 := hI.2.2.1
  refine fw_of hl0 ⟨by decide +kernel, by decide +kernel, by decide +kernel⟩ rfl ?_
  refine lspa_0 hR hl0 _ (chsa_c hl0 hR hI hH hs hE) (fun y1 M1 y M' => M' = M1 ∧ ∃ s, y1 = brV (some s) ∧ lnA H b (some s) ∧ y = nI (pnH H s)) (fun y1 M1 e1 q1 h3 => ?_) (fun y1 M1 e1 q1 h3 y4 M4 e4 q4 => ?_) (fun y1 M1 e1 q1 h3 => ?_)
  · obtain ⟨-, g, v, rfl, v2⟩ := q1
    cases v with
    | none => exact absurd rfl h3
    | some s =>
      refine AC.post hl0 (fun r sh' M' hp => ?_) (psoa_c (M := M1) (ts := s) hl0 hI (by rw [e1]; exact hR) (cH_eq hH (fun a k h1 h2 => g a k (by omega) (by omega) (by omega))) (lnA_lt t8 v2 s rfl))
      obtain ⟨r1, r2, y, r3, r4, r5⟩ := hp
      exact ⟨r1, r2, y, r3, r4, s, rfl, v2, r5⟩
  · obtain ⟨rfl, s, -, s1, s2⟩ := q4
    exact ⟨rfl, e1, _, rfl, q1.1, some s, s1, s2⟩
  · obtain ⟨g1, g, v, rfl, v2⟩ := q1
    have ev := br_on4 h3 (fun s e => by have := lnA_lt t8 v2 s e; omega)
    subst ev
    exact ⟨rfl, e1, _, rfl, g1, none, v2, rfl⟩
theorem choa_c (hl0 : l.1.stackTraces = false) (hR : ∀ e ∈ RR.2, M.2.2 e.1 e.2.1 = e.2.2) (hI : HI H) (hH : cHo 4 H M) {w u : Nat} (hw : w < 8) (hu : u < 256) : AC l (pI pg 137) (fcI M (fun y M' => M' = M ∧ y = brV (chp H w u H.te))) 0 0 [.ref 4, .int (nI w), .int (nI u)] SHF M := by
  have t8 := hI.2.2.1
  have w8 := hI.2.1
  refine fw_of hl0 ⟨by decide +kernel, by decide +kernel, by decide +kernel⟩ rfl ?_
  refine choa_0 hR hl0 ?_
  have loop : ∀ (d k : Nat), k + d = H.te → AW l (pI pg 137) (fcI M (fun y M' => M' = M ∧ y = brV (chp H w u H.te))) 0 0 5 [(4, .int (nI k)), (3, .int (brV (chp H w u k))), (2, .int (nI u)), (1, .int (nI w)), (0, .ref 4)] [] SHF M := by
    intro d
    induction d with
    | zero =>
      intro k hk
      have ek : k = H.te := by omega
      subst ek
      have le : M.1 4 2 ≤ nI H.te := by rw [hH.te]; exact Int32.le_refl _
      exact choa_5 hR hl0 (fun _ => ⟨rfl, rfl, _, rfl, rfl, rfl⟩) (fun h => absurd le h) (fun h => absurd le h) (fun h => absurd le h) (fun h => absurd le h) (fun h => absurd le h) (fun h => absurd le h) (fun h => absurd le h)
    | succ d ih =>
      intro k hk
      have ng : ¬ M.1 4 2 ≤ nI k := by
        rw [hH.te, nle (by omega) (by omega)]
        omega
      have nx : nI k + Int32.ofInt 1 = nI (k + 1) := nI_1 k
      have ck : (nI k).toNatClampNeg = k := nI_clamp (by omega)
      obtain ⟨v0, v1, -, v3, v4⟩ := hI.2.2.2.2.2.2.2.2.2.2.2 k (by omega)
      have l1 : M.1 14 (nI k).toNatClampNeg = nI (H.t1 k) := by rw [ck]; exact hH.t1 k (by omega)
      have l3 : M.1 16 (nI k).toNatClampNeg = nI (H.t3 k) := by rw [ck]; exact hH.t3 k (by omega)
      have go := ih (k + 1) (by omega)
      refine choa_5 hR hl0 (fun h => absurd h ng) (fun _ => vp_in_nI (by omega) (by decide)) (fun _ h4 => ?_) (fun _ h4 h7 => ?_) (fun _ h4 h7 h11 => ?_) (fun _ h4 h7 h11 => ?_) (fun _ h4 h7 h11 h14 => ?_) (fun _ h4 h7 h11 h14 => ?_)
      · rw [l1, nI_eq (by omega) (by omega)] at h4
        rw [chp_no (fun q => h4 q.1)] at go
        rw [nx]
        exact go
      · rw [bitF (by omega) (by omega)] at h7
        rw [chp_no (fun q => h7 q.2)] at go
        rw [nx]
        exact go
      all_goals rw [l1, nI_eq (by omega) (by omega)] at h4
      all_goals rw [bitF (by omega) (by omega)] at h7
      all_goals rw [chp_is ⟨h4, h7⟩] at go
      · have ec := br_on4 h11 (fun b hb => by have := chp_lt k hb; omega)
        rw [ec] at go
        rw [nx]
        exact go
      · cases ec : chp H w u k with
        | none =>
          rw [ec] at h11
          exact absurd rfl h11
        | some b =>
          have := chp_lt k ec
          exact vp_in_nI (n := b) (by omega) (by decide)
      · cases ec : chp H w u k with
        | none =>
          rw [ec] at h11
          exact absurd rfl h11
        | some b =>
          have bl := chp_lt k ec
          obtain ⟨-, -, -, b3, b4⟩ := hI.2.2.2.2.2.2.2.2.2.2.2 b (by omega)
          rw [ec] at h14
          have h14 : M.1 16 (nI b).toNatClampNeg ≤ M.1 16 (nI k).toNatClampNeg := h14
          rw [l3, nI_clamp (n := b) (by omega), show M.1 16 b = nI (H.t3 b) from hH.t3 b (by omega), nle (by omega) (by omega)] at h14
          rw [ec, bet_g (by omega)] at go
          rw [nx]
          exact go
      · cases ec : chp H w u k with
        | none =>
          rw [ec] at h11
          exact absurd rfl h11
        | some b =>
          have bl := chp_lt k ec
          obtain ⟨-, -, -, b3, b4⟩ := hI.2.2.2.2.2.2.2.2.2.2.2 b (by omega)
          rw [ec] at h14
          have h14 : ¬ M.1 16 (nI b).toNatClampNeg ≤ M.1 16 (nI k).toNatClampNeg := h14
          rw [l3, nI_clamp (n := b) (by omega), show M.1 16 b = nI (H.t3 b) from hH.t3 b (by omega), nle (by omega) (by omega)] at h14
          rw [ec, bet_l (by omega)] at go
          rw [nx]
          exact go
  exact loop H.te 0 (by omega)
theorem bnda_c (hl0 : l.1.stackTraces = false) (hJ : JR RR M) (hI : HI H) (hH : cHo 4 H M) {m : Nat} (hm : m ≤ 3) : AC l (pI pg 136) (fcI M (fun y M' => M' = M ∧ y = brV (bnF H m H.wo 0 0))) 0 0 [.ref 40, .ref 4, .int (nI m)] SHF M := by
  have hR := hJ.2
  have hRM : ∀ e ∈ RM, M.2.2 e.1 e.2.1 = e.2.2 := fun e he => rgR_ok hJ.2 (okR_RR.1 e he)
  have t8 := hI.2.2.1
  have w8 := hI.2.1
  have p6 := hI.1
  refine fw_of hl0 ⟨by decide +kernel, by decide +kernel, by decide +kernel⟩ rfl ?_
  refine bnda_0 hR hl0 ?_
  have outer : ∀ (d w v : Nat), w + d = H.wo → bnF H m d w v = bnF H m H.wo 0 0 → AW l (pI pg 136) (fcI M (fun y M' => M' = M ∧ y = brV (bnF H m H.wo 0 0))) 0 0 5 [(4, .int (nI w)), (3, .int (nI v)), (2, .int (nI m)), (1, .ref 4)] [] SHF M := by
    intro d
    induction d with
    | zero =>
      intro w v hw hv
      have ew : w = H.wo := by omega
      subst ew
      have le : M.1 4 1 ≤ nI H.wo := by rw [hH.wo]; exact Int32.le_refl _
      exact bnda_5 hR hl0 (fun _ => ⟨rfl, rfl, _, rfl, rfl, by rw [← hv]; rfl⟩) (fun h => absurd le h) (fun _ _ => True) (fun h => absurd le h) (fun h => absurd le h)
    | succ d ih =>
      intro w v hw hv
      have ng : ¬ M.1 4 1 ≤ nI w := by
        rw [hH.wo, nle (by omega) (by omega)]
        omega
      have cw : (nI w).toNatClampNeg = w := nI_clamp (by omega)
      have cl := cnF_le (H := H) (w := w) H.pe
      have inner : ∀ (d2 i u v : Nat), i + d2 = m - cnF H w H.pe → u < 256 → (mrL H w d2 u v).bind (bnF H m d (w + 1)) = bnF H m H.wo 0 0 → AW l (pI pg 136) (fcI M (fun y M' => M' = M ∧ y = brV (bnF H m H.wo 0 0))) 0 0 34 [(7, .int (nI i)), (6, .int (nI u)), (5, .int (nI m - nI (cnF H w H.pe))), (4, .int (nI w)), (3, .int (nI v)), (2, .int (nI m)), (1, .ref 4)] [] SHF M := by
        intro d2
        induction d2 with
        | zero =>
          intro i u v hi hu hv
          have le : nI m - nI (cnF H w H.pe) ≤ nI i := (lack_i m hm _ (by omega) i (by omega)).mpr (by omega)
          refine bnda_34 hR hl0 (fun _ => ?_) (fun _ _ => True) (fun h => absurd le h) (fun h => absurd le h) (fun h => absurd le h) (fun h => absurd le h)
          rw [show nI w + Int32.ofInt 1 = nI (w + 1) from nI_1 w]
          exact ih (w + 1) v (by omega) hv
        | succ d2 ih2 =>
          intro i u v hi hu hv
          have ng2 : ¬ nI m - nI (cnF H w H.pe) ≤ nI i := fun h => by
            have := (lack_i m hm _ (by omega) i (by omega)).mp h
            omega
          have hv : (((chp H w u H.te).bind (fun b => mrL H w d2 (u ||| 2 ^ b) (v + H.t3 b))).bind (bnF H m d (w + 1))) = bnF H m H.wo 0 0 := hv
          refine bnda_34 hR hl0 (fun h => absurd h ng2) (fun y M' => M' = M ∧ y = brV (chp H w u H.te)) (fun _ => choa_c hl0 hR hI hH (by omega) hu) (fun _ y3 M3 e3 q3 h5 => ?_) (fun _ y3 M3 e3 q3 h5 => ?_) (fun _ y3 M3 e3 q3 h5 => ?_)
          · obtain ⟨rfl, rfl⟩ := q3
            cases ec : chp H w u H.te with
            | none =>
              rw [ec] at h5
              exact absurd rfl h5
            | some b =>
              have := chp_lt _ ec
              exact vp_in_nI (n := b) (by omega) (by decide)
          · obtain ⟨rfl, rfl⟩ := q3
            cases ec : chp H w u H.te with
            | none =>
              rw [ec] at h5
              exact absurd rfl h5
            | some b =>
              have bl := chp_lt _ ec
              have p28 : 2 ^ b ≤ 128 := Nat.le_trans (Nat.pow_le_pow_right (by decide) (show b ≤ 7 by omega)) (by decide)
              rw [ec] at hv
              show AW l (pI pg 136) _ 0 0 34 [(7, .int (nI i + Int32.ofInt 1)), (6, .int (nI u ||| (Int32.ofInt 1 <<< (nI b &&& 31)))), (5, .int (nI m - nI (cnF H w H.pe))), (4, .int (nI w)), (3, .int (nI v + M3.1 16 (nI b).toNatClampNeg)), (2, .int (nI m)), (1, .ref 4)] [] SHF M3
              rw [show nI i + Int32.ofInt 1 = nI (i + 1) from nI_1 i, shW (by omega), nI_orN (by omega) (by omega), nI_clamp (n := b) (by omega), show M3.1 16 b = nI (H.t3 b) from hH.t3 b (by omega), nI_add]
              exact ih2 (i + 1) (u ||| 2 ^ b) (v + H.t3 b) (by omega) (Nat.or_lt_two_pow (n := 8) (by omega) (by omega)) hv
          · obtain ⟨rfl, rfl⟩ := q3
            have ec := br_on4 h5 (fun b hb => by have := chp_lt _ hb; omega)
            rw [ec] at hv
            exact ⟨rfl, rfl, _, rfl, rfl, by rw [← hv]; rfl⟩
      refine bnda_5 hR hl0 (fun h => absurd h ng) (fun _ => vp_in_nI (by omega) (by decide)) (fun y M' => M' = M ∧ y = nI (cnF H w H.pe)) (fun _ => ?_) (fun _ y4 M4 e4 q4 => ?_)
      · rw [cw, show M.1 11 w = nI (H.dr w) from hH.dr w (by omega), ← cn_pc hI (show w < 8 by omega)]
        exact c21 hl0 hRM (Nat.lt_trans (hI.2.2.2.2.2.2.2.2.2.1 w (by omega)).1 (by decide))
      · obtain ⟨rfl, rfl⟩ := q4
        exact inner (m - cnF H w H.pe) 0 0 v (by omega) (by decide) hv
  exact outer H.wo 0 0 (by omega) rfl
theorem lrna_c (hl0 : l.1.stackTraces = false) (hJ : JR RR M) (hI : HI H) (hH : cHo 4 H M) (hs : ∀ t, t < 2 ^ H.wo → ((noC H H.wo t ∧ M.1 31 t = nI (sumL H H.wo t)) ∨ (¬ noC H H.wo t ∧ M.1 31 t = nI 99))) (hE : LNt H M) {b x : Int32} : AC l (pI pg 129) (PLn H b x M) 2 12 [.ref 0, .int b, .int x] SHF M := by
  have hR := hJ.2
  refine fw_of hl0 ⟨by decide +kernel, by decide +kernel, by decide +kernel⟩ rfl ?_
  refine lrna_0 (kc := 1) (ks := 6) hR hl0 _ (fun h1 => lspa_c hl0 hR hI hH hs hE) (fun h1 y2 M2 e2 q2 => ?_) _ (fun h1 h5 => chsa_c hl0 hR hI hH hs hE) (fun h1 h5 y6 M6 e6 q6 => ?_) _ (fun h1 h5 h9 h10 => bnda_c (m := 2) hl0 hJ hI hH (by decide)) (fun h1 h5 h9 h10 y11 M11 e11 q11 => ?_) _ (fun h1 h5 h9 h10 => bnda_c (m := 3) hl0 hJ hI hH (by decide)) (fun h1 h5 h9 h10 y14 M14 e14 q14 => ?_) (fun h1 h5 h9 => ?_)
  · obtain ⟨g, v, v1, v2⟩ := q2
    exact ⟨rfl, Or.inr ⟨by rw [h1]; exact in3_of (k := 0) (by decide), _, rfl, Or.inl ⟨h1, v, v1, v2⟩, g⟩⟩
  · obtain ⟨g, -, v, v1, v2⟩ := q6
    exact ⟨rfl, Or.inr ⟨by rw [h5]; exact in3_of (k := 1) (by decide), _, rfl, Or.inr (Or.inl ⟨h5, v, v2, v1⟩), g⟩⟩
  · obtain ⟨rfl, rfl⟩ := q11
    exact ⟨rfl, Or.inr ⟨by rw [h9]; exact in3_of (k := 2) (by decide), _, rfl, Or.inr (Or.inr ⟨h9, Or.inl ⟨h10, rfl⟩⟩), hE⟩⟩
  · obtain ⟨rfl, rfl⟩ := q14
    exact ⟨rfl, Or.inr ⟨by rw [h9]; exact in3_of (k := 2) (by decide), _, rfl, Or.inr (Or.inr ⟨h9, Or.inr ⟨h10, rfl⟩⟩), hE⟩⟩
  · refine ⟨rfl, Or.inl ⟨fun h => ?_, rfl, rfl⟩⟩
    rcases in3 h with e | e | e
    · exact h1 e
    · exact h5 e
    · exact h9 e
end LRNA
section LRNB
variable {l : aL} {M : aM} {H : HS}
theorem psob_c (hl0 : l.1.stackTraces = false) (hI : HI H) (hR : ∀ e ∈ RRS.2, M.2.2 e.1 e.2.1 = e.2.2) (hH : cHo 17 H M) {ts : Nat} (ht : ts < 256) : AC l (pI pg 135) (fcI M (fun y M' => M' = M ∧ y = nI (pnH H ts))) 0 0 [.ref 17, .int (nI ts)] SHF M := by
  have t8 := hI.2.2.1
  refine fw_of hl0 ⟨by decide +kernel, by decide +kernel, by decide +kernel⟩ rfl ?_
  refine psob_0 hR hl0 ?_
  have loop : ∀ (d k : Nat), k + d = H.te → AW l (pI pg 135) (fcI M (fun y M' => M' = M ∧ y = nI (pnH H ts))) 0 0 4 [(3, .int (nI k)), (2, .int (nI (pnS H ts k))), (1, .int (nI ts)), (0, .ref 17)] [] SHF M := by
    intro d
    induction d with
    | zero =>
      intro k hk
      have ek : k = H.te := by omega
      subst ek
      have le : M.1 17 2 ≤ nI H.te := by rw [hH.te]; exact Int32.le_refl _
      exact psob_4 hR hl0 (fun _ => ⟨rfl, rfl, _, rfl, rfl, rfl⟩) (fun h => absurd le h) (fun h => absurd le h) (fun h => absurd le h)
    | succ d ih =>
      intro k hk
      have ng : ¬ M.1 17 2 ≤ nI k := by
        rw [hH.te, nle (by omega) (by omega)]
        omega
      refine psob_4 hR hl0 (fun h => absurd h ng) (fun _ h3 => ?_) (fun _ h3 => vp_in_nI (by omega) (by decide)) (fun _ h3 => ?_)
      · rw [bitF (by omega) (by omega)] at h3
        rw [show nI k + Int32.ofInt 1 = nI (k + 1) from nI_1 k, ← pnS_n (k := k) (fun q => by rw [h3] at q; cases q)]
        exact ih (k + 1) (by omega)
      · rw [bitF (by omega) (by omega)] at h3
        have hb : ts.testBit k = true := by
          cases e : ts.testBit k with
          | true => rfl
          | false => exact absurd e h3
        rw [show nI k + Int32.ofInt 1 = nI (k + 1) from nI_1 k, nI_clamp (by omega), show M.1 29 k = nI (H.t3 k) from hH.t3 k (by omega), nI_add, ← pnS_y hb]
        exact ih (k + 1) (by omega)
  exact loop H.te 0 (by omega)
theorem atcb_c (hl0 : l.1.stackTraces = false) (t8 : H.te ≤ 8) (h : M.1 17 2 = nI H.te) : AC l (pI pg 133) (fcI M (fun y M' => M' = M ∧ y = nI (2 ^ H.te - 1))) 0 0 [.ref 17] SHF M := by
  refine fw_of hl0 ⟨by decide +kernel, by decide +kernel, by decide +kernel⟩ rfl ?_
  refine atcb_0 hl0 ?_
  rw [h, fullW t8]
  exact ⟨rfl, rfl, _, rfl, rfl, rfl⟩
theorem sekb_c (hl0 : l.1.stackTraces = false) (hR : ∀ e ∈ RRS.2, M.2.2 e.1 e.2.1 = e.2.2) (hI : HI H) (hH : cHo 17 H M) (hs : ∀ t, t < 2 ^ H.wo → ((noC H H.wo t ∧ M.1 31 t = nI (sumL H H.wo t)) ∨ (¬ noC H H.wo t ∧ M.1 31 t = nI 99))) {f : Int64} (hf : ∀ i, i < 64 → bL f i = true → i < 2 ^ H.pe) : AC l (pI pg 132) (fcI M (fun y M' => frL M M' ∧ ∃ v, y = brV v ∧ lnO (hoW H f) (pnH H) (2 ^ H.te) v)) 0 0 [.ref 40, .ref 17, .ref 30, .long f] SHF M := by
  have t8 := hI.2.2.1
  have T8 := p2_8 t8
  have tpos := Nat.two_pow_pos H.te
  have z0 : (Int32.ofInt 0 : Int32) = 0 := by decide
  have n1 : ¬ (Int32.ofInt 1 : Int32) = 0 := by decide
  have fH : ∀ {M1 : aM}, frL M M1 → cHo 17 H M1 := fun {M1} h => cH_eq hH (fun a k h1 h2 => h a k (by omega) (by omega))
  have fs : ∀ {M1 : aM}, frL M M1 → ∀ t, t < 2 ^ H.wo → ((noC H H.wo t ∧ M1.1 31 t = nI (sumL H H.wo t)) ∨ (¬ noC H H.wo t ∧ M1.1 31 t = nI 99)) := fun {M1} h t ht => by
    rw [h 31 t (by decide) (by decide)]
    exact hs t ht
  have tr : ∀ {M1 M2 : aM}, frL M M1 → frL M1 M2 → frL M M2 := fun {M1 M2} h g a k a1 a2 => (g a k a1 a2).trans (h a k a1 a2)
  refine fw_of hl0 ⟨by decide +kernel, by decide +kernel, by decide +kernel⟩ rfl ?_
  refine sekb_0 hR hl0 _ (atcb_c hl0 t8 hH.te) (fun _ M1 y M' => frL M1 M' ∧ ((y = Int32.ofInt 1 ∧ hoW H f (2 ^ H.te - 1)) ∨ (y = Int32.ofInt 0 ∧ ¬ hoW H f (2 ^ H.te - 1)))) (fun y1 M1 e1 q1 => ?_) (fun y1 M1 e1 q1 y3 M3 e3 q3 h5 => ?_) (fun y1 M1 e1 q1 y3 M3 e3 q3 h5 => ?_)
  · obtain ⟨rfl, rfl⟩ := q1
    exact hwib_c hl0 hR hI hH hs hf (by omega)
  · obtain ⟨rfl, rfl⟩ := q1
    have all := (q3.2.resolve_right (fun q => h5 (q.1.trans z0))).2
    -- the last loop: all sets
    have l2 : ∀ (nd : Nat), nd < 2 ^ H.te → (∀ j, j < H.te → (nd.testBit j = true ↔ ¬ hoW H f ((2 ^ H.te - 1) ^^^ 2 ^ j))) → ∀ (d s : Nat) (v : Option Nat) (p g : Int32) (M2 : aM), s + d = 2 ^ H.te → M2.2.2 = M1.2.2 → frL M1 M2 → lnO (hoW H f) (pnH H) s v → ((v = none ∧ p = 2147483647) ∨ ∃ b, v = some b ∧ p = nI (pnH H b) ∧ g = nI b) → AW l (pI pg 132) (fcI M1 (fun y M' => frL M1 M' ∧ ∃ v, y = brV v ∧ lnO (hoW H f) (pnH H) (2 ^ H.te) v)) 0 0 78 [(9, .int (nI s)), (8, .int p), (7, .int g), (6, .int (nI nd)), (5, .int (nI (2 ^ H.te - 1))), (3, .long f), (2, .ref 30), (1, .ref 17), (0, .ref 40)] [] SHF M2 := by
      intro nd nd1 nd2 d
      induction d with
      | zero =>
        intro s v p g M2 hd g1 g2 hv hp
        have es : s = 2 ^ H.te := by omega
        subst es
        have lt : nI (2 ^ H.te - 1) < nI (2 ^ H.te) := by
          rw [nlt (by omega) (by omega)]
          omega
        refine sekb_78 (by rw [g1]; exact hR) hl0 (fun _ => ?_) (fun _ _ => True) (fun h => absurd lt h) (fun h => absurd lt h) (fun h => absurd lt h) (fun _ _ _ _ => True) (fun h => absurd lt h) (fun h => absurd lt h) (fun h => absurd lt h)
        rcases hp with ⟨rfl, -⟩ | ⟨b, rfl, -, rfl⟩
        · exact absurd all (hv _ (by omega))
        · exact ⟨rfl, g1, _, rfl, g2, some b, rfl, hv⟩
      | succ d ih =>
        intro s v p g M2 hd g1 g2 hv hp
        have ng : ¬ nI (2 ^ H.te - 1) < nI s := by
          rw [nlt (by omega) (by omega)]
          omega
        have nx : nI s + Int32.ofInt 1 = nI (s + 1) := nI_1 s
        have hR2 : ∀ e ∈ RRS.2, M2.2.2 e.1 e.2.1 = e.2.2 := by rw [g1]; exact hR
        have ps := pnH_le hI s
        refine sekb_78 hR2 hl0 (fun h => absurd h ng) (fun y M' => M' = M2 ∧ y = nI (pnH H s)) (fun _ => psob_c hl0 hI hR2 (fH g2) (by omega)) (fun _ y3 M3 e3 q3 h5 => ?_) (fun _ y3 M3 e3 q3 h5 h7 => ?_) (fun _ M3 y M' => frL M3 M' ∧ ((y = Int32.ofInt 1 ∧ hoW H f s) ∨ (y = Int32.ofInt 0 ∧ ¬ hoW H f s))) (fun _ y3 M3 e3 q3 h5 h7 => ?_) (fun _ y3 M3 e3 q3 h5 h7 y9 M9 e9 q9 h11 => ?_) (fun _ y3 M3 e3 q3 h5 h7 y9 M9 e9 q9 h11 => ?_)
        · obtain ⟨rfl, rfl⟩ := q3
          rw [and_nt nd (by omega) s (by omega)] at h5
          rw [nx]
          exact ih (s + 1) v p g _ (by omega) g1 g2 (ln_keep hv (nd_out (fun a b => hoW_up) nd1 (by omega) nd2 h5)) hp
        · obtain ⟨rfl, rfl⟩ := q3
          rw [nx]
          rcases hp with ⟨rfl, rfl⟩ | ⟨b, rfl, rfl, rfl⟩
          · exfalso
            rw [Int32.le_iff_toInt_le, nI_toInt (by omega), show (2147483647 : Int32).toInt = 2147483647 by decide] at h7
            omega
          · have pb := pnH_le hI b
            rw [nle (by omega) (by omega)] at h7
            exact ih (s + 1) (some b) _ _ _ (by omega) g1 g2 (ln_ge hv h7) (Or.inr ⟨b, rfl, rfl, rfl⟩)
        · obtain ⟨rfl, rfl⟩ := q3
          exact hwib_c hl0 hR2 hI (fH g2) (fs g2) hf (by omega)
        · obtain ⟨rfl, rfl⟩ := q3
          have hn := (q9.2.resolve_left (fun q => n1 (q.1.symm.trans h11))).2
          rw [nx]
          exact ih (s + 1) v p g _ (by omega) (e9.trans g1) (tr g2 q9.1) (ln_keep hv hn) hp
        · obtain ⟨rfl, rfl⟩ := q3
          have hy := (q9.2.resolve_right (fun q => h11 (q.1.trans z0))).2
          rw [nx]
          rcases hp with ⟨rfl, rfl⟩ | ⟨b, rfl, rfl, rfl⟩
          · exact ih (s + 1) (some s) _ _ _ (by omega) (e9.trans g1) (tr g2 q9.1) (ln_none hv hy) (Or.inr ⟨s, rfl, rfl, rfl⟩)
          · have pb := pnH_le hI b
            rw [nle (by omega) (by omega)] at h7
            exact ih (s + 1) (some s) _ _ _ (by omega) (e9.trans g1) (tr g2 q9.1) (ln_less hv hy (by omega)) (Or.inr ⟨s, rfl, rfl, rfl⟩)
    -- which teachings are needed
    have l1 : ∀ (d k v : Nat) (M2 : aM), k + d = H.te → M2.2.2 = M1.2.2 → frL M1 M2 → v < 2 ^ k → (∀ j, j < k → (v.testBit j = true ↔ ¬ hoW H f ((2 ^ H.te - 1) ^^^ 2 ^ j))) → AW l (pI pg 132) (fcI M1 (fun y M' => frL M1 M' ∧ ∃ v, y = brV v ∧ lnO (hoW H f) (pnH H) (2 ^ H.te) v)) 0 0 26 [(7, .int (nI k)), (6, .int (nI v)), (5, .int (nI (2 ^ H.te - 1))), (3, .long f), (2, .ref 30), (1, .ref 17), (0, .ref 40)] [] SHF M2 := by
      intro d
      induction d with
      | zero =>
        intro k v M2 hk g1 g2 hv hb
        have ek : k = H.te := by omega
        subst ek
        have c2 := fH g2
        have le : M2.1 17 2 ≤ nI H.te := by rw [c2.te]; exact Int32.le_refl _
        exact sekb_26 (by rw [g1]; exact hR) hl0 (fun _ => l2 v hv hb (2 ^ H.te) 0 none _ _ M2 (by omega) g1 g2 (fun t ht => absurd ht (Nat.not_lt_zero _)) (Or.inl ⟨rfl, rfl⟩)) (fun _ _ => True) (fun h => absurd le h) (fun h => absurd le h) (fun h => absurd le h)
      | succ d ih =>
        intro k v M2 hk g1 g2 hv hb
        have c2 := fH g2
        have ng : ¬ M2.1 17 2 ≤ nI k := by
          rw [c2.te, nle (by omega) (by omega)]
          omega
        have nx : nI k + Int32.ofInt 1 = nI (k + 1) := nI_1 k
        have p28 : 2 ^ k ≤ 128 := Nat.le_trans (Nat.pow_le_pow_right (by decide) (show k ≤ 7 by omega)) (by decide)
        have pp : 2 ^ (k + 1) = 2 ^ k + 2 ^ k := by rw [Nat.pow_succ]; omega
        have xl : (2 ^ H.te - 1) ^^^ 2 ^ k < 256 := Nat.xor_lt_two_pow (n := 8) (by omega) (by omega)
        have hR2 : ∀ e ∈ RRS.2, M2.2.2 e.1 e.2.1 = e.2.2 := by rw [g1]; exact hR
        refine sekb_26 hR2 hl0 (fun h => absurd h ng) (fun y M' => frL M2 M' ∧ ((y = Int32.ofInt 1 ∧ hoW H f ((2 ^ H.te - 1) ^^^ 2 ^ k)) ∨ (y = Int32.ofInt 0 ∧ ¬ hoW H f ((2 ^ H.te - 1) ^^^ 2 ^ k)))) (fun _ => ?_) (fun _ y3 M3 e3 q3 h5 => ?_) (fun _ y3 M3 e3 q3 h5 => ?_)
        · rw [shW (by omega), nI_xorN (by omega) (by omega)]
          exact hwib_c hl0 hR2 hI c2 (fs g2) hf xl
        · have hy := (q3.2.resolve_right (fun q => h5 (q.1.trans z0))).2
          rw [nx]
          refine ih (k + 1) v M3 (by omega) (e3.trans g1) (tr g2 q3.1) (by omega) (fun j hj => ?_)
          by_cases e : j = k
          · subst e
            rw [tb_no hv (Nat.le_refl _)]
            exact ⟨fun h => (by cases h), fun h => absurd hy h⟩
          · exact hb j (by omega)
        · have hn := (q3.2.resolve_left (fun q => n1 (q.1.symm.trans h5))).2
          rw [nx, shW (by omega), nI_orN (by omega) (by omega)]
          refine ih (k + 1) (v ||| 2 ^ k) M3 (by omega) (e3.trans g1) (tr g2 q3.1) (Nat.or_lt_two_pow (by omega) (by omega)) (fun j hj => ?_)
          rw [Nat.testBit_or]
          by_cases e : j = k
          · subst e
            rw [Nat.testBit_two_pow_self, Bool.or_true]
            exact ⟨fun _ => hn, fun _ => rfl⟩
          · rw [Nat.testBit_two_pow_of_ne (fun g => e g.symm), Bool.or_false]
            exact hb j (by omega)
    exact l1 H.te 0 0 M3 (by omega) e3 q3.1 (by decide) (fun j hj => absurd hj (Nat.not_lt_zero _))
  · obtain ⟨rfl, rfl⟩ := q1
    have hn := (q3.2.resolve_left (fun q => n1 (q.1.symm.trans h5))).2
    refine ⟨rfl, e3, _, rfl, q3.1, none, rfl, fun t ht ha => hn (hoW_up (fun w hw => ?_) ha)⟩
    rw [Nat.testBit_two_pow_sub_one, decide_eq_true_eq]
    exact Nat.lt_of_not_le fun hle => by rw [tb_no ht hle] at hw; cases hw
theorem chsb_c (hl0 : l.1.stackTraces = false) (hR : ∀ e ∈ RRS.2, M.2.2 e.1 e.2.1 = e.2.2) (hI : HI H) (hH : cHo 17 H M) (hs : ∀ t, t < 2 ^ H.wo → ((noC H H.wo t ∧ M.1 31 t = nI (sumL H H.wo t)) ∨ (¬ noC H H.wo t ∧ M.1 31 t = nI 99))) (hE : LNt H M) {b : Int32} : AC l (pI pg 131) (fcI M (fun y M' => LNt H M' ∧ frK M M' ∧ ∃ v, y = brV v ∧ lnA H b v)) 0 0 [.ref 40, .ref 17, .ref 30, .int b] SHF M := by
  have hp6 := hI.1
  have p6 := pw_le hp6
  have hb1 : ¬ (1 : Int32) = 0 := by decide
  refine fw_of hl0 ⟨by decide +kernel, by decide +kernel, by decide +kernel⟩ rfl ?_
  refine chsb_0 hR hl0 (fun h1 h2 => ?_) (fun f M' => M' = M ∧ ∀ i, i < 64 → (bL f i = true ↔ ∃ p, p < H.pe ∧ i = aw1 H.pe p)) (fun h1 h2 => waob_c hl0 hI hH) (fun f M4 y M' => frL M4 M' ∧ ∃ v, y = brV v ∧ lnO (hoW H f) (pnH H) (2 ^ H.te) v) (fun h1 h2 f M4 e4 q4 => ?_) (fun h1 h2 f M4 e4 q4 y6 M6 e6 q6 => ?_) (fun h1 h9 => ?_) (fun f M' => M' = M ∧ ∀ i, i < 64 → (bL f i = true ↔ (H.pe = 1 ∧ i = aw1 H.pe 0) ∨ ∃ p q, q < p ∧ p < H.pe ∧ i = aw2 H.pe p q)) (fun h1 h9 => watb_c hl0 hI hH) (fun f M4 y M' => frL M4 M' ∧ ∃ v, y = brV v ∧ lnO (hoW H f) (pnH H) (2 ^ H.te) v) (fun h1 h9 f M11 e11 q11 => ?_) (fun h1 h9 f M11 e11 q11 y13 M13 e13 q13 => ?_)
  · obtain ⟨v, v1, v2⟩ := hE.1.resolve_left h2
    refine ⟨rfl, rfl, _, rfl, hE, fun _ _ _ _ _ => rfl, v, v1, ?_⟩
    unfold lnA at v2 ⊢
    rw [hoB_0 h1]
    rw [hoB_0 rfl] at v2
    exact v2
  · obtain ⟨rfl, q4⟩ := q4
    refine sekb_c hl0 hR hI hH hs (fun i hi hb => ?_)
    obtain ⟨p, hp, rfl⟩ := (q4 i hi).mp hb
    exact aw1_lt H.pe hp6 p hp
  · obtain ⟨rfl, q4⟩ := q4
    obtain ⟨g, v, v1, v2⟩ := q6
    rw [hoW1 hI q4] at v2
    have la : ∀ {c : Int32}, c = 0 → lnA H c v := fun {c} hc => by
      unfold lnA
      rw [hoB_0 hc]
      exact v2
    refine ⟨rfl, e6, _, rfl, ⟨?_, ?_⟩, fun a k a1 a2 a3 => ?_, v, ?_, la h1⟩
    · exact Or.inr ⟨v, by rw [set_1, if_pos rfl, if_pos rfl]; exact v1, la rfl⟩
    · rw [set_1, if_pos rfl, if_neg (by decide), g 40 3 (by decide) (by decide)]
      exact hE.2
    · rw [set_1, if_neg a3]
      exact g a k a1 a2
    · rw [set_1, if_pos rfl, if_pos rfl]
      exact v1
  · obtain ⟨v, v1, v2⟩ := hE.2.resolve_left h9
    refine ⟨rfl, rfl, _, rfl, hE, fun _ _ _ _ _ => rfl, v, v1, ?_⟩
    unfold lnA at v2 ⊢
    rw [hoB_n h1]
    rw [hoB_n hb1] at v2
    exact v2
  · obtain ⟨rfl, q11⟩ := q11
    refine sekb_c hl0 hR hI hH hs (fun i hi hb => ?_)
    rcases (q11 i hi).mp hb with ⟨e, rfl⟩ | ⟨p, q, hq, hp, rfl⟩
    · exact aw1_lt H.pe hp6 0 (by omega)
    · exact aw2_lt H.pe hp6 p hp q (by omega)
  · obtain ⟨rfl, q11⟩ := q11
    obtain ⟨g, v, v1, v2⟩ := q13
    rw [hoW2 hI q11] at v2
    have la : ∀ {c : Int32}, ¬ c = 0 → lnA H c v := fun {c} hc => by
      unfold lnA
      rw [hoB_n hc]
      exact v2
    refine ⟨rfl, e13, _, rfl, ⟨?_, ?_⟩, fun a k a1 a2 a3 => ?_, v, ?_, la h1⟩
    · rw [set_1, if_pos rfl, if_neg (by decide), g 40 2 (by decide) (by decide)]
      exact hE.1
    · exact Or.inr ⟨v, by rw [set_1, if_pos rfl, if_pos rfl]; exact v1, la hb1⟩
    · rw [set_1, if_neg a3]
      exact g a k a1 a2
    · rw [set_1, if_pos rfl, if_pos rfl]
      exact v1
theorem lspb_c (hl0 : l.1.stackTraces = false) (hR : ∀ e ∈ RRS.2, M.2.2 e.1 e.2.1 = e.2.2) (hI : HI H) (hH : cHo 17 H M) (hs : ∀ t, t < 2 ^ H.wo → ((noC H H.wo t ∧ M.1 31 t = nI (sumL H H.wo t)) ∨ (¬ noC H H.wo t ∧ M.1 31 t = nI 99))) (hE : LNt H M) {b : Int32} : AC l (pI pg 130) (fcI M (fun y M' => LNt H M' ∧ ∃ v, lnA H b v ∧ y = pnV H v)) 0 0 [.ref 40, .ref 17, .ref 30, .int b] SHF M := by
  have t8 := hI.2.2.1
  refine fw_of hl0 ⟨by decide +kernel, by decide +kernel, by decide +kernel⟩ rfl ?_
  refine lspb_0 hR hl0 _ (chsb_c hl0 hR hI hH hs hE) (fun y1 M1 y M' => M' = M1 ∧ ∃ s, y1 = brV (some s) ∧ lnA H b (some s) ∧ y = nI (pnH H s)) (fun y1 M1 e1 q1 h3 => ?_) (fun y1 M1 e1 q1 h3 y4 M4 e4 q4 => ?_) (fun y1 M1 e1 q1 h3 => ?_)
  · obtain ⟨-, g, v, rfl, v2⟩ := q1
    cases v with
    | none => exact absurd rfl h3
    | some s =>
      refine AC.post hl0 (fun r sh' M' hp => ?_) (psob_c (M := M1) (ts := s) hl0 hI (by rw [e1]; exact hR) (cH_eq hH (fun a k h1 h2 => g a k (by omega) (by omega) (by omega))) (lnA_lt t8 v2 s rfl))
      obtain ⟨r1, r2, y, r3, r4, r5⟩ := hp
      exact ⟨r1, r2, y, r3, r4, s, rfl, v2, r5⟩
  · obtain ⟨rfl, s, -, s1, s2⟩ := q4
    exact ⟨rfl, e1, _, rfl, q1.1, some s, s1, s2⟩
  · obtain ⟨g1, g, v, rfl, v2⟩ := q1
    have ev := br_on4 h3 (fun s e => by have := lnA_lt t8 v2 s e; omega)
    subst ev
    exact ⟨rfl, e1, _, rfl, g1, none, v2, rfl⟩
theorem chob_c (hl0 : l.1.stackTraces = false) (hR : ∀ e ∈ RRS.2, M.2.2 e.1 e.2.1 = e.2.2) (hI : HI H) (hH : cHo 17 H M) {w u : Nat} (hw : w < 8) (hu : u < 256) : AC l (pI pg 137) (fcI M (fun y M' => M' = M ∧ y = brV (chp H w u H.te))) 0 0 [.ref 17, .int (nI w), .int (nI u)] SHF M := by
  have t8 := hI.2.2.1
  have w8 := hI.2.1
  refine fw_of hl0 ⟨by decide +kernel, by decide +kernel, by decide +kernel⟩ rfl ?_
  refine chob_0 hR hl0 ?_
  have loop : ∀ (d k : Nat), k + d = H.te → AW l (pI pg 137) (fcI M (fun y M' => M' = M ∧ y = brV (chp H w u H.te))) 0 0 5 [(4, .int (nI k)), (3, .int (brV (chp H w u k))), (2, .int (nI u)), (1, .int (nI w)), (0, .ref 17)] [] SHF M := by
    intro d
    induction d with
    | zero =>
      intro k hk
      have ek : k = H.te := by omega
      subst ek
      have le : M.1 17 2 ≤ nI H.te := by rw [hH.te]; exact Int32.le_refl _
      exact chob_5 hR hl0 (fun _ => ⟨rfl, rfl, _, rfl, rfl, rfl⟩) (fun h => absurd le h) (fun h => absurd le h) (fun h => absurd le h) (fun h => absurd le h) (fun h => absurd le h) (fun h => absurd le h) (fun h => absurd le h)
    | succ d ih =>
      intro k hk
      have ng : ¬ M.1 17 2 ≤ nI k := by
        rw [hH.te, nle (by omega) (by omega)]
        omega
      have nx : nI k + Int32.ofInt 1 = nI (k + 1) := nI_1 k
      have ck : (nI k).toNatClampNeg = k := nI_clamp (by omega)
      obtain ⟨v0, v1, -, v3, v4⟩ := hI.2.2.2.2.2.2.2.2.2.2.2 k (by omega)
      have l1 : M.1 27 (nI k).toNatClampNeg = nI (H.t1 k) := by rw [ck]; exact hH.t1 k (by omega)
      have l3 : M.1 29 (nI k).toNatClampNeg = nI (H.t3 k) := by rw [ck]; exact hH.t3 k (by omega)
      have go := ih (k + 1) (by omega)
      refine chob_5 hR hl0 (fun h => absurd h ng) (fun _ => vp_in_nI (by omega) (by decide)) (fun _ h4 => ?_) (fun _ h4 h7 => ?_) (fun _ h4 h7 h11 => ?_) (fun _ h4 h7 h11 => ?_) (fun _ h4 h7 h11 h14 => ?_) (fun _ h4 h7 h11 h14 => ?_)
      · rw [l1, nI_eq (by omega) (by omega)] at h4
        rw [chp_no (fun q => h4 q.1)] at go
        rw [nx]
        exact go
      · rw [bitF (by omega) (by omega)] at h7
        rw [chp_no (fun q => h7 q.2)] at go
        rw [nx]
        exact go
      all_goals rw [l1, nI_eq (by omega) (by omega)] at h4
      all_goals rw [bitF (by omega) (by omega)] at h7
      all_goals rw [chp_is ⟨h4, h7⟩] at go
      · have ec := br_on4 h11 (fun b hb => by have := chp_lt k hb; omega)
        rw [ec] at go
        rw [nx]
        exact go
      · cases ec : chp H w u k with
        | none =>
          rw [ec] at h11
          exact absurd rfl h11
        | some b =>
          have := chp_lt k ec
          exact vp_in_nI (n := b) (by omega) (by decide)
      · cases ec : chp H w u k with
        | none =>
          rw [ec] at h11
          exact absurd rfl h11
        | some b =>
          have bl := chp_lt k ec
          obtain ⟨-, -, -, b3, b4⟩ := hI.2.2.2.2.2.2.2.2.2.2.2 b (by omega)
          rw [ec] at h14
          have h14 : M.1 29 (nI b).toNatClampNeg ≤ M.1 29 (nI k).toNatClampNeg := h14
          rw [l3, nI_clamp (n := b) (by omega), show M.1 29 b = nI (H.t3 b) from hH.t3 b (by omega), nle (by omega) (by omega)] at h14
          rw [ec, bet_g (by omega)] at go
          rw [nx]
          exact go
      · cases ec : chp H w u k with
        | none =>
          rw [ec] at h11
          exact absurd rfl h11
        | some b =>
          have bl := chp_lt k ec
          obtain ⟨-, -, -, b3, b4⟩ := hI.2.2.2.2.2.2.2.2.2.2.2 b (by omega)
          rw [ec] at h14
          have h14 : ¬ M.1 29 (nI b).toNatClampNeg ≤ M.1 29 (nI k).toNatClampNeg := h14
          rw [l3, nI_clamp (n := b) (by omega), show M.1 29 b = nI (H.t3 b) from hH.t3 b (by omega), nle (by omega) (by omega)] at h14
          rw [ec, bet_l (by omega)] at go
          rw [nx]
          exact go
  exact loop H.te 0 (by omega)
theorem bndb_c (hl0 : l.1.stackTraces = false) (hJ : JR RRS M) (hI : HI H) (hH : cHo 17 H M) {m : Nat} (hm : m ≤ 3) : AC l (pI pg 136) (fcI M (fun y M' => M' = M ∧ y = brV (bnF H m H.wo 0 0))) 0 0 [.ref 40, .ref 17, .int (nI m)] SHF M := by
  have hR := hJ.2
  have hRM : ∀ e ∈ RM, M.2.2 e.1 e.2.1 = e.2.2 := fun e he => rgR_ok hJ.2 (okR_RRS.1 e he)
  have t8 := hI.2.2.1
  have w8 := hI.2.1
  have p6 := hI.1
  refine fw_of hl0 ⟨by decide +kernel, by decide +kernel, by decide +kernel⟩ rfl ?_
  refine bndb_0 hR hl0 ?_
  have outer : ∀ (d w v : Nat), w + d = H.wo → bnF H m d w v = bnF H m H.wo 0 0 → AW l (pI pg 136) (fcI M (fun y M' => M' = M ∧ y = brV (bnF H m H.wo 0 0))) 0 0 5 [(4, .int (nI w)), (3, .int (nI v)), (2, .int (nI m)), (1, .ref 17)] [] SHF M := by
    intro d
    induction d with
    | zero =>
      intro w v hw hv
      have ew : w = H.wo := by omega
      subst ew
      have le : M.1 17 1 ≤ nI H.wo := by rw [hH.wo]; exact Int32.le_refl _
      exact bndb_5 hR hl0 (fun _ => ⟨rfl, rfl, _, rfl, rfl, by rw [← hv]; rfl⟩) (fun h => absurd le h) (fun _ _ => True) (fun h => absurd le h) (fun h => absurd le h)
    | succ d ih =>
      intro w v hw hv
      have ng : ¬ M.1 17 1 ≤ nI w := by
        rw [hH.wo, nle (by omega) (by omega)]
        omega
      have cw : (nI w).toNatClampNeg = w := nI_clamp (by omega)
      have cl := cnF_le (H := H) (w := w) H.pe
      have inner : ∀ (d2 i u v : Nat), i + d2 = m - cnF H w H.pe → u < 256 → (mrL H w d2 u v).bind (bnF H m d (w + 1)) = bnF H m H.wo 0 0 → AW l (pI pg 136) (fcI M (fun y M' => M' = M ∧ y = brV (bnF H m H.wo 0 0))) 0 0 34 [(7, .int (nI i)), (6, .int (nI u)), (5, .int (nI m - nI (cnF H w H.pe))), (4, .int (nI w)), (3, .int (nI v)), (2, .int (nI m)), (1, .ref 17)] [] SHF M := by
        intro d2
        induction d2 with
        | zero =>
          intro i u v hi hu hv
          have le : nI m - nI (cnF H w H.pe) ≤ nI i := (lack_i m hm _ (by omega) i (by omega)).mpr (by omega)
          refine bndb_34 hR hl0 (fun _ => ?_) (fun _ _ => True) (fun h => absurd le h) (fun h => absurd le h) (fun h => absurd le h) (fun h => absurd le h)
          rw [show nI w + Int32.ofInt 1 = nI (w + 1) from nI_1 w]
          exact ih (w + 1) v (by omega) hv
        | succ d2 ih2 =>
          intro i u v hi hu hv
          have ng2 : ¬ nI m - nI (cnF H w H.pe) ≤ nI i := fun h => by
            have := (lack_i m hm _ (by omega) i (by omega)).mp h
            omega
          have hv : (((chp H w u H.te).bind (fun b => mrL H w d2 (u ||| 2 ^ b) (v + H.t3 b))).bind (bnF H m d (w + 1))) = bnF H m H.wo 0 0 := hv
          refine bndb_34 hR hl0 (fun h => absurd h ng2) (fun y M' => M' = M ∧ y = brV (chp H w u H.te)) (fun _ => chob_c hl0 hR hI hH (by omega) hu) (fun _ y3 M3 e3 q3 h5 => ?_) (fun _ y3 M3 e3 q3 h5 => ?_) (fun _ y3 M3 e3 q3 h5 => ?_)
          · obtain ⟨rfl, rfl⟩ := q3
            cases ec : chp H w u H.te with
            | none =>
              rw [ec] at h5
              exact absurd rfl h5
            | some b =>
              have := chp_lt _ ec
              exact vp_in_nI (n := b) (by omega) (by decide)
          · obtain ⟨rfl, rfl⟩ := q3
            cases ec : chp H w u H.te with
            | none =>
              rw [ec] at h5
              exact absurd rfl h5
            | some b =>
              have bl := chp_lt _ ec
              have p28 : 2 ^ b ≤ 128 := Nat.le_trans (Nat.pow_le_pow_right (by decide) (show b ≤ 7 by omega)) (by decide)
              rw [ec] at hv
              show AW l (pI pg 136) _ 0 0 34 [(7, .int (nI i + Int32.ofInt 1)), (6, .int (nI u ||| (Int32.ofInt 1 <<< (nI b &&& 31)))), (5, .int (nI m - nI (cnF H w H.pe))), (4, .int (nI w)), (3, .int (nI v + M3.1 29 (nI b).toNatClampNeg)), (2, .int (nI m)), (1, .ref 17)] [] SHF M3
              rw [show nI i + Int32.ofInt 1 = nI (i + 1) from nI_1 i, shW (by omega), nI_orN (by omega) (by omega), nI_clamp (n := b) (by omega), show M3.1 29 b = nI (H.t3 b) from hH.t3 b (by omega), nI_add]
              exact ih2 (i + 1) (u ||| 2 ^ b) (v + H.t3 b) (by omega) (Nat.or_lt_two_pow (n := 8) (by omega) (by omega)) hv
          · obtain ⟨rfl, rfl⟩ := q3
            have ec := br_on4 h5 (fun b hb => by have := chp_lt _ hb; omega)
            rw [ec] at hv
            exact ⟨rfl, rfl, _, rfl, rfl, by rw [← hv]; rfl⟩
      refine bndb_5 hR hl0 (fun h => absurd h ng) (fun _ => vp_in_nI (by omega) (by decide)) (fun y M' => M' = M ∧ y = nI (cnF H w H.pe)) (fun _ => ?_) (fun _ y4 M4 e4 q4 => ?_)
      · rw [cw, show M.1 24 w = nI (H.dr w) from hH.dr w (by omega), ← cn_pc hI (show w < 8 by omega)]
        exact c21 hl0 hRM (Nat.lt_trans (hI.2.2.2.2.2.2.2.2.2.1 w (by omega)).1 (by decide))
      · obtain ⟨rfl, rfl⟩ := q4
        exact inner (m - cnF H w H.pe) 0 0 v (by omega) (by decide) hv
  exact outer H.wo 0 0 (by omega) rfl
theorem lrnb_c (hl0 : l.1.stackTraces = false) (hJ : JR RRS M) (hI : HI H) (hH : cHo 17 H M) (hs : ∀ t, t < 2 ^ H.wo → ((noC H H.wo t ∧ M.1 31 t = nI (sumL H H.wo t)) ∨ (¬ noC H H.wo t ∧ M.1 31 t = nI 99))) (hE : LNt H M) {b x : Int32} : AC l (pI pg 129) (PLn H b x M) 2 12 [.ref 0, .int b, .int x] SHF M := by
  have hR := hJ.2
  refine fw_of hl0 ⟨by decide +kernel, by decide +kernel, by decide +kernel⟩ rfl ?_
  refine lrnb_0 (kc := 1) (ks := 6) hR hl0 _ (fun h1 => lspb_c hl0 hR hI hH hs hE) (fun h1 y2 M2 e2 q2 => ?_) _ (fun h1 h5 => chsb_c hl0 hR hI hH hs hE) (fun h1 h5 y6 M6 e6 q6 => ?_) _ (fun h1 h5 h9 h10 => bndb_c (m := 2) hl0 hJ hI hH (by decide)) (fun h1 h5 h9 h10 y11 M11 e11 q11 => ?_) _ (fun h1 h5 h9 h10 => bndb_c (m := 3) hl0 hJ hI hH (by decide)) (fun h1 h5 h9 h10 y14 M14 e14 q14 => ?_) (fun h1 h5 h9 => ?_)
  · obtain ⟨g, v, v1, v2⟩ := q2
    exact ⟨rfl, Or.inr ⟨by rw [h1]; exact in3_of (k := 0) (by decide), _, rfl, Or.inl ⟨h1, v, v1, v2⟩, g⟩⟩
  · obtain ⟨g, -, v, v1, v2⟩ := q6
    exact ⟨rfl, Or.inr ⟨by rw [h5]; exact in3_of (k := 1) (by decide), _, rfl, Or.inr (Or.inl ⟨h5, v, v2, v1⟩), g⟩⟩
  · obtain ⟨rfl, rfl⟩ := q11
    exact ⟨rfl, Or.inr ⟨by rw [h9]; exact in3_of (k := 2) (by decide), _, rfl, Or.inr (Or.inr ⟨h9, Or.inl ⟨h10, rfl⟩⟩), hE⟩⟩
  · obtain ⟨rfl, rfl⟩ := q14
    exact ⟨rfl, Or.inr ⟨by rw [h9]; exact in3_of (k := 2) (by decide), _, rfl, Or.inr (Or.inr ⟨h9, Or.inr ⟨h10, rfl⟩⟩), hE⟩⟩
  · refine ⟨rfl, Or.inl ⟨fun h => ?_, rfl, rfl⟩⟩
    rcases in3 h with e | e | e
    · exact h1 e
    · exact h5 e
    · exact h9 e
end LRNB
