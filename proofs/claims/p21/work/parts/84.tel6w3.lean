/-! THE GUEST OF THE REFERENCE -/
section GUM
variable {l : aL} {M : aM} {H : HS} {x : Int32}
theorem mdl_fr {M M' : aM} {N : Nat} {D : rD} {fx : Nat → Int} (h : mdl M N D fx) (h1 : M'.2.2 = M.2.2) (h58 : ∀ k, k = 1 ∨ k = 2 → M'.1 58 k = M.1 58 k) (h2 : ∀ a k, a = 73 ∨ a = 74 ∨ a = 75 → M'.1 a k = M.1 a k) : mdl M' N D (rwI M' 76) := by
  obtain ⟨g1, g2, g3, g4, g5, g6, g7⟩ := h
  refine ⟨by rw [h1]; exact g1, ?_, ?_, fun p k => ?_, fun p => ?_, fun p w => ?_, fun w => rfl⟩
  · rw [h58 2 (Or.inr rfl)]; exact g2
  · rw [h58 1 (Or.inl rfl)]; exact g3
  · rw [h2 _ _ (Or.inl rfl)]; exact g4 p k
  · rw [h2 _ _ (Or.inr (Or.inl rfl))]; exact g5 p
  · rw [h2 _ _ (Or.inr (Or.inr rfl))]; exact g6 p w
/-- lays0 once more, over other rows -/
theorem lay2_c {R : sR} (hl0 : l.1.stackTraces = false) (hO : okR R) {Mb : aM} (hJ : JR R Mb) (hI : HI H) (h1 : Mb.1 58 1 = nI H.pe) (h2 : Mb.1 58 2 = nI H.wo) (hL : lsAll H 0 H.pe Mb) (e : M.2.2 = Mb.2.2) (f58 : ∀ k, k = 1 ∨ k = 2 → M.1 58 k = Mb.1 58 k) (fr : ∀ a k, a = 73 ∨ a = 74 ∨ a = 75 → M.1 a k = Mb.1 a k) {lf : Nat} (hlf : lf < 64) : AC l (pI pg 208) (fcI M (QLy H lf M)) 0 0 [.ref 58, .int (nI lf)] SHF M := by
  have w8 := hI.2.1
  have p6 := hI.1
  obtain ⟨g1, g2⟩ := mdl_of (left := lf) hO hJ hlf
  have eN : (Mb.1 58 1).toInt.toNat = H.pe := by
    rw [h1, nI_toInt (by omega)]
    rfl
  have eW : dW (mkD Mb lf) = H.wo := by
    show (Mb.1 58 2).toInt.toNat = H.wo
    rw [h2, nI_toInt (by omega)]
    rfl
  rw [eN] at g1 g2
  have hg : ∀ p w, p < H.pe → w < H.wo → dG (mkD Mb lf) p w = skG H p w := fun p w hp hw => by
    have := (hL p hp).2 w hw
    have sk := (hI.2.2.2.2.2.2.2.1 p w (by omega) (by omega)).1
    show (Mb.1 75 (8 * p + w)).toInt = (H.sk (8 * p + w) : Int)
    rw [this, nI_toInt (by omega)]
  have L := lsAll_hL (lf := lf) w8 hL
  rw [cd_fun] at L
  refine AC.post hl0 (fun r sh' M' hp => ?_) (c207f hl0 (mdl_fr g1 e f58 fr) g2 eW L)
  obtain ⟨r1, r2, y, r3, r4, r5⟩ := hp
  refine ⟨r1, r2, y, r3, r4, ?_⟩
  rcases r5 with r5 | ⟨y1, la, b1, b2, b3⟩
  · exact Or.inl r5
  · have b := brw_g hg b1
    have s9 := sk9 hI b.1
    refine Or.inr ⟨y1, la, b, Int32.toInt_inj.mp ?_, b3⟩
    rw [b2, row_g hg b1.1, Int32.toInt_ofInt_of_le (by omega) (by omega)]
/-- what sights leaves -/
def SHt (H : HS) (n : Nat) (M : aM) : Prop := ∀ a, a < n → ∃ f, isS H a f ∧ ∀ w, w < H.wo → M.1 84 (8 * a + w) = nI (f w)
def frS (M M' : aM) : Prop := ∀ a k, a ≠ 76 → a ≠ 77 → a ≠ 78 → a ≠ 80 → a ≠ 84 → (a = 58 → k ≠ 46) → M'.1 a k = M.1 a k
theorem sht_c {R : sR} (hl0 : l.1.stackTraces = false) (hO : okR R) (hk : cOk l pg R SHF en_98) (hJ : JR R M) (hI : HI H) (hm : mHo H M) : AC l (pI pg 231) (fcV M (fun M' => SHt H (H.pe + 1) M' ∧ ∀ a k, a ≠ 73 → a ≠ 74 → a ≠ 75 → a ≠ 76 → a ≠ 77 → a ≠ 78 → a ≠ 80 → a ≠ 84 → (a = 58 → k ≠ 46) → M'.1 a k = M.1 a k)) 0 0 [.ref 58] SHF M := by
  have w8 := hI.2.1
  have p6 := hI.1
  have hR : ∀ e ∈ RM, M.2.2 e.1 e.2.1 = e.2.2 := fun e he => rgR_ok hJ.2 (hO.1 e he)
  refine fw_of hl0 ⟨by decide +kernel, by decide +kernel, by decide +kernel⟩ rfl ?_
  refine sht_0 hR hl0 _ (lal_j hl0 hk hR hJ hI hm) (fun Mb eb qb => ?_)
  obtain ⟨jb, qb1, qb2⟩ := qb
  have hRb : ∀ e ∈ RM, Mb.2.2 e.1 e.2.1 = e.2.2 := by rw [eb]; exact hR
  have mb : mHo H Mb := mH_fr hm (fun k => qb2 58 k (by decide) (by decide) (by decide)) (fun a k a1 a2 => qb2 a k (by omega) (by omega) (by omega))
  have f1 : ∀ {Mc : aM}, frS Mb Mc → Mc.1 58 1 = nI H.pe := fun {Mc} h => (h 58 1 (by decide) (by decide) (by decide) (by decide) (by decide) (by decide)).trans mb.1
  have f2 : ∀ {Mc : aM}, frS Mb Mc → Mc.1 58 2 = nI H.wo := fun {Mc} h => (h 58 2 (by decide) (by decide) (by decide) (by decide) (by decide) (by decide)).trans mb.2.1
  have lay : ∀ {Mc : aM} {a : Nat}, Mc.2.2 = Mb.2.2 → frS Mb Mc → AC l (pI pg 208) (fcI Mc (QLy H (lfG H a) Mc)) 0 0 [.ref 58, .int (nI (lfG H a))] SHF Mc := fun {Mc a} e h => lay2_c (Mb := Mb) hl0 hO jb hI mb.1 mb.2.1 qb1 e (fun k hk => h 58 k (by decide) (by decide) (by decide) (by decide) (by decide) (fun _ => by omega)) (fun a k ha => h a k (by omega) (by omega) (by omega) (by omega) (by omega) (fun e => by omega)) (lfG_lt p6)
  have outer : ∀ (d a : Nat) (M1 : aM), a + d = H.pe + 1 → M1.2.2 = Mb.2.2 → frS Mb M1 → SHt H a M1 → AW l (pI pg 231) (fcV M (fun M' => SHt H (H.pe + 1) M' ∧ ∀ a k, a ≠ 73 → a ≠ 74 → a ≠ 75 → a ≠ 76 → a ≠ 77 → a ≠ 78 → a ≠ 80 → a ≠ 84 → (a = 58 → k ≠ 46) → M'.1 a k = M.1 a k)) 0 0 7 [(1, .int (nI a)), (0, .ref 58)] [] SHF M1 := by
    intro d
    induction d with
    | zero =>
      intro a M1 ha h1 h2 h3
      have ea : a = H.pe + 1 := by omega
      subst ea
      have lt : M1.1 58 1 < nI (H.pe + 1) := by
        rw [f1 h2, nlt (by omega) (by omega)]
        omega
      exact sht_7 (by rw [h1]; exact hRb) hl0 (fun _ => ⟨rfl, h1.trans eb, rfl, h3, fun a k a1 a2 a3 a4 a5 a6 a7 a8 a9 => (h2 a k a4 a5 a6 a7 a8 a9).trans (qb2 a k a1 a2 a3)⟩) (fun _ _ => True) (fun h => absurd lt h) (fun h => absurd lt h) (fun _ _ => True) (fun h => absurd lt h) (fun h => absurd lt h)
    | succ d ih =>
      intro a M1 ha h1 h2 h3
      have nl : ¬ M1.1 58 1 < nI a := by
        rw [f1 h2, nlt (by omega) (by omega)]
        omega
      have works : ∀ (y : Int32) (M2 : aM), M2.2.2 = M1.2.2 → QLy H (lfG H a) M1 y M2 → AW l (pI pg 231) (fcV M (fun M' => SHt H (H.pe + 1) M' ∧ ∀ a k, a ≠ 73 → a ≠ 74 → a ≠ 75 → a ≠ 76 → a ≠ 77 → a ≠ 78 → a ≠ 80 → a ≠ 84 → (a = 58 → k ≠ 46) → M'.1 a k = M.1 a k)) 0 0 48 [(3, .int (Int32.ofInt 0)), (2, .int y), (1, .int (nI a)), (0, .ref 58)] [] SHF M2 := by
        intro y M2 e2 q2
        obtain ⟨q2, q3⟩ := q2
        have fr2 : frS Mb M2 := fun b k b1 b2 b3 b4 b5 b6 => (q2 b k b1 b2 b3 b4 b6).trans (h2 b k b1 b2 b3 b4 b5 b6)
        have s2 : SHt H a M2 := fun b hb => by
          obtain ⟨f, g1, g2⟩ := h3 b hb
          exact ⟨f, g1, fun w hw => (q2 84 _ (by decide) (by decide) (by decide) (by decide) (fun e => absurd e (by decide))).trans (g2 w hw)⟩
        obtain ⟨g, g1, g2⟩ : ∃ g, isS H a g ∧ ((y = 0 ∧ ∀ w, w < H.wo → g w = 0) ∨ (¬ y = 0 ∧ ∃ la : Nat → Nat, (∀ w, w < H.wo → la w < H.pe ∧ M2.1 80 w = nI (la w)) ∧ ∀ w, w < H.wo → g w = H.sk (8 * la w + w))) := by
          rcases q3 with ⟨y0, q3⟩ | ⟨y1, la, q3, -, q4⟩
          · exact ⟨fun _ => 0, Or.inr ⟨q3, fun _ _ => rfl⟩, Or.inl ⟨y0, fun _ _ => rfl⟩⟩
          · exact ⟨fun w => H.sk (8 * la w + w), Or.inl ⟨la, q3, fun _ _ => rfl⟩, Or.inr ⟨by rw [y1]; decide, la, fun w hw => ⟨(q3.1.1 w hw (ful_bit hw)).1, q4 w hw⟩, fun _ _ => rfl⟩⟩
        have inner : ∀ (d2 w : Nat) (M3 : aM), w + d2 = H.wo → M3.2.2 = Mb.2.2 → frS Mb M3 → (∀ k, M3.1 80 k = M2.1 80 k) → SHt H a M3 → (∀ z, z < w → M3.1 84 (8 * a + z) = nI (g z)) → AW l (pI pg 231) (fcV M (fun M' => SHt H (H.pe + 1) M' ∧ ∀ a k, a ≠ 73 → a ≠ 74 → a ≠ 75 → a ≠ 76 → a ≠ 77 → a ≠ 78 → a ≠ 80 → a ≠ 84 → (a = 58 → k ≠ 46) → M'.1 a k = M.1 a k)) 0 0 48 [(3, .int (nI w)), (2, .int y), (1, .int (nI a)), (0, .ref 58)] [] SHF M3 := by
          intro d2
          induction d2 with
          | zero =>
            intro w M3 hw k1 k2 k3 k4 k5
            have ew : w = H.wo := by omega
            subst ew
            have le : M3.1 58 2 ≤ nI H.wo := by rw [f2 k2]; exact Int32.le_refl _
            refine sht_48 (by rw [k1]; exact hRb) hl0 (fun _ => ?_) (fun h => absurd le h) (fun h => absurd le h) (fun h => absurd le h) (fun h => absurd le h) (fun h => absurd le h) (fun h => absurd le h)
            rw [show nI a + Int32.ofInt 1 = nI (a + 1) from nI_1 a]
            refine ih (a + 1) M3 (by omega) k1 k2 (fun b hb => ?_)
            by_cases e : b = a
            · rw [e]
              exact ⟨g, g1, k5⟩
            · exact k4 b (by omega)
          | succ d2 ih2 =>
            intro w M3 hw k1 k2 k3 k4 k5
            have ng : ¬ M3.1 58 2 ≤ nI w := by
              rw [f2 k2, nle (by omega) (by omega)]
              omega
            have nx : nI w + Int32.ofInt 1 = nI (w + 1) := nI_1 w
            have ix : (Int8.ofInt 8).toInt32 * nI a + nI w = nI (8 * a + w) := by rw [z_8, nI_mulN, nI_add]
            have ci : (nI (8 * a + w)).toNatClampNeg = 8 * a + w := nI_clamp (by omega)
            have cw : (nI w).toNatClampNeg = w := nI_clamp (by omega)
            have step : ∀ v : Int32, v = nI (g w) → AW l (pI pg 231) (fcV M (fun M' => SHt H (H.pe + 1) M' ∧ ∀ a k, a ≠ 73 → a ≠ 74 → a ≠ 75 → a ≠ 76 → a ≠ 77 → a ≠ 78 → a ≠ 80 → a ≠ 84 → (a = 58 → k ≠ 46) → M'.1 a k = M.1 a k)) 0 0 48 [(3, .int (nI (w + 1))), (2, .int y), (1, .int (nI a)), (0, .ref 58)] [] SHF (aset M3 84 (8 * a + w) (.int v)) := by
              intro v hv
              subst hv
              refine ih2 (w + 1) _ (by omega) k1 (fun b k b1 b2 b3 b4 b5 b6 => ?_) (fun k => ?_) (fun b hb => ?_) (fun z hz => ?_)
              · rw [set_1, if_neg b5]
                exact k2 b k b1 b2 b3 b4 b5 b6
              · rw [set_1, if_neg (by decide)]
                exact k3 k
              · obtain ⟨f, u1, u2⟩ := k4 b hb
                refine ⟨f, u1, fun z hz => ?_⟩
                rw [set_1, if_pos rfl, if_neg (by omega)]
                exact u2 z hz
              · rw [set_1, if_pos rfl]
                by_cases e : z = w
                · rw [e, if_pos rfl]
                · rw [if_neg (by omega)]
                  exact k5 z (by omega)
            refine sht_48 (by rw [k1]; exact hRb) hl0 (fun h => absurd h ng) (fun _ _ => by rw [ix]; exact vp_in_nI (by omega) (by decide)) (fun _ h3 => ?_) (fun _ _ => vp_in_nI (by omega) (by decide)) (fun _ h3 => ?_) (fun _ _ => by rw [ix]; exact vp_in_nI (by omega) (by decide)) (fun _ h3 => ?_)
            · obtain ⟨-, g3⟩ := g2.resolve_right (fun q => q.1 h3)
              rw [nx, ix, ci]
              exact step _ (by rw [g3 w (by omega)]; rfl)
            · obtain ⟨-, la, g3, g4⟩ := g2.resolve_left (fun q => h3 q.1)
              obtain ⟨u1, u2⟩ := g3 w (by omega)
              rw [cw, k3 w, u2, z_8, nI_mulN, nI_add]
              exact vp_in_nI (by omega) (by decide)
            · obtain ⟨-, la, g3, g4⟩ := g2.resolve_left (fun q => h3 q.1)
              obtain ⟨u1, u2⟩ := g3 w (by omega)
              rw [nx, ix, ci, cw, k3 w, u2, z_8, nI_mulN, nI_add, nI_clamp (by omega)]
              refine step _ ?_
              rw [k2 63 _ (by decide) (by decide) (by decide) (by decide) (by decide) (fun e => absurd e (by decide)), g4 w (by omega)]
              exact mb.2.2.2.2.2.2.2.2.1 (la w) w u1 (by omega)
        exact inner H.wo 0 M2 (by omega) (e2.trans h1) fr2 (fun _ => rfl) s2 (fun z hz => absurd hz (Nat.not_lt_zero _))
      refine sht_7 (by rw [h1]; exact hRb) hl0 (fun h => absurd h nl) (QLy H (lfG H a) M1) (fun _ h3 => ?_) (fun _ h3 y4 M4 e4 q4 => works y4 M4 e4 q4) (QLy H (lfG H a) M1) (fun _ h3 => ?_) (fun _ h3 y4 M4 e4 q4 => works y4 M4 e4 q4)
      · rw [f1 h2, nle (by omega) (by omega)] at h3
        have e : a = H.pe := by omega
        rw [f1 h2, awg_n H.pe p6, show 2 ^ H.pe - 1 = lfG H a by rw [e]; exact (if_neg (Nat.lt_irrefl _)).symm]
        exact lay h1 h2
      · rw [f1 h2, nle (by omega) (by omega)] at h3
        rw [f1 h2, awg_m H.pe p6 a (by omega), show awg H.pe a = lfG H a from (if_pos (by omega)).symm]
        exact lay h1 h2
  exact outer (H.pe + 1) 0 Mb (by omega) rfl (fun _ _ _ _ _ _ _ _ => rfl) (fun a ha => absurd ha (Nat.not_lt_zero _))
theorem alk_c (hl0 : l.1.stackTraces = false) (hR : ∀ e ∈ RM, M.2.2 e.1 e.2.1 = e.2.2) (hI : HI H) (h2 : M.1 58 2 = nI H.wo) (hS : SHt H (H.pe + 1) M) {a b s : Nat} (ha : a ≤ H.pe) (hb : b ≤ H.pe) (hs : s < 256) : AC l (pI pg 233) (fcI M (fun y M' => M' = M ∧ ((y = Int32.ofInt 1 ∧ lkSg H s a b) ∨ (y = Int32.ofInt 0 ∧ ¬ lkSg H s a b)))) 0 0 [.ref 58, .int (nI a), .int (nI b), .int (nI s)] SHF M := by
  have w8 := hI.2.1
  have p6 := hI.1
  obtain ⟨f, f1, f2⟩ := hS a (by omega)
  obtain ⟨g, g1, g2⟩ := hS b (by omega)
  refine fw_of hl0 ⟨by decide +kernel, by decide +kernel, by decide +kernel⟩ rfl ?_
  refine alk_0 hR hl0 ?_
  have loop : ∀ (d w : Nat), w + d = H.wo → (∀ z, z < w → s.testBit z = true → sgF H a z = sgF H b z) → AW l (pI pg 233) (fcI M (fun y M' => M' = M ∧ ((y = Int32.ofInt 1 ∧ lkSg H s a b) ∨ (y = Int32.ofInt 0 ∧ ¬ lkSg H s a b)))) 0 0 3 [(4, .int (nI w)), (3, .int (nI s)), (2, .int (nI b)), (1, .int (nI a)), (0, .ref 58)] [] SHF M := by
    intro d
    induction d with
    | zero =>
      intro w hw hz
      have ew : w = H.wo := by omega
      subst ew
      have le : M.1 58 2 ≤ nI H.wo := by rw [h2]; exact Int32.le_refl _
      exact alk_3 hR hl0 (fun _ => ⟨rfl, rfl, _, rfl, rfl, Or.inl ⟨rfl, hz⟩⟩) (fun h => absurd le h) (fun h => absurd le h) (fun h => absurd le h) (fun h => absurd le h) (fun h => absurd le h)
    | succ d ih =>
      intro w hw hz
      have ng : ¬ M.1 58 2 ≤ nI w := by
        rw [h2, nle (by omega) (by omega)]
        omega
      have nx : nI w + Int32.ofInt 1 = nI (w + 1) := nI_1 w
      have ia : (Int8.ofInt 8).toInt32 * nI a + nI w = nI (8 * a + w) := by rw [z_8, nI_mulN, nI_add]
      have ib : (Int8.ofInt 8).toInt32 * nI b + nI w = nI (8 * b + w) := by rw [z_8, nI_mulN, nI_add]
      have l1 := isS_lt hI f1 w (by omega)
      have l2 := isS_lt hI g1 w (by omega)
      have eq : (M.1 84 (nI (8 * a + w)).toNatClampNeg = M.1 84 (nI (8 * b + w)).toNatClampNeg) ↔ sgF H a w = sgF H b w := by
        rw [nI_clamp (by omega), nI_clamp (by omega), f2 w (by omega), g2 w (by omega), nI_eq (by omega) (by omega), sgF_eq f1 w (by omega), sgF_eq g1 w (by omega)]
      refine alk_3 hR hl0 (fun h => absurd h ng) (fun _ h3 => ?_) (fun _ _ => by rw [ia]; exact vp_in_nI (by omega) (by decide)) (fun _ _ => by rw [ib]; exact vp_in_nI (by omega) (by decide)) (fun _ h3 h7 => ?_) (fun _ h3 h7 => ?_)
      · rw [bitT (by omega) (by omega)] at h3
        rw [nx]
        refine ih (w + 1) (by omega) (fun z hz1 hz2 => ?_)
        by_cases e : z = w
        · rw [e] at hz2
          exact absurd hz2 h3
        · exact hz z (by omega) hz2
      · rw [ia, ib, eq] at h7
        rw [nx]
        refine ih (w + 1) (by omega) (fun z hz1 hz2 => ?_)
        by_cases e : z = w
        · rw [e]
          exact h7
        · exact hz z (by omega) hz2
      · rw [ia, ib, eq] at h7
        rw [bitT (by omega) (by omega)] at h3
        exact ⟨rfl, rfl, _, rfl, rfl, Or.inr ⟨rfl, fun h => h7 (h w (by omega) h3)⟩⟩
  exact loop H.wo 0 (by omega) (fun z hz => absurd hz (Nat.not_lt_zero _))
theorem chn_c (hl0 : l.1.stackTraces = false) (hR : ∀ e ∈ RM, M.2.2 e.1 e.2.1 = e.2.2) (hI : HI H) (hm : mHo H M) {a : Nat} (ha : a ≤ H.pe) : AC l (pI pg 234) (fcI M (fun y M' => M' = M ∧ y = nI (chG H a))) 0 0 [.ref 58, .int (nI a)] SHF M := by
  have p6 := hI.1
  have sm := hI.2.2.2.2.2.1
  have ch : ∀ p, p < H.pe → M.1 60 (nI p).toNatClampNeg = nI (H.ch p) := fun p hp => by
    rw [nI_clamp (by omega)]
    exact hm.2.2.2.2.2.1 p hp
  refine fw_of hl0 ⟨by decide +kernel, by decide +kernel, by decide +kernel⟩ rfl ?_
  have loop : ∀ (d p : Nat), p + d = H.pe → smF H.ch p ≤ 1000 → a = H.pe → AW l (pI pg 234) (fcI M (fun y M' => M' = M ∧ y = nI (chG H a))) 0 0 21 [(3, .int (nI p)), (2, .int (nI (1000 - smF H.ch p))), (0, .ref 58)] [] SHF M := by
    intro d
    induction d with
    | zero =>
      intro p hp hs ea
      have ep : p = H.pe := by omega
      subst ep
      have le : M.1 58 1 ≤ nI H.pe := by rw [hm.1]; exact Int32.le_refl _
      exact chn_21 hR hl0 (fun _ => ⟨rfl, rfl, _, rfl, rfl, by rw [ea, show chG H H.pe = 1000 - smF H.ch H.pe from if_neg (Nat.lt_irrefl _)]⟩) (fun h => absurd le h) (fun h => absurd le h)
    | succ d ih =>
      intro p hp hs ea
      have ng : ¬ M.1 58 1 ≤ nI p := by
        rw [hm.1, nle (by omega) (by omega)]
        omega
      have s1 : smF H.ch (p + 1) = smF H.ch p + H.ch p := rfl
      have mono : ∀ d n, smF H.ch n ≤ smF H.ch (n + d) := fun d n => by
        induction d with
        | zero => exact Nat.le_refl _
        | succ d ih => exact Nat.le_trans ih (Nat.le_add_right _ _)
      have s2 := mono (H.pe - (p + 1)) (p + 1)
      rw [show p + 1 + (H.pe - (p + 1)) = H.pe by omega] at s2
      refine chn_21 hR hl0 (fun h => absurd h ng) (fun _ => vp_in_nI (by omega) (by decide)) (fun _ => ?_)
      rw [ch p (by omega), show nI p + Int32.ofInt 1 = nI (p + 1) from nI_1 p, show nI (1000 - smF H.ch p) - nI (H.ch p) = nI (1000 - smF H.ch (p + 1)) by rw [s1, ← Nat.sub_sub]; exact nI_subN (by omega) (by omega)]
      exact ih (p + 1) (by omega) (by omega) ea
  refine chn_0 hR hl0 (fun h1 => ?_) (fun h1 => vp_in_nI (by rw [hm.1, nle (by omega) (by omega)] at h1; omega) (by decide)) (fun h1 => ?_)
  · rw [hm.1, nle (by omega) (by omega)] at h1
    rw [show (Int16.ofInt 1000).toInt32 = nI (1000 - smF H.ch 0) from (by decide : (Int16.ofInt 1000).toInt32 = nI 1000)]
    exact loop H.pe 0 (by omega) (Nat.zero_le _) (by omega)
  · rw [hm.1, nle (by omega) (by omega)] at h1
    exact ⟨rfl, rfl, _, rfl, rfl, by rw [ch a (by omega), show chG H a = H.ch a from if_pos (by omega)]⟩
theorem gue_c (hl0 : l.1.stackTraces = false) (hR : ∀ e ∈ RM, M.2.2 e.1 e.2.1 = e.2.2) (hI : HI H) (hm : mHo H M) (hS : SHt H (H.pe + 1) M) {s : Nat} (hs : s < 256) : AC l (pI pg 232) (fcI M (fun y M' => M' = M ∧ y = nI (guV H s))) 0 0 [.ref 58, .int (nI s)] SHF M := by
  have p6 := hI.1
  refine fw_of hl0 ⟨by decide +kernel, by decide +kernel, by decide +kernel⟩ rfl ?_
  refine gue_0 hR hl0 ?_
  have outer : ∀ (d a : Nat), a + d = H.pe + 1 → AW l (pI pg 232) (fcI M (fun y M' => M' = M ∧ y = nI (guV H s))) 0 0 4 [(3, .int (nI a)), (2, .int (nI (gmV0 H s a))), (1, .int (nI s)), (0, .ref 58)] [] SHF M := by
    intro d
    induction d with
    | zero =>
      intro a ha
      have ea : a = H.pe + 1 := by omega
      subst ea
      have lt : M.1 58 1 < nI (H.pe + 1) := by
        rw [hm.1, nlt (by omega) (by omega)]
        omega
      exact gue_4 hR hl0 (fun _ => ⟨rfl, rfl, _, rfl, rfl, by rw [guV_m]⟩) (fun h => absurd lt h)
    | succ d ih =>
      intro a ha
      have nl : ¬ M.1 58 1 < nI a := by
        rw [hm.1, nlt (by omega) (by omega)]
        omega
      have nxa : nI a + Int32.ofInt 1 = nI (a + 1) := nI_1 a
      have gl := gm_le hI (s := s) (n := a) (by omega)
      refine gue_4 hR hl0 (fun h => absurd h nl) (fun _ => ?_)
      -- those behind
      have third : ∀ (d2 b : Nat), b + d2 = H.pe + 1 → fsG (lkSg H s) a → a ≤ b → AW l (pI pg 232) (fcI M (fun y M' => M' = M ∧ y = nI (guV H s))) 0 0 67 [(6, .int (nI b)), (5, .int (nI (mxG (lkSg H s) (chG H) a b))), (3, .int (nI a)), (2, .int (nI (gmV0 H s a))), (1, .int (nI s)), (0, .ref 58)] [] SHF M := by
        intro d2
        induction d2 with
        | zero =>
          intro b hb hf hab
          have eb : b = H.pe + 1 := by omega
          subst eb
          have lt : M.1 58 1 < nI (H.pe + 1) := by
            rw [hm.1, nlt (by omega) (by omega)]
            omega
          refine gue_67 hR hl0 (fun _ => ?_) (fun _ _ => True) (fun h => absurd lt h) (fun h => absurd lt h) (fun _ _ _ _ => True) (fun h => absurd lt h) (fun h => absurd lt h) (fun _ _ _ _ _ _ => True) (fun h => absurd lt h) (fun h => absurd lt h)
          have e : gmV0 H s (a + 1) = gmV0 H s a + mxG (lkSg H s) (chG H) a (H.pe + 1) := by
            show gmV0 H s a + fiN (fsG (lkSg H s) a) _ = _
            rw [fiN_t hf]
          rw [nxa, nI_add, ← e]
          exact ih (a + 1) (by omega)
        | succ d2 ih2 =>
          intro b hb hf hab
          have nl2 : ¬ M.1 58 1 < nI b := by
            rw [hm.1, nlt (by omega) (by omega)]
            omega
          have nxb : nI b + Int32.ofInt 1 = nI (b + 1) := nI_1 b
          have ml := mxG_le hI (s := s) (a := a) b
          have cl := chG_le hI b
          refine gue_67 hR hl0 (fun h => absurd h nl2) (fun y M' => M' = M ∧ ((y = Int32.ofInt 1 ∧ lkSg H s a b) ∨ (y = Int32.ofInt 0 ∧ ¬ lkSg H s a b))) (fun _ => alk_c hl0 hR hI hm.2.1 hS (by omega) (by omega) hs) (fun _ y3 M3 e3 q3 h5 => ?_) (fun _ M3 y M' => M' = M3 ∧ y = nI (chG H b)) (fun _ y3 M3 e3 q3 h5 => ?_) (fun _ y3 M3 e3 q3 h5 y7 M7 e7 q7 h9 => ?_) (fun _ _ _ M7 y M' => M' = M7 ∧ y = nI (chG H b)) (fun _ y3 M3 e3 q3 h5 y7 M7 e7 q7 h9 => ?_) (fun _ y3 M3 e3 q3 h5 y7 M7 e7 q7 h9 y11 M11 e11 q11 => ?_)
          · obtain ⟨rfl, q3⟩ := q3
            obtain ⟨-, q4⟩ := q3.resolve_left (fun q => absurd (q.1.symm.trans h5) (by decide))
            have e : mxG (lkSg H s) (chG H) a (b + 1) = mxG (lkSg H s) (chG H) a b := mxG_f (fun q => q4 q.2.1)
            rw [nxb, ← e]
            exact ih2 (b + 1) (by omega) hf (by omega)
          · obtain ⟨rfl, -⟩ := q3
            exact chn_c hl0 hR hI hm (by omega)
          · obtain ⟨rfl, q3⟩ := q3
            obtain ⟨rfl, rfl⟩ := q7
            rw [nle (by omega) (by omega)] at h9
            have e : mxG (lkSg H s) (chG H) a (b + 1) = mxG (lkSg H s) (chG H) a b := mxG_f (fun q => by have := q.2.2; omega)
            rw [nxb, ← e]
            exact ih2 (b + 1) (by omega) hf (by omega)
          · obtain ⟨rfl, -⟩ := q3
            obtain ⟨rfl, -⟩ := q7
            exact chn_c hl0 hR hI hm (by omega)
          · obtain ⟨rfl, q3⟩ := q3
            obtain ⟨rfl, rfl⟩ := q7
            obtain ⟨rfl, rfl⟩ := q11
            obtain ⟨-, q4⟩ := q3.resolve_right (fun q => h5 q.1)
            rw [nle (by omega) (by omega)] at h9
            have e : mxG (lkSg H s) (chG H) a (b + 1) = chG H b := mxG_t ⟨hab, q4, by omega⟩
            rw [nxb, ← e]
            exact ih2 (b + 1) (by omega) hf (by omega)
      -- those ahead
      have second : ∀ (d2 b : Nat) (k : Int32), b + d2 = a → ((k = Int32.ofInt 1 ∧ ∀ z, z < b → ¬ lkSg H s a z) ∨ (k = Int32.ofInt 0 ∧ ∃ z, z < b ∧ lkSg H s a z)) → AW l (pI pg 232) (fcI M (fun y M' => M' = M ∧ y = nI (guV H s))) 0 0 18 [(5, .int (nI b)), (4, .int k), (3, .int (nI a)), (2, .int (nI (gmV0 H s a))), (1, .int (nI s)), (0, .ref 58)] [] SHF M := by
        intro d2
        induction d2 with
        | zero =>
          intro b k hb hk
          have eb : b = a := by omega
          subst eb
          have le : nI b ≤ nI b := Int32.le_refl _
          refine gue_18 hR hl0 (fun _ h2 => ?_) (fun _ h2 => ?_) (fun h => absurd le h) (fun _ _ => True) (fun h => absurd le h) (fun h => absurd le h) (fun h => absurd le h)
          · obtain ⟨-, hf⟩ := hk.resolve_right (fun q => h2 q.1)
            have m0 : nI (mxG (lkSg H s) (chG H) b b) = Int32.ofInt 0 := by
              rw [mxG_0 b (Nat.le_refl _)]
              rfl
            have := third (H.pe + 1 - b) b (by omega) hf (Nat.le_refl _)
            rw [m0] at this
            exact this
          · obtain ⟨-, z, z1, z2⟩ := hk.resolve_left (fun q => absurd (q.1.symm.trans h2) (by decide))
            have e : gmV0 H s (b + 1) = gmV0 H s b := by
              show gmV0 H s b + fiN (fsG (lkSg H s) b) _ = _
              rw [fiN_f (fun q => q z z1 z2), Nat.add_zero]
            rw [nxa, ← e]
            exact ih (b + 1) (by omega)
        | succ d2 ih2 =>
          intro b k hb hk
          have ng : ¬ nI a ≤ nI b := by
            rw [nle (by omega) (by omega)]
            omega
          have nxb : nI b + Int32.ofInt 1 = nI (b + 1) := nI_1 b
          refine gue_18 hR hl0 (fun h => absurd h ng) (fun h => absurd h ng) (fun _ h5 => ?_) (fun y M' => M' = M ∧ ((y = Int32.ofInt 1 ∧ lkSg H s a b) ∨ (y = Int32.ofInt 0 ∧ ¬ lkSg H s a b))) (fun _ h5 => alk_c hl0 hR hI hm.2.1 hS (by omega) (by omega) hs) (fun _ h5 y7 M7 e7 q7 h9 => ?_) (fun _ h5 y7 M7 e7 q7 h9 => ?_)
          · obtain ⟨-, z, z1, z2⟩ := hk.resolve_left (fun q => absurd (q.1.symm.trans h5) (by decide))
            rw [nxb]
            exact ih2 (b + 1) _ (by omega) (Or.inr ⟨rfl, z, by omega, z2⟩)
          · obtain ⟨rfl, q7⟩ := q7
            obtain ⟨-, q8⟩ := q7.resolve_right (fun q => h9 q.1)
            rw [nxb]
            exact ih2 (b + 1) _ (by omega) (Or.inr ⟨rfl, b, by omega, q8⟩)
          · obtain ⟨rfl, q7⟩ := q7
            obtain ⟨-, q8⟩ := q7.resolve_left (fun q => absurd (q.1.symm.trans h9) (by decide))
            obtain ⟨-, k2⟩ := hk.resolve_right (fun q => h5 q.1)
            rw [nxb]
            refine ih2 (b + 1) _ (by omega) (Or.inl ⟨rfl, fun z hz => ?_⟩)
            by_cases e : z = b
            · rw [e]
              exact q8
            · exact k2 z (by omega)
      exact second a 0 _ (by omega) (Or.inl ⟨rfl, fun z hz => absurd hz (Nat.not_lt_zero _)⟩)
  exact outer (H.pe + 1) 0 (by omega)
def loI (H : HS) (x z : Int32) : Prop := z = nI (guV H x.toNatClampNeg)
theorem loI_u : ∀ y z, loI H x y → loI H x z → y = z := fun y z h h' => h.trans h'.symm
noncomputable def piW (n : Nat) (p : Int32 → Prop) (x : Int32) : Option Int32 := if inN n x then some (Classical.epsilon p) else none
theorem piW_no {n : Nat} {p : Int32 → Prop} (h : ¬ inN n x) : piW n p x = none := if_neg h
theorem piW_is {n : Nat} {p : Int32 → Prop} {z : Int32} (h : inN n x) (hz : p z) (hu : ∀ y z, p y → p z → y = z) : piW n p x = some z := by
  rw [piW, if_pos h, hu _ z (Classical.epsilon_spec ⟨z, hz⟩) hz]
theorem wIn {w : Nat} (w8 : w ≤ 8) (h1 : ¬ x < 0) (h2 : ¬ nI (2 ^ w) ≤ x) : inN (2 ^ w) x := by
  have P8 := p2_8 w8
  rw [Int32.lt_iff_toInt_lt, show (0 : Int32).toInt = 0 by decide] at h1
  rw [Int32.le_iff_toInt_le, nI_toInt (by omega)] at h2
  exact ⟨by omega, by omega⟩
theorem mlk_c {R : sR} (hl0 : l.1.stackTraces = false) (hO : okR R) (hk : cOk l pg R SHF en_98) (w0 : wcF R.1 58 0 (0, 2) = true) (hJ : JR R M) (hI : HI H) (hm : mHo H M) : AC l (pI pg 230) (fcI M (fun z M' => mO (piW (2 ^ H.wo) (loI H x) x) z M')) 0 0 [.ref 58, .int x] SHF M := by
  have w8 := hI.2.1
  have P8 := p2_8 w8
  have hR : ∀ e ∈ RM, M.2.2 e.1 e.2.1 = e.2.2 := fun e he => rgR_ok hJ.2 (hO.1 e he)
  refine fw_of hl0 ⟨by decide +kernel, by decide +kernel, by decide +kernel⟩ rfl ?_
  have z1 : ¬ (1 : Int32) = 0 := by decide
  have m0 : mHo H (M0w M) := mH_fr0 hm
  have j0 : JR R (M0w M) := JR_set (q := (0, 2)) hJ w0 ⟨by decide, by decide⟩
  have esh : Int32.ofInt 1 <<< ((aset M 58 0 (.int (Int32.ofInt 0))).1 58 2 &&& 31) = nI (2 ^ H.wo) := by
    show Int32.ofInt 1 <<< (M.1 58 2 &&& 31) = _
    rw [hm.2.1, shW w8]
  have no1 : x < 0 → ¬ inN (2 ^ H.wo) x := fun h q => by
    rw [Int32.lt_iff_toInt_lt, show (0 : Int32).toInt = 0 by decide] at h
    have := q.1
    omega
  have no2 : nI (2 ^ H.wo) ≤ x → ¬ inN (2 ^ H.wo) x := fun h q => by
    rw [Int32.le_iff_toInt_le, nI_toInt (by omega)] at h
    have := q.2
    omega
  refine mlk_0 hR hl0 (fun z M' => z = 0 ∧ M' = M1w M) (fun h1 => ?_) (fun _ _ _ => True) (fun h1 y2 M2 e2 q2 h4 => absurd q2.1 h4) (fun _ _ _ _ _ => True) (fun h1 y2 M2 e2 q2 h4 => absurd q2.1 h4) (fun h1 y2 M2 e2 q2 h4 => absurd q2.1 h4) (fun h1 y2 M2 e2 q2 h4 => ?_) (fun z M' => z = 0 ∧ M' = M1w M) (fun h1 h11 => ?_) (fun _ _ _ => True) (fun h1 h11 y2 M2 e2 q2 h4 => absurd q2.1 h4) (fun _ _ _ _ _ => True) (fun h1 h11 y2 M2 e2 q2 h4 => absurd q2.1 h4) (fun h1 h11 y2 M2 e2 q2 h4 => absurd q2.1 h4) (fun h1 h11 y2 M2 e2 q2 h4 => ?_) (fun z M' => z = 1 ∧ M' = M0w M) (fun h1 h11 => ?_) (fun _ M2 M' => SHt H (H.pe + 1) M' ∧ ∀ a k, a ≠ 73 → a ≠ 74 → a ≠ 75 → a ≠ 76 → a ≠ 77 → a ≠ 78 → a ≠ 80 → a ≠ 84 → (a = 58 → k ≠ 46) → M'.1 a k = M2.1 a k) (fun h1 h11 y2 M2 e2 q2 h4 => ?_) (fun _ _ M5 y M' => M' = M5 ∧ y = nI (guV H x.toNatClampNeg)) (fun h1 h11 y2 M2 e2 q2 h4 M5 e5 q5 => ?_) (fun h1 h11 y2 M2 e2 q2 h4 M5 e5 q5 y7 M7 e7 q7 => ?_) (fun h1 h11 y2 M2 e2 q2 h4 => ?_)
  · refine AC.post hl0 (fun r sh' M' hp => ?_) (rgh_c hl0 hR (b := Int32.ofInt 0))
    obtain ⟨r1, r2, z, r3, r4⟩ := hp
    exact ⟨r1, r2, z, r3, (r4.resolve_left (fun q => q.1 (by decide))).2⟩
  · obtain ⟨-, rfl⟩ := q2
    exact ⟨rfl, e2, _, rfl, Or.inl ⟨piW_no (no1 h1), rfl⟩⟩
  · refine AC.post hl0 (fun r sh' M' hp => ?_) (rgh_c hl0 hR (b := Int32.ofInt 0))
    obtain ⟨r1, r2, z, r3, r4⟩ := hp
    exact ⟨r1, r2, z, r3, (r4.resolve_left (fun q => q.1 (by decide))).2⟩
  · obtain ⟨-, rfl⟩ := q2
    rw [esh] at h11
    exact ⟨rfl, e2, _, rfl, Or.inl ⟨piW_no (no2 h11), rfl⟩⟩
  · refine AC.post hl0 (fun r sh' M' hp => ?_) (rgh_c hl0 hR (b := Int32.ofInt 1))
    obtain ⟨r1, r2, z, r3, r4⟩ := hp
    exact ⟨r1, r2, z, r3, (r4.resolve_right (fun q => absurd q.1 (by decide))).2⟩
  · obtain ⟨-, rfl⟩ := q2
    exact sht_c hl0 hO hk j0 hI m0
  · obtain ⟨-, rfl⟩ := q2
    rw [esh] at h11
    have hx := wIn w8 h1 h11
    have lx := inN_lt hx
    have m5 : mHo H M5 := mH_eq (fun k k1 k4 => q5.2 58 k (by decide) (by decide) (by decide) (by decide) (by decide) (by decide) (by decide) (by decide) (fun _ => by omega)) (fun a k a1 a2 => q5.2 a k (by omega) (by omega) (by omega) (by omega) (by omega) (by omega) (by omega) (by omega) (fun e => by omega)) m0
    have c := gue_c (l := l) (M := M5) (H := H) (s := x.toNatClampNeg) hl0 (by rw [e5, e2]; exact hR) hI m5 q5.1 (by omega)
    rw [← inN_eq hx] at c
    exact c
  · obtain ⟨-, rfl⟩ := q2
    obtain ⟨rfl, rfl⟩ := q7
    rw [esh] at h11
    have hx := wIn w8 h1 h11
    exact ⟨rfl, e5.trans e2, _, rfl, Or.inr ⟨_, piW_is hx rfl loI_u, rfl, (q5.2 58 0 (by decide) (by decide) (by decide) (by decide) (by decide) (by decide) (by decide) (by decide) (by decide)).trans rfl⟩⟩
  · exact absurd (q2.1.symm.trans h4) z1
theorem mbs_c {R : sR} (hl0 : l.1.stackTraces = false) (hO : okR R) (hk : cOk l pg R SHF en_98) (w0 : wcF R.1 58 0 (0, 2) = true) (hJ : JR R M) (hI : HI H) (hm : mHo H M) : AC l (pI pg 235) (fcI M (fun z M' => mO (piW (H.wo + 1) (beP H x) x) z M')) 0 0 [.ref 58, .int x] SHF M := by
  have w8 := hI.2.1
  have P8 := p2_8 w8
  have wpos := Nat.two_pow_pos H.wo
  have hR : ∀ e ∈ RM, M.2.2 e.1 e.2.1 = e.2.2 := fun e he => rgR_ok hJ.2 (hO.1 e he)
  refine fw_of hl0 ⟨by decide +kernel, by decide +kernel, by decide +kernel⟩ rfl ?_
  have z1 : ¬ (1 : Int32) = 0 := by decide
  have m0 : mHo H (M0w M) := mH_fr0 hm
  have j0 : JR R (M0w M) := JR_set (q := (0, 2)) hJ w0 ⟨by decide, by decide⟩
  refine mbs_0 hR hl0 _ (wit_c (m := H.wo) hl0 (show (aset M 58 0 (.int (Int32.ofInt 0))).1 58 2 = nI H.wo from hm.2.1) (by omega)) (fun y1 M1 z M' => (¬ y1 = 0 ∧ z = 1 ∧ M' = M0w M) ∨ (y1 = 0 ∧ z = 0 ∧ M' = M1w M)) (fun y1 M1 e1 q1 => ?_) (fun _ _ _ M3 M' => SHt H (H.pe + 1) M' ∧ ∀ a k, a ≠ 73 → a ≠ 74 → a ≠ 75 → a ≠ 76 → a ≠ 77 → a ≠ 78 → a ≠ 80 → a ≠ 84 → (a = 58 → k ≠ 46) → M'.1 a k = M3.1 a k) (fun y1 M1 e1 q1 y3 M3 e3 q3 h5 => ?_) (fun y1 M1 e1 q1 y3 M3 e3 q3 h5 M6 e6 q6 => ?_) (fun y1 M1 e1 q1 y3 M3 e3 q3 h5 => ?_)
  · obtain ⟨rfl, -⟩ := q1
    exact rgh_c hl0 hR
  · obtain ⟨-, -, rfl⟩ := q3.resolve_right (fun q => h5 q.2.1)
    exact sht_c hl0 hO hk j0 hI m0
  · obtain ⟨y0, -, rfl⟩ := q3.resolve_right (fun q => h5 q.2.1)
    obtain ⟨-, q1⟩ := q1
    have hx := (q1.resolve_right (fun q => y0 q.1)).2
    have lx := inN_lt hx
    have xe := inN_eq hx
    have e66 : M6.2.2 = M.2.2 := e6.trans (e3.trans e1)
    have hR6 : ∀ e ∈ RM, M6.2.2 e.1 e.2.1 = e.2.2 := by rw [e66]; exact hR
    have m6 : mHo H M6 := mH_eq (fun k k1 k4 => q6.2 58 k (by decide) (by decide) (by decide) (by decide) (by decide) (by decide) (by decide) (by decide) (fun _ => by omega)) (fun a k a1 a2 => q6.2 a k (by omega) (by omega) (by omega) (by omega) (by omega) (by omega) (by omega) (by omega) (fun e => by omega)) m0
    have f0 : M6.1 58 0 = 0 := (q6.2 58 0 (by decide) (by decide) (by decide) (by decide) (by decide) (by decide) (by decide) (by decide) (by decide)).trans rfl
    have gul : ∀ b, guV H b ≤ 7000 := fun b => gc_le hI (by have := hI.1; omega)
    have gu : ∀ {b : Nat}, b < 256 → AC l (pI pg 232) (fcI M6 (fun y M' => M' = M6 ∧ y = nI (guV H b))) 0 0 [.ref 58, .int (nI b)] SHF M6 := fun {b} hb => gue_c hl0 hR6 hI m6 q6.1 hb
    have loop : ∀ (d s : Nat) (v : Option Nat), s + d = 2 ^ H.wo → beO H x.toNatClampNeg s v → AW l (pI pg 235) (fcI M (fun z M' => mO (piW (H.wo + 1) (beP H x) x) z M')) 0 0 32 [(3, .int (nI s)), (2, .int (brV v)), (1, .int x), (0, .ref 58)] [] SHF M6 := by
      intro d
      induction d with
      | zero =>
        intro s v hd hv
        have es : s = 2 ^ H.wo := by omega
        subst es
        have le : Int32.ofInt 1 <<< (M6.1 58 2 &&& 31) ≤ nI (2 ^ H.wo) := by
          rw [m6.2.1, shW w8]
          exact Int32.le_refl _
        obtain ⟨b, rfl, hb⟩ := be_all hI lx hv
        exact mbs_32 hR6 hl0 (fun _ => ⟨rfl, e66, _, rfl, Or.inr ⟨_, piW_is hx ⟨b, rfl, hb⟩ beP_u, rfl, f0⟩⟩) (fun _ _ => True) (fun h => absurd le h) (fun h => absurd le h) (fun h => absurd le h) (fun _ _ _ _ => True) (fun h => absurd le h) (fun _ _ _ _ _ _ => True) (fun h => absurd le h) (fun h => absurd le h) (fun h => absurd le h)
      | succ d ih =>
        intro s v hd hv
        have ng : ¬ Int32.ofInt 1 <<< (M6.1 58 2 &&& 31) ≤ nI s := by
          rw [m6.2.1, shW w8, nle (by omega) (by omega)]
          omega
        have nx : nI s + Int32.ofInt 1 = nI (s + 1) := nI_1 s
        have p8 := pcN_le8 (k := s)
        have px : nI (pcN s) = x ↔ pcN s = x.toNatClampNeg := by
          rw [xe, nI_clamp (by omega)]
          exact nI_eq (by omega) (by omega)
        refine mbs_32 hR6 hl0 (fun h => absurd h ng) (fun y M' => M' = M6 ∧ y = nI (pcN s)) (fun _ => bts_c hl0 (by omega)) (fun _ y3 M3 e3 q3 h5 => ?_) (fun _ y3 M3 e3 q3 h5 h7 => ?_) (fun _ M3 y M' => M' = M3 ∧ y = nI (guV H s)) (fun _ y3 M3 e3 q3 h5 h7 => ?_) (fun _ _ _ M9 y M' => M' = M9 ∧ ∃ b, v = some b ∧ y = nI (guV H b)) (fun _ y3 M3 e3 q3 h5 h7 y9 M9 e9 q9 => ?_) (fun _ y3 M3 e3 q3 h5 h7 y9 M9 e9 q9 y11 M11 e11 q11 h13 => ?_) (fun _ y3 M3 e3 q3 h5 h7 y9 M9 e9 q9 y11 M11 e11 q11 h13 => ?_)
        · obtain ⟨rfl, rfl⟩ := q3
          rw [px] at h5
          rw [nx]
          exact ih (s + 1) v (by omega) (be_skip hv h5)
        · obtain ⟨rfl, rfl⟩ := q3
          rw [px] at h5
          rw [nx]
          cases v with
          | none => exact ih (s + 1) (some s) (by omega) (be_first hv h5)
          | some b => exact absurd h7 (nI_nm1 (by have := hv.1; omega))
        · obtain ⟨rfl, -⟩ := q3
          exact gu (by omega)
        · obtain ⟨rfl, -⟩ := q3
          obtain ⟨rfl, -⟩ := q9
          cases v with
          | none => exact absurd rfl h7
          | some b =>
            have b1 := hv.1
            exact AC.post hl0 (fun r sh' M' hp => by
              obtain ⟨r1, r2, y, r3, r4, r5⟩ := hp
              exact ⟨r1, r2, y, r3, r4, b, rfl, r5⟩) (gu (b := b) (by omega))
        · obtain ⟨rfl, rfl⟩ := q3
          obtain ⟨rfl, rfl⟩ := q9
          obtain ⟨rfl, b, rfl, rfl⟩ := q11
          have u1 := gul b
          have u2 := gul s
          rw [nle (by omega) (by omega)] at h13
          rw [nx]
          exact ih (s + 1) (some b) (by omega) (be_ge hv h13)
        · obtain ⟨rfl, rfl⟩ := q3
          obtain ⟨rfl, rfl⟩ := q9
          obtain ⟨rfl, b, rfl, rfl⟩ := q11
          have u1 := gul b
          have u2 := gul s
          rw [nle (by omega) (by omega)] at h13
          rw [px] at h5
          rw [nx]
          exact ih (s + 1) (some s) (by omega) (be_more hv h5 (by omega))
    exact loop (2 ^ H.wo) 0 none (by omega) (fun t ht => absurd ht (Nat.not_lt_zero _))
  · obtain ⟨y0, -, rfl⟩ := q3.resolve_left (fun q => absurd (q.2.1.symm.trans h5) z1)
    obtain ⟨-, q1⟩ := q1
    have hx := (q1.resolve_left (fun q => absurd (q.1.symm.trans y0) z1)).2
    exact ⟨rfl, e3.trans e1, _, rfl, Or.inl ⟨piW_no hx, rfl⟩⟩
end GUM
