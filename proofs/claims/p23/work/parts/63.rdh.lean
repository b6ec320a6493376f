/-! THE HOUSE under the reader's hands -/
theorem nI_orN {a b : Nat} (ha : a < 2 ^ 31) (hb : b < 2 ^ 31) : nI a ||| nI b = nI (a ||| b) := by
  apply Int32.toBitVec_inj.mp
  apply BitVec.eq_of_toNat_eq
  show (BitVec.ofNat 32 a ||| BitVec.ofNat 32 b).toNat = (BitVec.ofNat 32 (a ||| b)).toNat
  have hc : a ||| b < 2 ^ 32 := Nat.or_lt_two_pow (by omega) (by omega)
  rw [BitVec.toNat_or, BitVec.toNat_ofNat, BitVec.toNat_ofNat, BitVec.toNat_ofNat, Nat.mod_eq_of_lt hc, Nat.mod_eq_of_lt (show a < 2 ^ 32 by omega), Nat.mod_eq_of_lt (show b < 2 ^ 32 by omega)]
def cHo (d : Nat) (H : HS) (M : aM) : Prop := (M.1 d 0 = nI H.pe) ∧ (M.1 d 1 = nI H.wo) ∧ (M.1 d 2 = nI H.te) ∧ (M.1 d 3 = nI H.fo) ∧ (∀ i, i < H.pe → M.1 (d + 1) i = nI (H.ho i)) ∧ (∀ i, i < H.pe → M.1 (d + 2) i = nI (H.ch i)) ∧ (∀ i, i < 6 → M.1 (d + 3) i = nI (H.cd i)) ∧ (∀ i, i < 6 → M.1 (d + 4) i = nI (H.ml i)) ∧ (∀ w, w < H.wo → M.1 (d + 5) w = nI (H.be w)) ∧ (∀ w, w < H.wo → M.1 (d + 6) w = nI (H.le w)) ∧ (∀ w, w < 8 → M.1 (d + 7) w = nI (H.dr w)) ∧ (∀ j, j < 48 → M.1 (d + 8) j = nI (H.sk j)) ∧ (∀ k, k < H.te → M.1 (d + 9) k = nI (H.t0 k)) ∧ (∀ k, k < H.te → M.1 (d + 10) k = nI (H.t1 k)) ∧ (∀ k, k < H.te → M.1 (d + 11) k = nI (H.t2 k)) ∧ (∀ k, k < H.te → M.1 (d + 12) k = nI (H.t3 k))
theorem cHo.pe {d : Nat} {H : HS} {M : aM} (h : cHo d H M) : M.1 d 0 = nI H.pe := h.1
theorem cHo.wo {d : Nat} {H : HS} {M : aM} (h : cHo d H M) : M.1 d 1 = nI H.wo := h.2.1
theorem cHo.te {d : Nat} {H : HS} {M : aM} (h : cHo d H M) : M.1 d 2 = nI H.te := h.2.2.1
theorem cHo.fo {d : Nat} {H : HS} {M : aM} (h : cHo d H M) : M.1 d 3 = nI H.fo := h.2.2.2.1
theorem cHo.ho {d : Nat} {H : HS} {M : aM} (h : cHo d H M) : ∀ i, i < H.pe → M.1 (d + 1) i = nI (H.ho i) := h.2.2.2.2.1
theorem cHo.ch {d : Nat} {H : HS} {M : aM} (h : cHo d H M) : ∀ i, i < H.pe → M.1 (d + 2) i = nI (H.ch i) := h.2.2.2.2.2.1
theorem cHo.cd {d : Nat} {H : HS} {M : aM} (h : cHo d H M) : ∀ i, i < 6 → M.1 (d + 3) i = nI (H.cd i) := h.2.2.2.2.2.2.1
theorem cHo.ml {d : Nat} {H : HS} {M : aM} (h : cHo d H M) : ∀ i, i < 6 → M.1 (d + 4) i = nI (H.ml i) := h.2.2.2.2.2.2.2.1
theorem cHo.be {d : Nat} {H : HS} {M : aM} (h : cHo d H M) : ∀ w, w < H.wo → M.1 (d + 5) w = nI (H.be w) := h.2.2.2.2.2.2.2.2.1
theorem cHo.le {d : Nat} {H : HS} {M : aM} (h : cHo d H M) : ∀ w, w < H.wo → M.1 (d + 6) w = nI (H.le w) := h.2.2.2.2.2.2.2.2.2.1
theorem cHo.dr {d : Nat} {H : HS} {M : aM} (h : cHo d H M) : ∀ w, w < 8 → M.1 (d + 7) w = nI (H.dr w) := h.2.2.2.2.2.2.2.2.2.2.1
theorem cHo.sk {d : Nat} {H : HS} {M : aM} (h : cHo d H M) : ∀ j, j < 48 → M.1 (d + 8) j = nI (H.sk j) := h.2.2.2.2.2.2.2.2.2.2.2.1
theorem cHo.t0 {d : Nat} {H : HS} {M : aM} (h : cHo d H M) : ∀ k, k < H.te → M.1 (d + 9) k = nI (H.t0 k) := h.2.2.2.2.2.2.2.2.2.2.2.2.1
theorem cHo.t1 {d : Nat} {H : HS} {M : aM} (h : cHo d H M) : ∀ k, k < H.te → M.1 (d + 10) k = nI (H.t1 k) := h.2.2.2.2.2.2.2.2.2.2.2.2.2.1
theorem cHo.t2 {d : Nat} {H : HS} {M : aM} (h : cHo d H M) : ∀ k, k < H.te → M.1 (d + 11) k = nI (H.t2 k) := h.2.2.2.2.2.2.2.2.2.2.2.2.2.2.1
theorem cHo.t3 {d : Nat} {H : HS} {M : aM} (h : cHo d H M) : ∀ k, k < H.te → M.1 (d + 12) k = nI (H.t3 k) := h.2.2.2.2.2.2.2.2.2.2.2.2.2.2.2
theorem cHo.of {d : Nat} {H : HS} {M : aM} (pe : M.1 d 0 = nI H.pe) (wo : M.1 d 1 = nI H.wo) (te : M.1 d 2 = nI H.te) (fo : M.1 d 3 = nI H.fo) (ho : ∀ i, i < H.pe → M.1 (d + 1) i = nI (H.ho i)) (ch : ∀ i, i < H.pe → M.1 (d + 2) i = nI (H.ch i)) (cd : ∀ i, i < 6 → M.1 (d + 3) i = nI (H.cd i)) (ml : ∀ i, i < 6 → M.1 (d + 4) i = nI (H.ml i)) (be : ∀ w, w < H.wo → M.1 (d + 5) w = nI (H.be w)) (le : ∀ w, w < H.wo → M.1 (d + 6) w = nI (H.le w)) (dr : ∀ w, w < 8 → M.1 (d + 7) w = nI (H.dr w)) (sk : ∀ j, j < 48 → M.1 (d + 8) j = nI (H.sk j)) (t0 : ∀ k, k < H.te → M.1 (d + 9) k = nI (H.t0 k)) (t1 : ∀ k, k < H.te → M.1 (d + 10) k = nI (H.t1 k)) (t2 : ∀ k, k < H.te → M.1 (d + 11) k = nI (H.t2 k)) (t3 : ∀ k, k < H.te → M.1 (d + 12) k = nI (H.t3 k)) : cHo d H M := ⟨pe, wo, te, fo, ho, ch, cd, ml, be, le, dr, sk, t0, t1, t2, t3⟩
theorem cH_eq {d : Nat} {H : HS} {M M1 : aM} (h : cHo d H M) (hF : ∀ a k, d ≤ a → a ≤ d + 12 → M1.1 a k = M.1 a k) : cHo d H M1 := cHo.of
  (pe := (hF _ _ (by omega) (by omega)).trans h.pe)
  (wo := (hF _ _ (by omega) (by omega)).trans h.wo)
  (te := (hF _ _ (by omega) (by omega)).trans h.te)
  (fo := (hF _ _ (by omega) (by omega)).trans h.fo)
  (ho := fun i hi => (hF _ _ (by omega) (by omega)).trans (h.ho i hi))
  (ch := fun i hi => (hF _ _ (by omega) (by omega)).trans (h.ch i hi))
  (cd := fun i hi => (hF _ _ (by omega) (by omega)).trans (h.cd i hi))
  (ml := fun i hi => (hF _ _ (by omega) (by omega)).trans (h.ml i hi))
  (be := fun i hi => (hF _ _ (by omega) (by omega)).trans (h.be i hi))
  (le := fun i hi => (hF _ _ (by omega) (by omega)).trans (h.le i hi))
  (dr := fun i hi => (hF _ _ (by omega) (by omega)).trans (h.dr i hi))
  (sk := fun i hi => (hF _ _ (by omega) (by omega)).trans (h.sk i hi))
  (t0 := fun i hi => (hF _ _ (by omega) (by omega)).trans (h.t0 i hi))
  (t1 := fun i hi => (hF _ _ (by omega) (by omega)).trans (h.t1 i hi))
  (t2 := fun i hi => (hF _ _ (by omega) (by omega)).trans (h.t2 i hi))
  (t3 := fun i hi => (hF _ _ (by omega) (by omega)).trans (h.t3 i hi))
theorem cH_R {d : Nat} {H : HS} {M M1 : aM} (hd : 3 ≤ d) (h : cHo d H M) (hF : rfF M M1) : cHo d H M1 := cH_eq h (fun a k h1 _ => hF.1 a k (fun e => by omega) (fun e => by omega))
/-- nothing but the house at d -/
def hoF (d : Nat) (M M' : aM) : Prop := (∀ a k, a < d ∨ d + 12 < a → M'.1 a k = M.1 a k) ∧ M'.2.1 = M.2.1
def ldF (d : Nat) (M M' : aM) : Prop := (∀ a k, (a = 2 → k ≠ 3 ∧ k ≠ 4 ∧ k ≠ 5) → (a = 1 → k ≠ 1 ∧ k ≠ 2) → (a < d ∨ d + 12 < a) → M'.1 a k = M.1 a k) ∧ M'.2.1 = M.2.1
theorem ldF_r {d : Nat} {M M1 : aM} (h : rfF M M1) : ldF d M M1 := ⟨fun a k h1 h2 _ => h.1 a k h1 h2, h.2⟩
theorem ldF_h {d : Nat} {M M1 : aM} (h : hoF d M M1) : ldF d M M1 := ⟨fun a k _ _ h3 => h.1 a k h3, h.2⟩
theorem ldF_trans {d : Nat} {M M1 M2 : aM} (h1 : ldF d M M1) (h2 : ldF d M1 M2) : ldF d M M2 := ⟨fun a k g1 g2 g3 => (h2.1 a k g1 g2 g3).trans (h1.1 a k g1 g2 g3), h2.2.trans h1.2⟩
def QL (d : Nat) (r : Flt ⊕ (HS × Nat)) (M : aM) : aM → Prop := fun M' => ldF d M M' ∧ (∀ f, r = .inl f → flt f M') ∧ ∀ a, r = .inr a → cHo d a.1 M' ∧ M'.1 2 5 = nI a.2 ∧ M'.1 1 1 = M.1 1 1 ∧ M'.1 1 2 = M.1 1 2
theorem QL_bad {d : Nat} {r : Flt ⊕ (HS × Nat)} {f : Flt} {M M1 : aM} (hr : r = .inl f) (h : flt f M1) (hF : rfF M M1) (e2 : M1.2.2 = M.2.2) : fcV M (QL d r M) (.inl none) SHF M1 := by
  subst hr
  refine ⟨rfl, e2, rfl, ldF_r hF, fun g hg => ?_, fun a ha => ?_⟩
  · cases hg
    exact h
  · cases ha
theorem QL_ref {u : Nat → Nat} {n p : Nat} {d k : Nat} {r : Flt ⊕ (HS × Nat)} {x : Int32} {M M1 : aM} (hr : r = .inl (k, tS u n p)) (hx : x = nI k) (h4 : M1.1 2 4 = nI (tS u n p)) (hF : rfF M M1) (e2 : M1.2.2 = M.2.2) : fcV M (QL d r M) (.inl none) SHF (rfM M1 x) := QL_bad hr (by subst hx; exact ⟨rfl, h4⟩) (rfM_F hF) e2
theorem QL_ok {d : Nat} {r : Flt ⊕ (HS × Nat)} {a : HS × Nat} {M M1 M2 : aM} (hd : 3 ≤ d) (hr : r = .inr a) (hF : tkF M M1) (hG : hoF d M1 M2) (hH : cHo d a.1 M2) (h5 : M1.1 2 5 = nI a.2) (e1 : M1.2.2 = M.2.2) (e2 : M2.2.2 = M1.2.2) : fcV M (QL d r M) (.inl none) SHF M2 := by
  subst hr
  refine ⟨rfl, e2.trans e1, rfl, ldF_trans (ldF_r (rfF_of hF)) (ldF_h hG), fun g hg => ?_, fun b hb => ?_⟩
  · cases hg
  · cases hb
    exact ⟨hH, (hG.1 2 5 (by omega)).trans h5, (hG.1 1 1 (by omega)).trans (hF.1 1 1 (fun e => absurd e (by decide))), (hG.1 1 2 (by omega)).trans (hF.1 1 2 (fun e => absurd e (by decide)))⟩
section RDA
variable {l : aL} {M : aM} {n p : Nat} {u : Nat → Nat} {H : HS}
theorem rpnA_c (hl0 : l.1.stackTraces = false) (hJ : ∀ e ∈ RK, M.2.2 e.1 e.2.1 = e.2.2) (hB : CB n u M) (hp : p ≤ n) (h5 : M.1 2 5 = nI p) (hI : HI H) (hH : cHo 4 H M) : AC l (pI pg 79) (fcI M (RN (idS u n H.pe p) (tS u n p) M)) 0 0 [.ref 1, .ref 4] SHF M := by
  have hp6 := hI.pe
  refine fw_of hl0 ⟨by decide +kernel, by decide +kernel, by decide +kernel⟩ rfl ?_
  have c := num_c hl0 hJ hB hp h5 (lo := 0) (hi := 9999) (by decide) (by decide) (x := Int32.ofInt 0) (y := (Int16.ofInt 9999).toInt32) (by decide) (by decide)
  cases hr : numS u n 0 9999 p with
  | inl f =>
    refine rpnA_0 hJ hl0 _ c (fun y1 M1 e1 q1 h3 => ?_) (fun y1 M1 e1 q1 h3 => ?_) (fun y1 M1 e1 q1 h3 => ?_)
    · exact RN_pass hr (numS_id0 hr) e1 q1
    · exact absurd (q1.2.1 f hr).1 h3
    · exact absurd (q1.2.1 f hr).1 h3
  | inr a =>
    have ha := (numS_ok hr).2.1
    have hi := numS_id1 (m := H.pe) hr
    refine rpnA_0 hJ hl0 _ c (fun y1 M1 e1 q1 h3 => ?_) (fun y1 M1 e1 q1 h3 h6 => ?_) (fun y1 M1 e1 q1 h3 h6 => ?_)
    · rw [(q1.2.2 a hr).1] at h3
      exact absurd h3 (nI_nm1 (by omega))
    · have g := q1.2.2 a hr
      rw [g.1, (g.2.2.2.1 4 0 (fun e => absurd e (by decide))).trans hH.pe, hpV_0 (by omega) (by omega)] at h6
      rw [if_neg h6] at hi
      exact RN_bad hi (by decide) g.2.2.1 q1.1 e1
    · have g := q1.2.2 a hr
      rw [g.1, (g.2.2.2.1 4 0 (fun e => absurd e (by decide))).trans hH.pe, hpV_0 (by omega) (by omega), Decidable.not_not] at h6
      rw [if_pos h6] at hi
      exact RN_ok hi g.1 g.2.1 g.2.2.1 g.2.2.2 e1
theorem rnwA_c (hl0 : l.1.stackTraces = false) (hJ : ∀ e ∈ RK, M.2.2 e.1 e.2.1 = e.2.2) (hB : CB n u M) (hp : p ≤ n) (h5 : M.1 2 5 = nI p) (hI : HI H) (hH : cHo 4 H M) {i : Nat} (hi : i < H.pe) : AC l (pI pg 80) (fcI M (RN (newS u n H i p) (tS u n p) M)) 0 0 [.ref 1, .ref 4, .int (nI i)] SHF M := by
  have hp6 := hI.pe
  have hw8 := hI.wo
  refine fw_of hl0 ⟨by decide +kernel, by decide +kernel, by decide +kernel⟩ rfl ?_
  have c := num_c hl0 hJ hB hp h5 (lo := 0) (hi := 9999) (by decide) (by decide) (x := Int32.ofInt 0) (y := (Int16.ofInt 9999).toInt32) (by decide) (by decide)
  have vp : vp_in (nI i) 6 := vp_in_nI (by omega) (by decide)
  cases hr : numS u n 0 9999 p with
  | inl f =>
    have hn : newS u n H i p = .inl f := by rw [newS, numS_id0 hr]; rfl
    refine rnwA_0 hJ hl0 _ c (fun _ _ _ _ _ _ => vp) (fun y1 M1 e1 q1 h3 => ?_) (fun y1 M1 e1 q1 h3 => ?_) (fun y1 M1 e1 q1 h3 => ?_) (fun y1 M1 e1 q1 h3 => ?_)
    · exact absurd (q1.2.1 f hr).1 h3
    · exact absurd (q1.2.1 f hr).1 h3
    · exact absurd (q1.2.1 f hr).1 h3
    · have z := RN_pass hr hn e1 q1
      rw [h3] at z
      exact z
  | inr a =>
    have ha := (numS_ok hr).2.1
    have hid := numS_id1 (m := H.wo) hr
    have wo : ∀ {y1 : Int32} {M1 : aM}, RN (numS u n 0 9999 p) (tS u n p) M y1 M1 → (hpV (M1.1 4 1) y1 = 0 ↔ ¬ a.1 < H.wo) := fun {y1 M1} q1 => by
      have g := q1.2.2 a hr
      rw [g.1, (g.2.2.2.1 4 1 (fun e => absurd e (by decide))).trans hH.wo, hpV_0 (by omega) (by omega)]
    have bt : ∀ {y1 : Int32} {M1 : aM}, a.1 < H.wo → RN (numS u n 0 9999 p) (tS u n p) M y1 M1 → ((((M1.1 7 (nI i).toNatClampNeg) ||| (M1.1 8 (nI i).toNatClampNeg)) >>> (y1 &&& 31)) &&& (Int32.ofInt 1) = 0 ↔ told H i a.1 = false) := fun {y1 M1} hw q1 => by
      have g := q1.2.2 a hr
      have e1 : M1.1 7 i = nI (H.cd i) := (g.2.2.2.1 7 i (fun e => absurd e (by decide))).trans (hH.cd i (by omega))
      have e2 : M1.1 8 i = nI (H.ml i) := (g.2.2.2.1 8 i (fun e => absurd e (by decide))).trans (hH.ml i (by omega))
      have b1 := (hI.cd i (by omega)).1
      have b2 := (hI.ml i (by omega)).1
      have b3 : H.cd i ||| H.ml i < 2 ^ 8 := Nat.or_lt_two_pow b1 b2
      rw [nI_clamp (by omega), e1, e2, g.1, nI_orN (by omega) (by omega), bitF (by omega) (by omega)]
      rfl
    refine rnwA_0 hJ hl0 _ c (fun _ _ _ _ _ _ => vp) (fun y1 M1 e1 q1 h3 h5 h7 => ?_) (fun y1 M1 e1 q1 h3 h5 h7 => ?_) (fun y1 M1 e1 q1 h3 h5 => ?_) (fun y1 M1 e1 q1 h3 => ?_)
    · have g := q1.2.2 a hr
      rw [wo q1, Decidable.not_not] at h5
      rw [bt h5 q1] at h7
      rw [if_pos h5] at hid
      have ht : told H i a.1 = true := by
        cases e : told H i a.1 with
        | true => rfl
        | false => exact absurd e h7
      refine RN_bad (p := p) (k := 4) ?_ (by decide) g.2.2.1 q1.1 e1
      rw [newS, hid]
      show (if told H i a.1 = true then _ else _) = _
      rw [if_pos ht]
    · have g := q1.2.2 a hr
      rw [wo q1, Decidable.not_not] at h5
      rw [bt h5 q1] at h7
      rw [if_pos h5] at hid
      refine RN_ok (a := a) ?_ g.1 g.2.1 g.2.2.1 g.2.2.2 e1
      rw [newS, hid]
      show (if told H i a.1 = true then _ else _) = _
      rw [if_neg (by rw [h7]; decide)]
    · have g := q1.2.2 a hr
      rw [wo q1] at h5
      rw [if_neg h5] at hid
      refine RN_bad (p := p) (k := 3) ?_ (by decide) g.2.2.1 q1.1 e1
      rw [newS, hid]
      rfl
    · rw [(q1.2.2 a hr).1] at h3
      exact absurd h3 (nI_nm1 (by omega))
theorem alcA_c (hl0 : l.1.stackTraces = false) (hJ : ∀ e ∈ RK, M.2.2 e.1 e.2.1 = e.2.2) (hI : HI H) (hH : cHo 4 H M) : AC l (pI pg 71) (pvI M (nI (smF H.ch H.pe))) 0 0 [.ref 4] SHF M := by
  have hp6 := hI.pe
  refine fw_of hl0 ⟨by decide +kernel, by decide +kernel, by decide +kernel⟩ rfl ?_
  refine alcA_0 hJ hl0 ?_
  have loop : ∀ (d j : Nat), j + d = H.pe → AW l (pI pg 71) (pvI M (nI (smF H.ch H.pe))) 0 0 4 [(2, .int (nI j)), (1, .int (nI (smF H.ch j))), (0, .ref 4)] [] SHF M := by
    intro d
    induction d with
    | zero =>
      intro j hj
      refine alcA_4 hJ hl0 (fun _ => ?_) (fun h1 => ?_) (fun h1 => ?_)
      · rw [show H.pe = j by omega]
        exact pvI_of
      · rw [hH.pe, nI_leI (by omega) (by omega)] at h1
        omega
      · rw [hH.pe, nI_leI (by omega) (by omega)] at h1
        omega
    | succ d ih =>
      intro j hj
      refine alcA_4 hJ hl0 (fun h1 => ?_) (fun h1 => ?_) (fun h1 => ?_)
      · rw [hH.pe, nI_leI (by omega) (by omega)] at h1
        omega
      · exact vp_in_nI (by omega) (by decide)
      · have e1 : nI j + Int32.ofInt 1 = nI (j + 1) := nI_1 _
        have e3 : M.1 6 j = nI (H.ch j) := hH.ch j (by omega)
        have e2 : nI (smF H.ch j) + M.1 6 (nI j).toNatClampNeg = nI (smF H.ch (j + 1)) := by
          rw [nI_clamp (by omega), e3, nI_add]
          rfl
        rw [e1, e2]
        exact ih (j + 1) (by omega)
  exact loop H.pe 0 (by omega)
theorem rchA_c (hl0 : l.1.stackTraces = false) (hJ : ∀ e ∈ RK, M.2.2 e.1 e.2.1 = e.2.2) (hB : CB n u M) (hp : p ≤ n) (h5 : M.1 2 5 = nI p) (hI : HI H) (hH : cHo 4 H M) : AC l (pI pg 70) (fcI M (RN (chS u n H p) (tS u n p) M)) 0 0 [.ref 1, .ref 4] SHF M := by
  have hc := hI.ch
  refine fw_of hl0 ⟨by decide +kernel, by decide +kernel, by decide +kernel⟩ rfl ?_
  have c := num_c hl0 hJ hB hp h5 (lo := 0) (hi := 1000) (by decide) (by decide) (x := Int32.ofInt 0) (y := (Int16.ofInt 1000).toInt32) (by decide) (by decide)
  cases hr : numS u n 0 1000 p with
  | inl f =>
    have hn : chS u n H p = .inl f := by rw [chS, hr]; rfl
    exact rchA_0 hJ hl0 _ c (fun y1 M1 e1 q1 h3 => RN_pass hr hn e1 q1) (fun _ _ _ _ => True) (fun y1 M1 e1 q1 h3 => absurd (q1.2.1 f hr).1 h3) (fun y1 M1 e1 q1 h3 => absurd (q1.2.1 f hr).1 h3) (fun y1 M1 e1 q1 h3 => absurd (q1.2.1 f hr).1 h3)
  | inr a =>
    have ha := (numS_ok hr).2.1
    have le : nI (smF H.ch H.pe) + nI a.1 ≤ (Int16.ofInt 1000).toInt32 ↔ smF H.ch H.pe + a.1 ≤ 1000 := by
      rw [show (Int16.ofInt 1000).toInt32 = nI 1000 by decide, nI_add, nI_leI (by omega) (by decide)]
    refine rchA_0 hJ hl0 _ c (fun y1 M1 e1 q1 h3 => ?_) (fun _ M1 y M' => nI (smF H.ch H.pe) = y ∧ M1 = M') (fun y1 M1 e1 q1 h3 => ?_) (fun y1 M1 e1 q1 h3 y5 M5 e5 q5 h7 => ?_) (fun y1 M1 e1 q1 h3 y5 M5 e5 q5 h7 => ?_)
    · rw [(q1.2.2 a hr).1] at h3
      exact absurd h3 (nI_nm1 (by omega))
    · exact alcA_c hl0 (by rw [e1]; exact hJ) hI (cH_R (by decide) hH q1.1)
    · obtain ⟨rfl, rfl⟩ := q5
      have g := q1.2.2 a hr
      rw [g.1, le] at h7
      refine RN_ok (a := a) ?_ g.1 g.2.1 g.2.2.1 g.2.2.2 e1
      rw [chS, hr]
      show (if 1000 < smF H.ch H.pe + a.1 then _ else _) = _
      rw [if_neg (by omega)]
    · obtain ⟨rfl, rfl⟩ := q5
      have g := q1.2.2 a hr
      rw [g.1, le] at h7
      refine RN_bad (p := p) (k := 5) ?_ (by decide) g.2.2.1 q1.1 e1
      rw [chS, hr]
      show (if 1000 < smF H.ch H.pe + a.1 then _ else _) = _
      rw [if_pos (by omega)]
def QHA (H : HS) (M : aM) : aM → Prop := fun M' => cHo 4 H M' ∧ hoF 4 M M'
theorem adpA_c (hl0 : l.1.stackTraces = false) (hJ : ∀ e ∈ RK, M.2.2 e.1 e.2.1 = e.2.2) (hH : cHo 4 H M) (hq : H.pe < 6) {h c : Nat} : AC l (pI pg 73) (fcV M (QHA (addP H h c) M)) 0 0 [.ref 4, .int (nI h), .int (nI c)] SHF M := by
  refine fw_of hl0 ⟨by decide +kernel, by decide +kernel, by decide +kernel⟩ rfl ?_
  have e0 : (M.1 4 0).toNatClampNeg = H.pe := by rw [hH.pe, nI_clamp (by omega)]
  refine adpA_0 hJ hl0 (fun h1 => ?_) (fun h1 => ?_) (fun h1 => ?_) (fun h1 => ?_)
  · rw [hH.pe, show (Int8.ofInt 6).toInt32 = nI 6 by decide, nI_leI (by decide) (by omega)] at h1
    omega
  · rw [hH.pe]
    exact vp_in_nI hq (by decide)
  · show vp_in (M.1 4 0) 6
    rw [hH.pe]
    exact vp_in_nI hq (by decide)
  · refine ⟨rfl, rfl, rfl, ?_⟩
    show QHA _ M (aset (aset (aset M 5 (M.1 4 0).toNatClampNeg (.int (nI h))) 6 (M.1 4 0).toNatClampNeg (.int (nI c))) 4 0 (.int (M.1 4 0 + Int32.ofInt 1)))
    rw [e0]
    refine ⟨cHo.of (pe := ?_) (wo := hH.wo) (te := hH.te) (fo := hH.fo) (ho := fun i hi => ?_) (ch := fun i hi => ?_) (cd := hH.cd) (ml := hH.ml) (be := hH.be) (le := hH.le) (dr := hH.dr) (sk := hH.sk) (t0 := hH.t0) (t1 := hH.t1) (t2 := hH.t2) (t3 := hH.t3), fun a k ha => ?_, rfl⟩
    · show M.1 4 0 + Int32.ofInt 1 = nI (H.pe + 1)
      rw [hH.pe]
      exact nI_1 _
    · show (if i = H.pe then nI h else M.1 5 i) = nI (npd H.ho H.pe h i)
      have hi2 : i < H.pe + 1 := hi
      by_cases e : i = H.pe
      · rw [if_pos e, e, npd_eq]
      · rw [if_neg e, npd_ne e]
        exact hH.ho i (by omega)
    · show (if i = H.pe then nI c else M.1 6 i) = nI (npd H.ch H.pe c i)
      have hi2 : i < H.pe + 1 := hi
      by_cases e : i = H.pe
      · rw [if_pos e, e, npd_eq]
      · rw [if_neg e, npd_ne e]
        exact hH.ch i (by omega)
    · rw [set_1, if_neg (by omega), set_1, if_neg (by omega), set_1, if_neg (by omega)]
theorem adwA_c (hl0 : l.1.stackTraces = false) (hJ : ∀ e ∈ RK, M.2.2 e.1 e.2.1 = e.2.2) (hH : cHo 4 H M) (hq : H.wo < 8) {h c : Nat} : AC l (pI pg 77) (fcV M (QHA (addW H h c) M)) 0 0 [.ref 4, .int (nI h), .int (nI c)] SHF M := by
  refine fw_of hl0 ⟨by decide +kernel, by decide +kernel, by decide +kernel⟩ rfl ?_
  have e0 : (M.1 4 1).toNatClampNeg = H.wo := by rw [hH.wo, nI_clamp (by omega)]
  refine adwA_0 hJ hl0 (fun h1 => ?_) (fun h1 => ?_) (fun h1 => ?_) (fun h1 => ?_)
  · rw [hH.wo, show (Int8.ofInt 8).toInt32 = nI 8 by decide, nI_leI (by decide) (by omega)] at h1
    omega
  · rw [hH.wo]
    exact vp_in_nI hq (by decide)
  · show vp_in (M.1 4 1) 8
    rw [hH.wo]
    exact vp_in_nI hq (by decide)
  · refine ⟨rfl, rfl, rfl, ?_⟩
    show QHA _ M (aset (aset (aset M 9 (M.1 4 1).toNatClampNeg (.int (nI h))) 10 (M.1 4 1).toNatClampNeg (.int (nI c))) 4 1 (.int (M.1 4 1 + Int32.ofInt 1)))
    rw [e0]
    refine ⟨cHo.of (pe := hH.pe) (wo := ?_) (te := hH.te) (fo := hH.fo) (ho := hH.ho) (ch := hH.ch) (cd := hH.cd) (ml := hH.ml) (be := fun i hi => ?_) (le := fun i hi => ?_) (dr := hH.dr) (sk := hH.sk) (t0 := hH.t0) (t1 := hH.t1) (t2 := hH.t2) (t3 := hH.t3), fun a k ha => ?_, rfl⟩
    · show M.1 4 1 + Int32.ofInt 1 = nI (H.wo + 1)
      rw [hH.wo]
      exact nI_1 _
    · show (if i = H.wo then nI h else M.1 9 i) = nI (npd H.be H.wo h i)
      have hi2 : i < H.wo + 1 := hi
      by_cases e : i = H.wo
      · rw [if_pos e, e, npd_eq]
      · rw [if_neg e, npd_ne e]
        exact hH.be i (by omega)
    · show (if i = H.wo then nI c else M.1 10 i) = nI (npd H.le H.wo c i)
      have hi2 : i < H.wo + 1 := hi
      by_cases e : i = H.wo
      · rw [if_pos e, e, npd_eq]
      · rw [if_neg e, npd_ne e]
        exact hH.le i (by omega)
    · rw [set_1, if_neg (by omega), set_1, if_neg (by omega), set_1, if_neg (by omega)]
theorem adsA_c (hl0 : l.1.stackTraces = false) (hJ : ∀ e ∈ RK, M.2.2 e.1 e.2.1 = e.2.2) (hI : HI H) (hH : cHo 4 H M) {i w v : Nat} (hi : i < H.pe) (hw : w < H.wo) : AC l (pI pg 81) (fcV M (QHA (addS H i w v) M)) 0 0 [.ref 4, .int (nI i), .int (nI w), .int (nI v)] SHF M := by
  have hp6 := hI.pe
  have hw8 := hI.wo
  have b1 := (hI.cd i (by omega)).1
  have b2 := (hI.dr w (by omega)).1
  have p1 : 2 ^ w < 2 ^ 8 := Nat.pow_lt_pow_right (by decide) (by omega)
  have p2 : 2 ^ i < 2 ^ 8 := Nat.pow_lt_pow_right (by decide) (by omega)
  have p3 : (2 : Nat) ^ 8 = 256 := by decide
  refine fw_of hl0 ⟨by decide +kernel, by decide +kernel, by decide +kernel⟩ rfl ?_
  have e0 : ¬ hpV (M.1 4 0) (nI i) = 0 := by rw [hH.pe, hpV_0 (by omega) (by omega)]; omega
  have e1 : ¬ hpV (M.1 4 1) (nI w) = 0 := by rw [hH.wo, hpV_0 (by omega) (by omega)]; omega
  have e2 : nI i * (Int8.ofInt 8).toInt32 + nI w = nI (8 * i + w) := by rw [show (Int8.ofInt 8).toInt32 = nI 8 by decide, nI_mulN, nI_add, Nat.mul_comm]
  have e3 : (nI i * (Int8.ofInt 8).toInt32 + nI w).toNatClampNeg = 8 * i + w := by rw [e2, nI_clamp (by omega)]
  have e4 : (nI i).toNatClampNeg = i := nI_clamp (by omega)
  have e5 : (nI w).toNatClampNeg = w := nI_clamp (by omega)
  refine adsA_0 hJ hl0 (fun h => absurd h e0) (fun _ h => absurd h e1) (fun _ _ => ?_) (fun _ _ => vp_in_nI (by omega) (by decide)) (fun _ _ => vp_in_nI (by omega) (by decide)) (fun _ _ => ?_)
  · rw [e2]
    exact vp_in_nI (by omega) (by decide)
  · refine ⟨rfl, rfl, rfl, ?_⟩
    show QHA _ M (aset (aset (aset M 12 (nI i * (Int8.ofInt 8).toInt32 + nI w).toNatClampNeg (.int (nI v))) 7 (nI i).toNatClampNeg (.int (M.1 7 (nI i).toNatClampNeg ||| (Int32.ofInt 1 <<< (nI w &&& 31))))) 11 (nI w).toNatClampNeg (.int (M.1 11 (nI w).toNatClampNeg ||| (Int32.ofInt 1 <<< (nI i &&& 31)))))
    rw [e3, e4, e5]
    refine ⟨cHo.of (pe := hH.pe) (wo := hH.wo) (te := hH.te) (fo := hH.fo) (ho := hH.ho) (ch := hH.ch) (cd := fun j hj => ?_) (ml := hH.ml) (be := hH.be) (le := hH.le) (dr := fun j hj => ?_) (sk := fun j hj => ?_) (t0 := hH.t0) (t1 := hH.t1) (t2 := hH.t2) (t3 := hH.t3), fun a k ha => ?_, rfl⟩
    · show (if j = i then M.1 7 i ||| (Int32.ofInt 1 <<< (nI w &&& 31)) else M.1 7 j) = nI (npd H.cd i (H.cd i ||| 2 ^ w) j)
      by_cases e : j = i
      · have z : M.1 7 i = nI (H.cd i) := hH.cd i (by omega)
        rw [if_pos e, e, npd_eq, z, shW (by omega), nI_orN (by omega) (by omega)]
      · rw [if_neg e, npd_ne e]
        exact hH.cd j hj
    · show (if j = w then M.1 11 w ||| (Int32.ofInt 1 <<< (nI i &&& 31)) else M.1 11 j) = nI (npd H.dr w (H.dr w ||| 2 ^ i) j)
      by_cases e : j = w
      · have z : M.1 11 w = nI (H.dr w) := hH.dr w (by omega)
        rw [if_pos e, e, npd_eq, z, shW (by omega), nI_orN (by omega) (by omega)]
      · rw [if_neg e, npd_ne e]
        exact hH.dr j hj
    · show (if j = 8 * i + w then nI v else M.1 12 j) = nI (npd H.sk (8 * i + w) v j)
      by_cases e : j = 8 * i + w
      · rw [if_pos e, e, npd_eq]
      · rw [if_neg e, npd_ne e]
        exact hH.sk j hj
    · rw [set_1, if_neg (by omega), set_1, if_neg (by omega), set_1, if_neg (by omega)]
theorem adtA_c (hl0 : l.1.stackTraces = false) (hJ : ∀ e ∈ RK, M.2.2 e.1 e.2.1 = e.2.2) (hI : HI H) (hH : cHo 4 H M) {i w v y : Nat} (hq : H.te < 8) (hi : i < H.pe) (hw : w < H.wo) : AC l (pI pg 83) (fcV M (QHA (addL H i w v y) M)) 0 0 [.ref 4, .int (nI i), .int (nI w), .int (nI v), .int (nI y)] SHF M := by
  have hp6 := hI.pe
  have hw8 := hI.wo
  have b1 := (hI.ml i (by omega)).1
  have p1 : 2 ^ w < 2 ^ 8 := Nat.pow_lt_pow_right (by decide) (by omega)
  have p3 : (2 : Nat) ^ 8 = 256 := by decide
  refine fw_of hl0 ⟨by decide +kernel, by decide +kernel, by decide +kernel⟩ rfl ?_
  have e0 : ¬ hpV (M.1 4 0) (nI i) = 0 := by rw [hH.pe, hpV_0 (by omega) (by omega)]; omega
  have e1 : ¬ hpV (M.1 4 1) (nI w) = 0 := by rw [hH.wo, hpV_0 (by omega) (by omega)]; omega
  have e2 : ¬ (Int8.ofInt 8).toInt32 ≤ M.1 4 2 := by rw [hH.te, show (Int8.ofInt 8).toInt32 = nI 8 by decide, nI_leI (by decide) (by omega)]; omega
  have e3 : (M.1 4 2).toNatClampNeg = H.te := by rw [hH.te, nI_clamp (by omega)]
  have e4 : (nI i).toNatClampNeg = i := nI_clamp (by omega)
  have vp : vp_in (M.1 4 2) 8 := by rw [hH.te]; exact vp_in_nI hq (by decide)
  refine adtA_0 hJ hl0 (fun h => absurd h e2) (fun _ h => absurd h e0) (fun _ _ h => absurd h e1) (fun _ _ _ => vp) (fun _ _ _ => vp) (fun _ _ _ => vp) (fun _ _ _ => vp) (fun _ _ _ => vp_in_nI (by omega) (by decide)) (fun _ _ _ => ?_)
  refine ⟨rfl, rfl, rfl, ?_⟩
  show QHA _ M (aset (aset (aset (aset (aset (aset M 13 (M.1 4 2).toNatClampNeg (.int (nI i))) 14 (M.1 4 2).toNatClampNeg (.int (nI w))) 15 (M.1 4 2).toNatClampNeg (.int (nI v))) 16 (M.1 4 2).toNatClampNeg (.int (nI y))) 8 (nI i).toNatClampNeg (.int (M.1 8 (nI i).toNatClampNeg ||| (Int32.ofInt 1 <<< (nI w &&& 31))))) 4 2 (.int (M.1 4 2 + Int32.ofInt 1)))
  rw [e3, e4]
  refine ⟨cHo.of (pe := hH.pe) (wo := hH.wo) (te := ?_) (fo := hH.fo) (ho := hH.ho) (ch := hH.ch) (cd := hH.cd) (ml := fun j hj => ?_) (be := hH.be) (le := hH.le) (dr := hH.dr) (sk := hH.sk) (t0 := fun j hj => ?_) (t1 := fun j hj => ?_) (t2 := fun j hj => ?_) (t3 := fun j hj => ?_), fun a k ha => ?_, rfl⟩
  · show M.1 4 2 + Int32.ofInt 1 = nI (H.te + 1)
    rw [hH.te]
    exact nI_1 _
  · show (if j = i then M.1 8 i ||| (Int32.ofInt 1 <<< (nI w &&& 31)) else M.1 8 j) = nI (npd H.ml i (H.ml i ||| 2 ^ w) j)
    by_cases e : j = i
    · have z : M.1 8 i = nI (H.ml i) := hH.ml i (by omega)
      rw [if_pos e, e, npd_eq, z, shW (by omega), nI_orN (by omega) (by omega)]
    · rw [if_neg e, npd_ne e]
      exact hH.ml j hj
  · show (if j = H.te then nI i else M.1 13 j) = nI (npd H.t0 H.te i j)
    have hj2 : j < H.te + 1 := hj
    by_cases e : j = H.te
    · rw [if_pos e, e, npd_eq]
    · rw [if_neg e, npd_ne e]
      exact hH.t0 j (by omega)
  · show (if j = H.te then nI w else M.1 14 j) = nI (npd H.t1 H.te w j)
    have hj2 : j < H.te + 1 := hj
    by_cases e : j = H.te
    · rw [if_pos e, e, npd_eq]
    · rw [if_neg e, npd_ne e]
      exact hH.t1 j (by omega)
  · show (if j = H.te then nI v else M.1 15 j) = nI (npd H.t2 H.te v j)
    have hj2 : j < H.te + 1 := hj
    by_cases e : j = H.te
    · rw [if_pos e, e, npd_eq]
    · rw [if_neg e, npd_ne e]
      exact hH.t2 j (by omega)
  · show (if j = H.te then nI y else M.1 16 j) = nI (npd H.t3 H.te y j)
    have hj2 : j < H.te + 1 := hj
    by_cases e : j = H.te
    · rw [if_pos e, e, npd_eq]
    · rw [if_neg e, npd_ne e]
      exact hH.t3 j (by omega)
  · rw [set_1, if_neg (by omega), set_1, if_neg (by omega), set_1, if_neg (by omega), set_1, if_neg (by omega), set_1, if_neg (by omega), set_1, if_neg (by omega)]
end RDA
section RDB
variable {l : aL} {M : aM} {n p : Nat} {u : Nat → Nat} {H : HS}
theorem rpnB_c (hl0 : l.1.stackTraces = false) (hJ : ∀ e ∈ RK, M.2.2 e.1 e.2.1 = e.2.2) (hB : CB n u M) (hp : p ≤ n) (h5 : M.1 2 5 = nI p) (hI : HI H) (hH : cHo 17 H M) : AC l (pI pg 79) (fcI M (RN (idS u n H.pe p) (tS u n p) M)) 0 0 [.ref 1, .ref 17] SHF M := by
  have hp6 := hI.pe
  refine fw_of hl0 ⟨by decide +kernel, by decide +kernel, by decide +kernel⟩ rfl ?_
  have c := num_c hl0 hJ hB hp h5 (lo := 0) (hi := 9999) (by decide) (by decide) (x := Int32.ofInt 0) (y := (Int16.ofInt 9999).toInt32) (by decide) (by decide)
  cases hr : numS u n 0 9999 p with
  | inl f =>
    refine rpnB_0 hJ hl0 _ c (fun y1 M1 e1 q1 h3 => ?_) (fun y1 M1 e1 q1 h3 => ?_) (fun y1 M1 e1 q1 h3 => ?_)
    · exact RN_pass hr (numS_id0 hr) e1 q1
    · exact absurd (q1.2.1 f hr).1 h3
    · exact absurd (q1.2.1 f hr).1 h3
  | inr a =>
    have ha := (numS_ok hr).2.1
    have hi := numS_id1 (m := H.pe) hr
    refine rpnB_0 hJ hl0 _ c (fun y1 M1 e1 q1 h3 => ?_) (fun y1 M1 e1 q1 h3 h6 => ?_) (fun y1 M1 e1 q1 h3 h6 => ?_)
    · rw [(q1.2.2 a hr).1] at h3
      exact absurd h3 (nI_nm1 (by omega))
    · have g := q1.2.2 a hr
      rw [g.1, (g.2.2.2.1 17 0 (fun e => absurd e (by decide))).trans hH.pe, hpV_0 (by omega) (by omega)] at h6
      rw [if_neg h6] at hi
      exact RN_bad hi (by decide) g.2.2.1 q1.1 e1
    · have g := q1.2.2 a hr
      rw [g.1, (g.2.2.2.1 17 0 (fun e => absurd e (by decide))).trans hH.pe, hpV_0 (by omega) (by omega), Decidable.not_not] at h6
      rw [if_pos h6] at hi
      exact RN_ok hi g.1 g.2.1 g.2.2.1 g.2.2.2 e1
theorem rnwB_c (hl0 : l.1.stackTraces = false) (hJ : ∀ e ∈ RK, M.2.2 e.1 e.2.1 = e.2.2) (hB : CB n u M) (hp : p ≤ n) (h5 : M.1 2 5 = nI p) (hI : HI H) (hH : cHo 17 H M) {i : Nat} (hi : i < H.pe) : AC l (pI pg 80) (fcI M (RN (newS u n H i p) (tS u n p) M)) 0 0 [.ref 1, .ref 17, .int (nI i)] SHF M := by
  have hp6 := hI.pe
  have hw8 := hI.wo
  refine fw_of hl0 ⟨by decide +kernel, by decide +kernel, by decide +kernel⟩ rfl ?_
  have c := num_c hl0 hJ hB hp h5 (lo := 0) (hi := 9999) (by decide) (by decide) (x := Int32.ofInt 0) (y := (Int16.ofInt 9999).toInt32) (by decide) (by decide)
  have vp : vp_in (nI i) 6 := vp_in_nI (by omega) (by decide)
  cases hr : numS u n 0 9999 p with
  | inl f =>
    have hn : newS u n H i p = .inl f := by rw [newS, numS_id0 hr]; rfl
    refine rnwB_0 hJ hl0 _ c (fun _ _ _ _ _ _ => vp) (fun y1 M1 e1 q1 h3 => ?_) (fun y1 M1 e1 q1 h3 => ?_) (fun y1 M1 e1 q1 h3 => ?_) (fun y1 M1 e1 q1 h3 => ?_)
    · exact absurd (q1.2.1 f hr).1 h3
    · exact absurd (q1.2.1 f hr).1 h3
    · exact absurd (q1.2.1 f hr).1 h3
    · have z := RN_pass hr hn e1 q1
      rw [h3] at z
      exact z
  | inr a =>
    have ha := (numS_ok hr).2.1
    have hid := numS_id1 (m := H.wo) hr
    have wo : ∀ {y1 : Int32} {M1 : aM}, RN (numS u n 0 9999 p) (tS u n p) M y1 M1 → (hpV (M1.1 17 1) y1 = 0 ↔ ¬ a.1 < H.wo) := fun {y1 M1} q1 => by
      have g := q1.2.2 a hr
      rw [g.1, (g.2.2.2.1 17 1 (fun e => absurd e (by decide))).trans hH.wo, hpV_0 (by omega) (by omega)]
    have bt : ∀ {y1 : Int32} {M1 : aM}, a.1 < H.wo → RN (numS u n 0 9999 p) (tS u n p) M y1 M1 → ((((M1.1 20 (nI i).toNatClampNeg) ||| (M1.1 21 (nI i).toNatClampNeg)) >>> (y1 &&& 31)) &&& (Int32.ofInt 1) = 0 ↔ told H i a.1 = false) := fun {y1 M1} hw q1 => by
      have g := q1.2.2 a hr
      have e1 : M1.1 20 i = nI (H.cd i) := (g.2.2.2.1 20 i (fun e => absurd e (by decide))).trans (hH.cd i (by omega))
      have e2 : M1.1 21 i = nI (H.ml i) := (g.2.2.2.1 21 i (fun e => absurd e (by decide))).trans (hH.ml i (by omega))
      have b1 := (hI.cd i (by omega)).1
      have b2 := (hI.ml i (by omega)).1
      have b3 : H.cd i ||| H.ml i < 2 ^ 8 := Nat.or_lt_two_pow b1 b2
      rw [nI_clamp (by omega), e1, e2, g.1, nI_orN (by omega) (by omega), bitF (by omega) (by omega)]
      rfl
    refine rnwB_0 hJ hl0 _ c (fun _ _ _ _ _ _ => vp) (fun y1 M1 e1 q1 h3 h5 h7 => ?_) (fun y1 M1 e1 q1 h3 h5 h7 => ?_) (fun y1 M1 e1 q1 h3 h5 => ?_) (fun y1 M1 e1 q1 h3 => ?_)
    · have g := q1.2.2 a hr
      rw [wo q1, Decidable.not_not] at h5
      rw [bt h5 q1] at h7
      rw [if_pos h5] at hid
      have ht : told H i a.1 = true := by
        cases e : told H i a.1 with
        | true => rfl
        | false => exact absurd e h7
      refine RN_bad (p := p) (k := 4) ?_ (by decide) g.2.2.1 q1.1 e1
      rw [newS, hid]
      show (if told H i a.1 = true then _ else _) = _
      rw [if_pos ht]
    · have g := q1.2.2 a hr
      rw [wo q1, Decidable.not_not] at h5
      rw [bt h5 q1] at h7
      rw [if_pos h5] at hid
      refine RN_ok (a := a) ?_ g.1 g.2.1 g.2.2.1 g.2.2.2 e1
      rw [newS, hid]
      show (if told H i a.1 = true then _ else _) = _
      rw [if_neg (by rw [h7]; decide)]
    · have g := q1.2.2 a hr
      rw [wo q1] at h5
      rw [if_neg h5] at hid
      refine RN_bad (p := p) (k := 3) ?_ (by decide) g.2.2.1 q1.1 e1
      rw [newS, hid]
      rfl
    · rw [(q1.2.2 a hr).1] at h3
      exact absurd h3 (nI_nm1 (by omega))
theorem alcB_c (hl0 : l.1.stackTraces = false) (hJ : ∀ e ∈ RK, M.2.2 e.1 e.2.1 = e.2.2) (hI : HI H) (hH : cHo 17 H M) : AC l (pI pg 71) (pvI M (nI (smF H.ch H.pe))) 0 0 [.ref 17] SHF M := by
  have hp6 := hI.pe
  refine fw_of hl0 ⟨by decide +kernel, by decide +kernel, by decide +kernel⟩ rfl ?_
  refine alcB_0 hJ hl0 ?_
  have loop : ∀ (d j : Nat), j + d = H.pe → AW l (pI pg 71) (pvI M (nI (smF H.ch H.pe))) 0 0 4 [(2, .int (nI j)), (1, .int (nI (smF H.ch j))), (0, .ref 17)] [] SHF M := by
    intro d
    induction d with
    | zero =>
      intro j hj
      refine alcB_4 hJ hl0 (fun _ => ?_) (fun h1 => ?_) (fun h1 => ?_)
      · rw [show H.pe = j by omega]
        exact pvI_of
      · rw [hH.pe, nI_leI (by omega) (by omega)] at h1
        omega
      · rw [hH.pe, nI_leI (by omega) (by omega)] at h1
        omega
    | succ d ih =>
      intro j hj
      refine alcB_4 hJ hl0 (fun h1 => ?_) (fun h1 => ?_) (fun h1 => ?_)
      · rw [hH.pe, nI_leI (by omega) (by omega)] at h1
        omega
      · exact vp_in_nI (by omega) (by decide)
      · have e1 : nI j + Int32.ofInt 1 = nI (j + 1) := nI_1 _
        have e3 : M.1 19 j = nI (H.ch j) := hH.ch j (by omega)
        have e2 : nI (smF H.ch j) + M.1 19 (nI j).toNatClampNeg = nI (smF H.ch (j + 1)) := by
          rw [nI_clamp (by omega), e3, nI_add]
          rfl
        rw [e1, e2]
        exact ih (j + 1) (by omega)
  exact loop H.pe 0 (by omega)
theorem rchB_c (hl0 : l.1.stackTraces = false) (hJ : ∀ e ∈ RK, M.2.2 e.1 e.2.1 = e.2.2) (hB : CB n u M) (hp : p ≤ n) (h5 : M.1 2 5 = nI p) (hI : HI H) (hH : cHo 17 H M) : AC l (pI pg 70) (fcI M (RN (chS u n H p) (tS u n p) M)) 0 0 [.ref 1, .ref 17] SHF M := by
  have hc := hI.ch
  refine fw_of hl0 ⟨by decide +kernel, by decide +kernel, by decide +kernel⟩ rfl ?_
  have c := num_c hl0 hJ hB hp h5 (lo := 0) (hi := 1000) (by decide) (by decide) (x := Int32.ofInt 0) (y := (Int16.ofInt 1000).toInt32) (by decide) (by decide)
  cases hr : numS u n 0 1000 p with
  | inl f =>
    have hn : chS u n H p = .inl f := by rw [chS, hr]; rfl
    exact rchB_0 hJ hl0 _ c (fun y1 M1 e1 q1 h3 => RN_pass hr hn e1 q1) (fun _ _ _ _ => True) (fun y1 M1 e1 q1 h3 => absurd (q1.2.1 f hr).1 h3) (fun y1 M1 e1 q1 h3 => absurd (q1.2.1 f hr).1 h3) (fun y1 M1 e1 q1 h3 => absurd (q1.2.1 f hr).1 h3)
  | inr a =>
    have ha := (numS_ok hr).2.1
    have le : nI (smF H.ch H.pe) + nI a.1 ≤ (Int16.ofInt 1000).toInt32 ↔ smF H.ch H.pe + a.1 ≤ 1000 := by
      rw [show (Int16.ofInt 1000).toInt32 = nI 1000 by decide, nI_add, nI_leI (by omega) (by decide)]
    refine rchB_0 hJ hl0 _ c (fun y1 M1 e1 q1 h3 => ?_) (fun _ M1 y M' => nI (smF H.ch H.pe) = y ∧ M1 = M') (fun y1 M1 e1 q1 h3 => ?_) (fun y1 M1 e1 q1 h3 y5 M5 e5 q5 h7 => ?_) (fun y1 M1 e1 q1 h3 y5 M5 e5 q5 h7 => ?_)
    · rw [(q1.2.2 a hr).1] at h3
      exact absurd h3 (nI_nm1 (by omega))
    · exact alcB_c hl0 (by rw [e1]; exact hJ) hI (cH_R (by decide) hH q1.1)
    · obtain ⟨rfl, rfl⟩ := q5
      have g := q1.2.2 a hr
      rw [g.1, le] at h7
      refine RN_ok (a := a) ?_ g.1 g.2.1 g.2.2.1 g.2.2.2 e1
      rw [chS, hr]
      show (if 1000 < smF H.ch H.pe + a.1 then _ else _) = _
      rw [if_neg (by omega)]
    · obtain ⟨rfl, rfl⟩ := q5
      have g := q1.2.2 a hr
      rw [g.1, le] at h7
      refine RN_bad (p := p) (k := 5) ?_ (by decide) g.2.2.1 q1.1 e1
      rw [chS, hr]
      show (if 1000 < smF H.ch H.pe + a.1 then _ else _) = _
      rw [if_pos (by omega)]
def QHB (H : HS) (M : aM) : aM → Prop := fun M' => cHo 17 H M' ∧ hoF 17 M M'
theorem adpB_c (hl0 : l.1.stackTraces = false) (hJ : ∀ e ∈ RK, M.2.2 e.1 e.2.1 = e.2.2) (hH : cHo 17 H M) (hq : H.pe < 6) {h c : Nat} : AC l (pI pg 73) (fcV M (QHB (addP H h c) M)) 0 0 [.ref 17, .int (nI h), .int (nI c)] SHF M := by
  refine fw_of hl0 ⟨by decide +kernel, by decide +kernel, by decide +kernel⟩ rfl ?_
  have e0 : (M.1 17 0).toNatClampNeg = H.pe := by rw [hH.pe, nI_clamp (by omega)]
  refine adpB_0 hJ hl0 (fun h1 => ?_) (fun h1 => ?_) (fun h1 => ?_) (fun h1 => ?_)
  · rw [hH.pe, show (Int8.ofInt 6).toInt32 = nI 6 by decide, nI_leI (by decide) (by omega)] at h1
    omega
  · rw [hH.pe]
    exact vp_in_nI hq (by decide)
  · show vp_in (M.1 17 0) 6
    rw [hH.pe]
    exact vp_in_nI hq (by decide)
  · refine ⟨rfl, rfl, rfl, ?_⟩
    show QHB _ M (aset (aset (aset M 18 (M.1 17 0).toNatClampNeg (.int (nI h))) 19 (M.1 17 0).toNatClampNeg (.int (nI c))) 17 0 (.int (M.1 17 0 + Int32.ofInt 1)))
    rw [e0]
    refine ⟨cHo.of (pe := ?_) (wo := hH.wo) (te := hH.te) (fo := hH.fo) (ho := fun i hi => ?_) (ch := fun i hi => ?_) (cd := hH.cd) (ml := hH.ml) (be := hH.be) (le := hH.le) (dr := hH.dr) (sk := hH.sk) (t0 := hH.t0) (t1 := hH.t1) (t2 := hH.t2) (t3 := hH.t3), fun a k ha => ?_, rfl⟩
    · show M.1 17 0 + Int32.ofInt 1 = nI (H.pe + 1)
      rw [hH.pe]
      exact nI_1 _
    · show (if i = H.pe then nI h else M.1 18 i) = nI (npd H.ho H.pe h i)
      have hi2 : i < H.pe + 1 := hi
      by_cases e : i = H.pe
      · rw [if_pos e, e, npd_eq]
      · rw [if_neg e, npd_ne e]
        exact hH.ho i (by omega)
    · show (if i = H.pe then nI c else M.1 19 i) = nI (npd H.ch H.pe c i)
      have hi2 : i < H.pe + 1 := hi
      by_cases e : i = H.pe
      · rw [if_pos e, e, npd_eq]
      · rw [if_neg e, npd_ne e]
        exact hH.ch i (by omega)
    · rw [set_1, if_neg (by omega), set_1, if_neg (by omega), set_1, if_neg (by omega)]
theorem adwB_c (hl0 : l.1.stackTraces = false) (hJ : ∀ e ∈ RK, M.2.2 e.1 e.2.1 = e.2.2) (hH : cHo 17 H M) (hq : H.wo < 8) {h c : Nat} : AC l (pI pg 77) (fcV M (QHB (addW H h c) M)) 0 0 [.ref 17, .int (nI h), .int (nI c)] SHF M := by
  refine fw_of hl0 ⟨by decide +kernel, by decide +kernel, by decide +kernel⟩ rfl ?_
  have e0 : (M.1 17 1).toNatClampNeg = H.wo := by rw [hH.wo, nI_clamp (by omega)]
  refine adwB_0 hJ hl0 (fun h1 => ?_) (fun h1 => ?_) (fun h1 => ?_) (fun h1 => ?_)
  · rw [hH.wo, show (Int8.ofInt 8).toInt32 = nI 8 by decide, nI_leI (by decide) (by omega)] at h1
    omega
  · rw [hH.wo]
    exact vp_in_nI hq (by decide)
  · show vp_in (M.1 17 1) 8
    rw [hH.wo]
    exact vp_in_nI hq (by decide)
  · refine ⟨rfl, rfl, rfl, ?_⟩
    show QHB _ M (aset (aset (aset M 22 (M.1 17 1).toNatClampNeg (.int (nI h))) 23 (M.1 17 1).toNatClampNeg (.int (nI c))) 17 1 (.int (M.1 17 1 + Int32.ofInt 1)))
    rw [e0]
    refine ⟨cHo.of (pe := hH.pe) (wo := ?_) (te := hH.te) (fo := hH.fo) (ho := hH.ho) (ch := hH.ch) (cd := hH.cd) (ml := hH.ml) (be := fun i hi => ?_) (le := fun i hi => ?_) (dr := hH.dr) (sk := hH.sk) (t0 := hH.t0) (t1 := hH.t1) (t2 := hH.t2) (t3 := hH.t3), fun a k ha => ?_, rfl⟩
    · show M.1 17 1 + Int32.ofInt 1 = nI (H.wo + 1)
      rw [hH.wo]
      exact nI_1 _
    · show (if i = H.wo then nI h else M.1 22 i) = nI (npd H.be H.wo h i)
      have hi2 : i < H.wo + 1 := hi
      by_cases e : i = H.wo
      · rw [if_pos e, e, npd_eq]
      · rw [if_neg e, npd_ne e]
        exact hH.be i (by omega)
    · show (if i = H.wo then nI c else M.1 23 i) = nI (npd H.le H.wo c i)
      have hi2 : i < H.wo + 1 := hi
      by_cases e : i = H.wo
      · rw [if_pos e, e, npd_eq]
      · rw [if_neg e, npd_ne e]
        exact hH.le i (by omega)
    · rw [set_1, if_neg (by omega), set_1, if_neg (by omega), set_1, if_neg (by omega)]
theorem adsB_c (hl0 : l.1.stackTraces = false) (hJ : ∀ e ∈ RK, M.2.2 e.1 e.2.1 = e.2.2) (hI : HI H) (hH : cHo 17 H M) {i w v : Nat} (hi : i < H.pe) (hw : w < H.wo) : AC l (pI pg 81) (fcV M (QHB (addS H i w v) M)) 0 0 [.ref 17, .int (nI i), .int (nI w), .int (nI v)] SHF M := by
  have hp6 := hI.pe
  have hw8 := hI.wo
  have b1 := (hI.cd i (by omega)).1
  have b2 := (hI.dr w (by omega)).1
  have p1 : 2 ^ w < 2 ^ 8 := Nat.pow_lt_pow_right (by decide) (by omega)
  have p2 : 2 ^ i < 2 ^ 8 := Nat.pow_lt_pow_right (by decide) (by omega)
  have p3 : (2 : Nat) ^ 8 = 256 := by decide
  refine fw_of hl0 ⟨by decide +kernel, by decide +kernel, by decide +kernel⟩ rfl ?_
  have e0 : ¬ hpV (M.1 17 0) (nI i) = 0 := by rw [hH.pe, hpV_0 (by omega) (by omega)]; omega
  have e1 : ¬ hpV (M.1 17 1) (nI w) = 0 := by rw [hH.wo, hpV_0 (by omega) (by omega)]; omega
  have e2 : nI i * (Int8.ofInt 8).toInt32 + nI w = nI (8 * i + w) := by rw [show (Int8.ofInt 8).toInt32 = nI 8 by decide, nI_mulN, nI_add, Nat.mul_comm]
  have e3 : (nI i * (Int8.ofInt 8).toInt32 + nI w).toNatClampNeg = 8 * i + w := by rw [e2, nI_clamp (by omega)]
  have e4 : (nI i).toNatClampNeg = i := nI_clamp (by omega)
  have e5 : (nI w).toNatClampNeg = w := nI_clamp (by omega)
  refine adsB_0 hJ hl0 (fun h => absurd h e0) (fun _ h => absurd h e1) (fun _ _ => ?_) (fun _ _ => vp_in_nI (by omega) (by decide)) (fun _ _ => vp_in_nI (by omega) (by decide)) (fun _ _ => ?_)
  · rw [e2]
    exact vp_in_nI (by omega) (by decide)
  · refine ⟨rfl, rfl, rfl, ?_⟩
    show QHB _ M (aset (aset (aset M 25 (nI i * (Int8.ofInt 8).toInt32 + nI w).toNatClampNeg (.int (nI v))) 20 (nI i).toNatClampNeg (.int (M.1 20 (nI i).toNatClampNeg ||| (Int32.ofInt 1 <<< (nI w &&& 31))))) 24 (nI w).toNatClampNeg (.int (M.1 24 (nI w).toNatClampNeg ||| (Int32.ofInt 1 <<< (nI i &&& 31)))))
    rw [e3, e4, e5]
    refine ⟨cHo.of (pe := hH.pe) (wo := hH.wo) (te := hH.te) (fo := hH.fo) (ho := hH.ho) (ch := hH.ch) (cd := fun j hj => ?_) (ml := hH.ml) (be := hH.be) (le := hH.le) (dr := fun j hj => ?_) (sk := fun j hj => ?_) (t0 := hH.t0) (t1 := hH.t1) (t2 := hH.t2) (t3 := hH.t3), fun a k ha => ?_, rfl⟩
    · show (if j = i then M.1 20 i ||| (Int32.ofInt 1 <<< (nI w &&& 31)) else M.1 20 j) = nI (npd H.cd i (H.cd i ||| 2 ^ w) j)
      by_cases e : j = i
      · have z : M.1 20 i = nI (H.cd i) := hH.cd i (by omega)
        rw [if_pos e, e, npd_eq, z, shW (by omega), nI_orN (by omega) (by omega)]
      · rw [if_neg e, npd_ne e]
        exact hH.cd j hj
    · show (if j = w then M.1 24 w ||| (Int32.ofInt 1 <<< (nI i &&& 31)) else M.1 24 j) = nI (npd H.dr w (H.dr w ||| 2 ^ i) j)
      by_cases e : j = w
      · have z : M.1 24 w = nI (H.dr w) := hH.dr w (by omega)
        rw [if_pos e, e, npd_eq, z, shW (by omega), nI_orN (by omega) (by omega)]
      · rw [if_neg e, npd_ne e]
        exact hH.dr j hj
    · show (if j = 8 * i + w then nI v else M.1 25 j) = nI (npd H.sk (8 * i + w) v j)
      by_cases e : j = 8 * i + w
      · rw [if_pos e, e, npd_eq]
      · rw [if_neg e, npd_ne e]
        exact hH.sk j hj
    · rw [set_1, if_neg (by omega), set_1, if_neg (by omega), set_1, if_neg (by omega)]
theorem adtB_c (hl0 : l.1.stackTraces = false) (hJ : ∀ e ∈ RK, M.2.2 e.1 e.2.1 = e.2.2) (hI : HI H) (hH : cHo 17 H M) {i w v y : Nat} (hq : H.te < 8) (hi : i < H.pe) (hw : w < H.wo) : AC l (pI pg 83) (fcV M (QHB (addL H i w v y) M)) 0 0 [.ref 17, .int (nI i), .int (nI w), .int (nI v), .int (nI y)] SHF M := by
  have hp6 := hI.pe
  have hw8 := hI.wo
  have b1 := (hI.ml i (by omega)).1
  have p1 : 2 ^ w < 2 ^ 8 := Nat.pow_lt_pow_right (by decide) (by omega)
  have p3 : (2 : Nat) ^ 8 = 256 := by decide
  refine fw_of hl0 ⟨by decide +kernel, by decide +kernel, by decide +kernel⟩ rfl ?_
  have e0 : ¬ hpV (M.1 17 0) (nI i) = 0 := by rw [hH.pe, hpV_0 (by omega) (by omega)]; omega
  have e1 : ¬ hpV (M.1 17 1) (nI w) = 0 := by rw [hH.wo, hpV_0 (by omega) (by omega)]; omega
  have e2 : ¬ (Int8.ofInt 8).toInt32 ≤ M.1 17 2 := by rw [hH.te, show (Int8.ofInt 8).toInt32 = nI 8 by decide, nI_leI (by decide) (by omega)]; omega
  have e3 : (M.1 17 2).toNatClampNeg = H.te := by rw [hH.te, nI_clamp (by omega)]
  have e4 : (nI i).toNatClampNeg = i := nI_clamp (by omega)
  have vp : vp_in (M.1 17 2) 8 := by rw [hH.te]; exact vp_in_nI hq (by decide)
  refine adtB_0 hJ hl0 (fun h => absurd h e2) (fun _ h => absurd h e0) (fun _ _ h => absurd h e1) (fun _ _ _ => vp) (fun _ _ _ => vp) (fun _ _ _ => vp) (fun _ _ _ => vp) (fun _ _ _ => vp_in_nI (by omega) (by decide)) (fun _ _ _ => ?_)
  refine ⟨rfl, rfl, rfl, ?_⟩
  show QHB _ M (aset (aset (aset (aset (aset (aset M 26 (M.1 17 2).toNatClampNeg (.int (nI i))) 27 (M.1 17 2).toNatClampNeg (.int (nI w))) 28 (M.1 17 2).toNatClampNeg (.int (nI v))) 29 (M.1 17 2).toNatClampNeg (.int (nI y))) 21 (nI i).toNatClampNeg (.int (M.1 21 (nI i).toNatClampNeg ||| (Int32.ofInt 1 <<< (nI w &&& 31))))) 17 2 (.int (M.1 17 2 + Int32.ofInt 1)))
  rw [e3, e4]
  refine ⟨cHo.of (pe := hH.pe) (wo := hH.wo) (te := ?_) (fo := hH.fo) (ho := hH.ho) (ch := hH.ch) (cd := hH.cd) (ml := fun j hj => ?_) (be := hH.be) (le := hH.le) (dr := hH.dr) (sk := hH.sk) (t0 := fun j hj => ?_) (t1 := fun j hj => ?_) (t2 := fun j hj => ?_) (t3 := fun j hj => ?_), fun a k ha => ?_, rfl⟩
  · show M.1 17 2 + Int32.ofInt 1 = nI (H.te + 1)
    rw [hH.te]
    exact nI_1 _
  · show (if j = i then M.1 21 i ||| (Int32.ofInt 1 <<< (nI w &&& 31)) else M.1 21 j) = nI (npd H.ml i (H.ml i ||| 2 ^ w) j)
    by_cases e : j = i
    · have z : M.1 21 i = nI (H.ml i) := hH.ml i (by omega)
      rw [if_pos e, e, npd_eq, z, shW (by omega), nI_orN (by omega) (by omega)]
    · rw [if_neg e, npd_ne e]
      exact hH.ml j hj
  · show (if j = H.te then nI i else M.1 26 j) = nI (npd H.t0 H.te i j)
    have hj2 : j < H.te + 1 := hj
    by_cases e : j = H.te
    · rw [if_pos e, e, npd_eq]
    · rw [if_neg e, npd_ne e]
      exact hH.t0 j (by omega)
  · show (if j = H.te then nI w else M.1 27 j) = nI (npd H.t1 H.te w j)
    have hj2 : j < H.te + 1 := hj
    by_cases e : j = H.te
    · rw [if_pos e, e, npd_eq]
    · rw [if_neg e, npd_ne e]
      exact hH.t1 j (by omega)
  · show (if j = H.te then nI v else M.1 28 j) = nI (npd H.t2 H.te v j)
    have hj2 : j < H.te + 1 := hj
    by_cases e : j = H.te
    · rw [if_pos e, e, npd_eq]
    · rw [if_neg e, npd_ne e]
      exact hH.t2 j (by omega)
  · show (if j = H.te then nI y else M.1 29 j) = nI (npd H.t3 H.te y j)
    have hj2 : j < H.te + 1 := hj
    by_cases e : j = H.te
    · rw [if_pos e, e, npd_eq]
    · rw [if_neg e, npd_ne e]
      exact hH.t3 j (by omega)
  · rw [set_1, if_neg (by omega), set_1, if_neg (by omega), set_1, if_neg (by omega), set_1, if_neg (by omega), set_1, if_neg (by omega), set_1, if_neg (by omega)]
end RDB
