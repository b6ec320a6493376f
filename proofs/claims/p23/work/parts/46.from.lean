/-! a check of a stretch of a method: it begins anywhere, and may end at places where what holds from there on is known otherwise -/
def fiA (R : sR) (Cg : sC) (y : sK × Nat × Nat) (h : hdE) : Bool := Nat.beq (hP h) y.1.1 && (y.1.2.2.1.isEmpty && (arL y.1.2.2.2 y.1.2.1 (hL' h) && ((hM h).all (fun q => m2B R y.1.2.2.2 Cg q) && (hR h).all (rlB y.1.2.2.2 y.1.2.1))))
def xCA (R : sR) (e : cE) (hs as : List hdE) (ys : List sKy) (Cg : sC) (fall : Bool) (lv0 : List (Nat × Value)) (C0 : sC) (k0 : Int) (cs0 : List Int) (x : sX) : Bool := xC R e hs ys Cg fall lv0 C0 k0 cs0 x || (match x with
  | .inr _ => false
  | .inl y => as.any (fiA R Cg y))
noncomputable def mCF (g : aPg) (R : sR) (sh : aH) (mt : sMt) (ct : List cE) (e : cE) (hs as : List hdE) (ys : List sKy) (n pc0 : Nat) (ps : List (Nat × pP)) : Bool :=
  match mkG (eB e) (0, [], [], []) with
  | some Sg => (match mkL (vlC Sg.2.2.2) ps [] Sg with
    | some (lv, S) => (match rn g R (eW e) sh mt ct n (vlC Sg.2.2.2 ++ (vlL lv ++ vlC S.2.2.2)) (eJ e) (hs.map hP ++ as.map hP) (eKc e) (eKs e) (pc0, lv, [], S) with
      | some Xs => Xs.all (xCA R e hs as ys Sg.2.2.2 false lv S.2.2.2 0 []) && hs.all (fun h => match mkL (vlC Sg.2.2.2) (hL' h) [] (Sg.1, Sg.2.1, Sg.2.2.1, []) with
        | some (lv1, S1) => (match psS (vlC Sg.2.2.2) lv1 [] Sg (hM h) S1 with
          | some S2 => (match rn g R (eW e) sh mt ct n (vlC Sg.2.2.2 ++ (vlL lv1 ++ vlC S2.2.2.2)) (eJ e) (hs.map hP ++ as.map hP) 0 0 (hP h, lv1, [], adR lv1 (hR h) S2) with
            | some Ys => Ys.all (xCA R e hs as ys Sg.2.2.2 true lv1 S2.2.2.2 (hK h) (hC h))
            | none => false)
          | none => false)
        | none => false)
      | none => false)
    | none => false)
  | none => false
/-- what is known at an end that is proved otherwise -/
def asG (l : aL) (g : aPg) (R : sR) (sh : aH) (e : cE) (M0 : aM) (as : List hdE) : Prop := ∀ h ∈ as, ∀ (L : List (Nat × Value)) (M : aM), (∀ q ∈ hL' h, ∃ v, lk L q.1 = some v ∧ mP v q.2) → (∀ q ∈ hM h, m2 M0 M q) → (∀ r ∈ hR h, r.2.2.1 ≤ kyN L M r.1 - kyN L M r.2.1 ∧ kyN L M r.1 - kyN L M r.2.1 ≤ r.2.2.2) → Jm R (eW e) M0 M → AW l (pI g (eJ e)) (fun r sh' M => sh' = sh ∧ Jm R (eW e) M0 M ∧ pOk e M0 M r) 0 0 (hP h) L [] sh M
theorem xCA_ok {l : aL} {g : aPg} {R : sR} {sh : aH} {e : cE} {hs as : List hdE} {ys : List sKy} {Cg C0 : sC} {fall : Bool} {lv0 : List (Nat × Value)} {k0 : Int} {cs0 : List Int} {x : sX} {M0 M1 : aM} {L0 : List (Nat × Value)} {ν : Nat → Int32} {μ : Nat → Int64} (B : Nat)
    (hg : ∀ a k w, lkM Cg a k = some w → cq ν μ w = .int (M0.1 a k)) (hl : ∀ z ∈ lvq ν μ lv0, lk L0 z.1 = some z.2) (hc : ∀ a k w, lkM C0 a k = some w → cq ν μ w = .int (M1.1 a k))
    (ih : ∀ h ∈ hs, ∀ L M, hdG ys M0 h B L M → Jm R (eW e) M0 M → AW l (pI g (eJ e)) (fun r sh' M => sh' = sh ∧ Jm R (eW e) M0 M ∧ pOk e M0 M r) 0 0 (hP h) L [] sh M)
    (hB : ∀ v : Int, 0 ≤ v → (fall = true → v < k0 + rkN L0 M1 ys cs0) → v < (B : Int) ∨ fall = false) (hB2 : fall = false → ∀ h ∈ hs, ∀ L M, hdG ys M0 h ((hK h + rkN L M ys (hC h)).toNat + 1) L M → Jm R (eW e) M0 M → AW l (pI g (eJ e)) (fun r sh' M => sh' = sh ∧ Jm R (eW e) M0 M ∧ pOk e M0 M r) 0 0 (hP h) L [] sh M)
    (hA : asG l g R sh e M0 as) (hx : xCA R e hs as ys Cg fall lv0 C0 k0 cs0 x = true) : xh l (pI g (eJ e)) (fun r sh' M => sh' = sh ∧ Jm R (eW e) M0 M ∧ pOk e M0 M r) sh (vlC Cg ++ (vlL lv0 ++ vlC C0)) (Jm R (eW e) M0) ν μ x := by
  unfold xCA at hx
  rw [Bool.or_eq_true] at hx
  rcases hx with hx | hx
  · exact xC_ok B hg hl hc ih hB hB2 hx
  · cases x with
    | inr y => cases hx
    | inl y =>
      obtain ⟨⟨pc, lv, st, S⟩, k1, k2⟩ := y
      intro ν' μ' M' hag hs' hJ'
      simp only at hs' ⊢
      obtain ⟨h, hm, hx⟩ := List.any_eq_true.mp hx
      unfold fiA at hx
      simp only [Bool.and_eq_true] at hx
      obtain ⟨x0, xe, x3, x4, x7⟩ := hx
      have hpc := Nat.eq_of_beq_eq_true x0
      have xe := List.isEmpty_iff.mp xe
      subst hpc
      subst xe
      refine AW.mono (Nat.zero_le _) (Nat.zero_le _) (hA h hm _ M' (fun q hq => ?_) (fun q hq => ?_) (fun r hr => rlB_ok hs' (List.all_eq_true.mp x7 r hr)) hJ')
      · have h1 := List.all_eq_true.mp x3 q hq
        split at h1
        · next v hv => exact ⟨cq ν' μ' v, by rw [lk_q, hv]; rfl, mA_ok hs' h1⟩
        · cases h1
      · exact m2B_ok hs' hJ'.1 (fun a k w hw => (hag _ (List.mem_append_left _ (mem_vlC (lkM_mem hw)))).trans (hg a k w hw)) (List.all_eq_true.mp x4 q hq)
theorem from_ok {l : aL} {g : aPg} {R : sR} {sh : aH} {mt : sMt} {ct : List cE} {e : cE} {hs as : List hdE} {ys : List sKy} {n pc0 : Nat} {ps : List (Nat × pP)} (G : pgOk g) (hmt : mtOk g mt) (hl0 : l.1.stackTraces = false) (hct : ∀ e ∈ ct, cOk l g R sh e) (h : mCF g R sh mt ct e hs as ys n pc0 ps = true)
    {M0 : aM} {L0 : List (Nat × Value)} (hA : asG l g R sh e M0 as) (hps : ∀ q ∈ ps, ∃ v, lk L0 q.1 = some v ∧ mP v q.2) (hJR : JR R M0) (hB : ∀ q ∈ eB e, inI (M0.1 q.1 q.2.1) q.2.2) : AW l (pI g (eJ e)) (fun r sh' M => sh' = sh ∧ Jm R (eW e) M0 M ∧ pOk e M0 M r) (eKc e) (eKs e) pc0 L0 [] sh M0 := by
  unfold mCF at h
  split at h
  · next Sg hG =>
      split at h
      · next lv S hL =>
          split at h
          · next Xs hX =>
              rw [Bool.and_eq_true, List.all_eq_true, List.all_eq_true] at h
              obtain ⟨hXs, hHs⟩ := h
              obtain ⟨νg, hsg⟩ := mkG_ok (ν := fun _ => 0) (μ := fun _ => 0) hG hB ⟨fun _ h => absurd h List.not_mem_nil, fun _ h => absurd h List.not_mem_nil, fun _ h => absurd h List.not_mem_nil⟩
              have hJ0 : Jm R (eW e) M0 M0 := ⟨hJR.1, hJR.2, fun _ _ _ => rfl, rfl⟩
              have heads : ∀ (B : Nat) (h : hdE), h ∈ hs → ∀ (L : List (Nat × Value)) (M : aM), hdG ys M0 h B L M → Jm R (eW e) M0 M → AW l (pI g (eJ e)) (fun r sh' M => sh' = sh ∧ Jm R (eW e) M0 M ∧ pOk e M0 M r) 0 0 (hP h) L [] sh M := by
                intro B
                induction B with
                | zero =>
                  intro h hh L M hd hJ
                  have h1 := hd.2.2.2.1
                  have h2 := hd.2.2.2.2
                  exact absurd h2 (by omega)
                | succ B ih =>
                  intro h hh L M hd hJ
                  have hc := hHs h hh
                  split at hc
                  · next lv1 S1 hL1 =>
                      split at hc
                      · next S2 hS2 =>
                          split at hc
                          · next Ys hY =>
                              rw [List.all_eq_true] at hc
                              obtain ⟨ν1, μ1, a1, a2, a3⟩ := mkL_ok (M := M) (Lc := L) (ν := νg) (μ := fun _ => 0) hL1 hd.1 (fun _ h => absurd h List.not_mem_nil) ⟨hsg.1, hsg.2.1, fun _ h => absurd h List.not_mem_nil⟩
                              obtain ⟨ν2, b1, b2, b3, b4⟩ := psS_ok (M := M) hsg (fun z hz => mem_vlC hz) hS2 hd.2.1 a1 a3
                              have hkn : ∀ y : sKy, ∀ v, kyV lv1 S2.2.2.2 y = some v → ∀ z : Int32, cq ν2 μ1 v = .int z → kyN L M y = z.toInt := by
                                intro y v hy z hz
                                unfold kyV at hy
                                unfold kyN
                                split at hy
                                · have e2 := a2 (y.2.1, cq ν1 μ1 v) (List.mem_map.mpr ⟨_, lk_mem hy, rfl⟩)
                                  have e3 := b2
                                  simp only [lvq] at e3
                                  have e4 : cq ν2 μ1 v = cq ν1 μ1 v := (Prod.mk.inj (List.map_inj_left.mp e3 _ (lk_mem hy))).2
                                  simp only at e2
                                  rw [e2, ← e4, hz]
                                · have e2 := lkM_ok b4 hy
                                  rw [hz] at e2
                                  rw [← Value.int.inj e2]
                              have b5 := adR_ok2 b4 hkn hd.2.2.1
                              have hk := rn_ok (W := eW e) (M0 := M0) G hmt hl0 hct n _ _ _ _ _ _ _ hY _ ν2 μ1 M b5 hJ (fun x hx => xCA_ok (L0 := L) (M1 := M) B (fun a k w hw => (b1 _ (mem_vlC (lkM_mem hw))).trans (lkM_ok hsg hw)) (by rw [b2]; exact a2) (fun a k w hw => lkM_ok b4 hw) ih (fun v hv hf => Or.inl (by have h1 := hd.2.2.2.2; have h2 := hf rfl; omega)) (fun hf => by cases hf) hA (hc x hx))
                              simp only at hk
                              rw [b2] at hk
                              exact AW.drop (fun x hx => lk_mem (a2 x hx)) hk
                          · cases hc
                      · cases hc
                  · cases hc
              obtain ⟨ν1, μ1, a1, a2, a3⟩ := mkL_ok (M := M0) (Lc := L0) (ν := νg) (μ := fun _ => 0) hL hps (fun _ h => absurd h List.not_mem_nil) hsg
              have hk := rn_ok (W := eW e) (M0 := M0) G hmt hl0 hct n _ _ _ _ _ _ _ hX _ ν1 μ1 M0 a3 hJ0 (fun x hx => xCA_ok (L0 := L0) (M1 := M0) 0 (fun a k w hw => (a1 _ (mem_vlC (lkM_mem hw))).trans (lkM_ok hsg hw)) a2 (fun a k w hw => lkM_ok a3 hw) (fun h hh L M hd _ => absurd hd.2.2.2.2 (by have h1 := hd.2.2.2.1; omega)) (fun _ _ _ => Or.inr rfl) (fun _ h hh L M hd hJ => heads _ h hh L M hd hJ) hA (hXs x hx))
              exact AW.drop (fun x hx => lk_mem (a2 x hx)) hk
          · cases h
      · cases h
  · cases h
/-! contracts by hand: what a walk must show -/
theorem wr_no {W : sW} {a k : Nat} (h : wrW W a k = false) : (∀ b ∈ W.1, a ≠ b) ∧ ∀ b ∈ W.2, a = b.1 → k ≠ b.2 := by
  rw [wrW, Bool.or_eq_false_iff, Bool.eq_false_iff, Bool.eq_false_iff] at h
  refine ⟨fun b hb e => h.1 ?_, fun b hb e1 e2 => h.2 ?_⟩
  · rw [e]
    exact List.any_eq_true.mpr ⟨b, hb, Nat.beq_refl b⟩
  · rw [e1, e2]
    exact List.any_eq_true.mpr ⟨b, hb, by rw [Nat.beq_refl, Nat.beq_refl]; rfl⟩
theorem Jm_of {R : sR} {W : sW} {M0 M : aM} (hJ : JR R M0) (h22 : M.2.2 = M0.2.2) (hfr : ∀ a k, wrW W a k = false → M.1 a k = M0.1 a k) (hA : ∀ a ∈ W.1, ∃ q, wcA R.1 a q = true ∧ ∀ k, inI (M.1 a k) q) (hF : ∀ f ∈ W.2, ∃ q, wcF R.1 f.1 f.2 q = true ∧ inI (M.1 f.1 f.2) q) : Jm R W M0 M := by
  refine ⟨fun e he => ?_, fun e he => by rw [h22]; exact hJ.2 e he, hfr, h22⟩
  have h3 := hJ.1 e he
  have wr : ∀ k, wrW W e.1 k = true → e.1 ∈ W.1 ∨ (e.1, k) ∈ W.2 := by
    intro k hk
    rw [wrW, Bool.or_eq_true, List.any_eq_true, List.any_eq_true] at hk
    rcases hk with ⟨b, hb, e1⟩ | ⟨b, hb, e1⟩
    · rw [← Nat.eq_of_beq_eq_true e1]
      exact Or.inl hb
    · rw [Bool.and_eq_true] at e1
      rw [← Nat.eq_of_beq_eq_true e1.1, ← Nat.eq_of_beq_eq_true e1.2]
      exact Or.inr hb
  unfold rgOk at h3 ⊢
  split at h3
  · next q' hq' =>
      intro k
      cases hw : wrW W e.1 k with
      | false =>
        rw [hfr _ _ hw]
        exact h3 k
      | true =>
        rcases wr k hw with h | h
        · obtain ⟨q, h1, h2⟩ := hA _ h
          have h4 := List.all_eq_true.mp h1 e he
          rw [hq'] at h4
          simp only [Nat.beq_refl, Bool.not_true, Bool.false_or, Bool.and_eq_true, decide_eq_true_eq] at h4
          exact ⟨Int.le_trans h4.1 (h2 k).1, Int.le_trans (h2 k).2 h4.2⟩
        · obtain ⟨q, h1, h2⟩ := hF _ h
          have h4 := List.all_eq_true.mp h1 e he
          rw [hq'] at h4
          simp only [Nat.beq_refl, Bool.not_true, Bool.false_or] at h4
          cases h4
  · next F hF' =>
      intro f hf
      cases hw : wrW W e.1 f.1 with
      | false =>
        rw [hfr _ _ hw]
        exact h3 f hf
      | true =>
        rcases wr f.1 hw with h | h
        · obtain ⟨q, h1, h2⟩ := hA _ h
          have h4 := List.all_eq_true.mp h1 e he
          rw [hF'] at h4
          simp only [Nat.beq_refl, Bool.not_true, Bool.false_or] at h4
          cases h4
        · obtain ⟨q, h1, h2⟩ := hF _ h
          have h4 := List.all_eq_true.mp h1 e he
          rw [hF'] at h4
          simp only [Nat.beq_refl, Bool.not_true, Bool.false_or] at h4
          have h5 := List.all_eq_true.mp h4 f hf
          simp only [Nat.beq_refl, Bool.not_true, Bool.false_or, Bool.and_eq_true, decide_eq_true_eq] at h5
          exact ⟨Int.le_trans h5.1 h2.1, Int.le_trans h2.2 h5.2⟩
/-- what is asked of a table of ranges for the walks around 'fills' -/
def okR (R : sR) : Prop := (∀ e ∈ RM, rgR R.2 e.1 e.2.1 = some e.2.2) ∧ rgF R.1 58 2 = some (0, 8) ∧ rgF R.1 58 1 = some (0, 6) ∧ rgA R.1 73 = some (0, 255) ∧ rgA R.1 74 = some (0, 256) ∧ rgA R.1 75 = some (0, 20000) ∧ rgA R.1 76 = some (-1, 6) ∧ rgA R.1 80 = some (0, 5) ∧ wcA R.1 76 (-1, 6) = true ∧ wcA R.1 77 fullI = true ∧ wcA R.1 78 fullI = true ∧ wcA R.1 80 (0, 5) = true ∧ wcF R.1 58 46 fullI = true
theorem okR_RR : okR RR := by
  refine ⟨?_, ?_⟩ <;> decide +kernel
theorem okR_RRS : okR RRS := by
  refine ⟨?_, ?_⟩ <;> decide +kernel
def mkD (M : aM) (left : Nat) : rD := ((M.1 58 2).toInt.toNat, fun p k => (M.1 73 (256 * p + k)).toInt.toNat, fun p => (M.1 74 p).toInt.toNat, fun p w => (M.1 75 (8 * p + w)).toInt, left)
theorem nI_self {x : Int32} (h : 0 ≤ x.toInt) : x = nI x.toInt.toNat := by
  have h1 := hi_i x
  rw [i_nI (by omega)]
  omega
theorem mdl_of {R : sR} {M : aM} {left : Nat} (hR : okR R) (hJ : JR R M) (hl : left < 64) : mdl M (M.1 58 1).toInt.toNat (mkD M left) (rwI M 76) ∧ mdB (M.1 58 1).toInt.toNat (mkD M left) := by
  obtain ⟨r1, r2, r3, r4, r5, r6, r7, -⟩ := hR
  have g2 := rgF_ok hJ.1 r2
  have g3 := rgF_ok hJ.1 r3
  have g4 := rgA_ok hJ.1 r4
  have g5 := rgA_ok hJ.1 r5
  have g6 := rgA_ok hJ.1 r6
  refine ⟨⟨fun e he => rgR_ok hJ.2 (r1 e he), nI_self g2.1, nI_self g3.1, fun p k => nI_self (g4 _).1, fun p => nI_self (g5 _).1, fun p w => rfl, fun w => rfl⟩, ?_, ?_, fun p k => ?_, fun p => ?_, fun p w => g6 _, hl⟩
  · have := g2.2
    show (M.1 58 2).toInt.toNat ≤ 8
    simp only at this
    omega
  · have := g3.2
    simp only at this
    omega
  · have := (g4 (256 * p + k)).2
    show (M.1 73 (256 * p + k)).toInt.toNat < 256
    simp only at this
    omega
  · have := (g5 p).2
    show (M.1 74 p).toInt.toNat ≤ 256
    simp only at this
    omega
/-- lays0 keeps its contract -/
def en_lays0 : cE := (208, [some (.inl (.ref 58)), some (.inr (0, 63))], [], ([76, 77, 78, 80], [(58, 46)]), [(some (some (.inr (0, 1))), [])], [], 0, 0)
theorem AC.post {l : aL} {id : Nat} {P P' : aP} {kc ks : Nat} {av : List Value} {sh : aH} {M : aM} (hl0 : l.1.stackTraces = false) (hp : ∀ r sh' M', P r sh' M' → P' r sh' M') (h : AC l (pI pg id) P kc ks av sh M) : AC l (pI pg id) P' kc ks av sh M := by
  intro G hΓ p e h1 h2 h3 s m args below h4 h5 h6 h7
  obtain ⟨n, o, a1, a2, a3, a4⟩ := h G hΓ p e h1 h2 h3 s m args below h4 h5 h6 h7
  refine ⟨n, o, a1, a2, a3, ?_⟩
  rcases a4 with ⟨⟨v, sh1, M1, b1, b2, b3⟩, b4⟩ | ⟨q, c1, E, ce, L, ⟨sh1, M1, b1, b2⟩, c2⟩
  · exact Or.inl ⟨⟨v, sh1, M1, b1, hp _ _ _ b2, b3⟩, b4⟩
  · exact Or.inr ⟨q, c1, E, ce, L, ⟨sh1, M1, hp _ _ _ b1, b2⟩, c2⟩
theorem mL2_1 {av : List Value} {p : pP} (h : mL2 av [p]) : ∃ v, av = [v] ∧ mP v p := by
  cases av with
  | nil => cases h
  | cons v r =>
    cases r with
    | nil => exact ⟨v, rfl, h.1⟩
    | cons w r => cases h.2
theorem mL2_2 {av : List Value} {p q : pP} (h : mL2 av [p, q]) : ∃ v w, av = [v, w] ∧ mP v p ∧ mP w q := by
  cases av with
  | nil => cases h
  | cons v r =>
    obtain ⟨w, rfl, h2⟩ := mL2_1 h.2
    exact ⟨v, w, rfl, h.1, h2⟩
theorem lays0_ok {l : aL} {R : sR} (hl0 : l.1.stackTraces = false) (hR : okR R) : cOk l pg R SHF en_lays0 := by
  intro M0 av hav hJ hB
  obtain ⟨v0, v1, rfl, h0, x, hx, hi⟩ := mL2_2 hav
  have h0 : v0 = .ref 58 := h0
  subst h0
  subst hx
  have i1 := hi.1
  have i2 := hi.2
  simp only at i1 i2
  obtain ⟨hm, hb⟩ := mdl_of (left := x.toInt.toNat) hR hJ (by omega)
  have h76 := rgA_ok hJ.1 hR.2.2.2.2.2.2.1
  have h80 := rgA_ok hJ.1 hR.2.2.2.2.2.2.2.1
  have hc := c207 hl0 hm hb h76 h80
  rw [show nI (dLf (mkD M0 x.toInt.toNat)) = x from (nI_self i1).symm] at hc
  refine hc.post hl0 (fun r sh' M' hp => ?_)
  obtain ⟨p1, p2, y, p3, p4, p5, p6, p7⟩ := hp
  obtain ⟨-, -, -, -, -, -, -, -, w1, w2, w3, w4, w5⟩ := hR
  refine ⟨p1, Jm_of hJ p2 (fun a k hw => ?_) ?_ ?_, ?_⟩
  · have hn := wr_no hw
    exact p5 a k (hn.1 76 (by decide)) (hn.1 77 (by decide)) (hn.1 78 (by decide)) (hn.1 80 (by decide)) (fun e1 => hn.2 (58, 46) (by decide) e1)
  · intro a ha
    simp only [en_lays0, eW, List.mem_cons, List.not_mem_nil, or_false] at ha
    rcases ha with rfl | rfl | rfl | rfl
    · exact ⟨_, w1, p6⟩
    · exact ⟨_, w2, fun k => in_full _⟩
    · exact ⟨_, w3, fun k => in_full _⟩
    · exact ⟨_, w4, p7⟩
  · intro f hf
    simp only [en_lays0, eW, List.mem_cons, List.not_mem_nil, or_false] at hf
    subst hf
    exact ⟨_, w5, in_full _⟩
  · subst p3
    refine ⟨_, List.mem_cons_self, ⟨y, rfl, ?_⟩, fun q hq => absurd hq List.not_mem_nil⟩
    rcases p4 with rfl | rfl <;> exact ⟨by decide, by decide⟩
