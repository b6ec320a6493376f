/-! readsCouple of the reference -/
theorem told_iff {H : HS} (hI : HI H) {i w : Nat} (hi : i < 6) (hw : w < 8) : told H i w = true ↔ 0 < H.sk (8 * i + w) ∨ ∃ k, k < H.te ∧ H.t0 k = i ∧ H.t1 k = w := by
  unfold told
  rw [Nat.testBit_or, Bool.or_eq_true, (hI.cd i hi).2 w hw, (hI.ml i hi).2 w hw]
def cpS (u : Nat → Nat) (n : Nat) (H : HS) (p : Nat) : Flt ⊕ (Nat × Nat × Nat) := bnd (idS u n H.pe (tEe u n p)) fun a => bnd (newS u n H a.1 a.2) fun b => .inr (a.1, b.1, b.2)
def QC (u : Nat → Nat) (n : Nat) (H : HS) (τ : Flt ⊕ (Nat × Nat × Nat)) (M : aM) : aM → Prop := fun M' => lnF M M' ∧ nHo H M' ∧ (∀ f, τ = .inl f → bS f M') ∧ ∀ a, τ = .inr a → gS u n a.2.2 M' ∧ M'.1 58 35 = nI a.1 ∧ M'.1 58 36 = nI a.2.1
theorem nHo_5 {H : HS} {M : aM} {k : Nat} {x : Int32} (h : nHo H M) (hk : 28 < k) : nHo H (aset M 58 k (.int x)) := by
  have g : ∀ j, j ≤ 28 → (aset M 58 k (.int x)).1 58 j = M.1 58 j := fun j hj => by rw [set_1, if_pos rfl, if_neg (by omega)]
  refine nHo.of ((g 23 (by decide)).trans h.pe) ((g 24 (by decide)).trans h.wo) ((g 25 (by decide)).trans h.te) ((g 26 (by decide)).trans h.fo) ((g 27 (by decide)).trans h.sm) ?_ h.ho h.ch h.be h.le h.sk h.t0 h.t1 h.t2 h.t3
  rw [g 28 (by decide)]
  exact h.hf
theorem gS_5 {u : Nat → Nat} {n q : Nat} {M : aM} {k : Nat} {x : Int32} (h : gS u n q M) (hk : 22 < k) : gS u n q (aset M 58 k (.int x)) := by
  have g : ∀ j, j ≤ 22 → (aset M 58 k (.int x)).1 58 j = M.1 58 j := fun j hj => by rw [set_1, if_pos rfl, if_neg (by omega)]
  exact ⟨(g 13 (by decide)).trans h.1, (g 14 (by decide)).trans h.2.1, h.2.2.1, stAt_eq h.2.2.2 (g 17 (by decide)) (g 18 (by decide)) (g 19 (by decide)) (g 20 (by decide)) (g 21 (by decide)) rfl⟩
theorem bS_5 {f : Flt} {M : aM} {k : Nat} {x : Int32} (h : bS f M) (hk : 22 < k) : bS f (aset M 58 k (.int x)) := by
  have g : ∀ j, j ≤ 22 → (aset M 58 k (.int x)).1 58 j = M.1 58 j := fun j hj => by rw [set_1, if_pos rfl, if_neg (by omega)]
  exact ⟨(g 13 (by decide)).trans h.1, (g 14 (by decide)).trans h.2.1, h.2.2⟩
section RC
variable {l : aL} {M : aM} {n p : Nat} {u : Nat → Nat} {H : HS}
theorem rdc_e (hl0 : l.1.stackTraces = false) (hJ : ∀ e ∈ RM, M.2.2 e.1 e.2.1 = e.2.2) {M1 : aM} (e1 : M1.2.2 = M.2.2) (hB : RB n u M1) (hF : lnF M M1) (hN : nHo H M1) {i : Nat} {ρ : Flt ⊕ (Nat × Nat)} (hb : ∀ f, ρ = .inl f → bS f M1) (hg : ∀ b, ρ = .inr b → ∃ q, gS u n q M1 ∧ b.2 = tEe u n q ∧ M1.1 58 21 = nI b.1 ∧ M1.1 58 35 = nI i) : AW l (pI pg 188) (fcV M (QC u n H (bnd ρ fun b => .inr (i, b.1, b.2)) M)) 0 0 142 [(0, .ref 58)] [] SHF M1 := by
  have hJ1 : ∀ e ∈ RM, M1.2.2 e.1 e.2.1 = e.2.2 := by rw [e1]; exact hJ
  cases ρ with
  | inl f =>
    have b := hb f rfl
    have z : gdV (M1.1 58 13) = 0 := gdz.mpr (bS_nz b)
    refine rdc_142 hJ1 hl0 (fun _ => ⟨rfl, e1, rfl, lnF_5 hF (by decide), nHo_5 hN (by decide), fun g hg => ?_, fun a ha => ?_⟩) (fun _ => True) (fun h => absurd z h) (fun h => absurd z h)
    · cases hg
      exact bS_5 b (by decide)
    · cases ha
  | inr b =>
    obtain ⟨q, g, hq, h21, h35⟩ := hg b rfl
    have z : ¬ gdV (M1.1 58 13) = 0 := fun h => gdz.mp h g.1
    have b2 : tEe u n q ≤ n := tE_le' g.2.2.1
    have e17 : M1.1 58 17 = nI (tEe u n q) := g.2.2.2.2.2.1
    refine rdc_142 hJ1 hl0 (fun h => absurd h z) (QS u n (tEe u n q) (aset M1 58 36 (.int (M1.1 58 21)))) (fun _ => stp_c hl0 hJ1 (RB_eq hB rfl (fun _ => rfl)) b2 e17) (fun _ M4 e4 q4 => ⟨rfl, e4.trans e1, rfl, lnF_trans (lnF_5 hF (by decide)) (lnF_g (grF_s q4.2)), nHo_g (nHo_5 hN (by decide)) (grF_s q4.2), fun f hf => ?_, fun a ha => ?_⟩)
    · cases hf
    · cases ha
      refine ⟨?_, ?_, ?_⟩
      · show gS u n b.2 M4
        rw [hq]
        exact gS_s (gS_5 g (by decide)) b2 q4
      · exact (q4.2.1 58 35 (fun _ => by decide)).trans h35
      · exact (q4.2.1 58 36 (fun _ => by decide)).trans h21
/-- told already? -/
theorem rdc_l (hl0 : l.1.stackTraces = false) (hJ : ∀ e ∈ RM, M.2.2 e.1 e.2.1 = e.2.2) (hI : HI H) {M1 : aM} (e1 : M1.2.2 = M.2.2) (hB : RB n u M1) (hF : lnF M M1) (hN : nHo H M1) {i w q : Nat} (hi : i < H.pe) (hw : w < H.wo) (g : gS u n q M1) (h21 : M1.1 58 21 = nI w) (h35 : M1.1 58 35 = nI i) : ∀ (d k : Nat) (x : Int32), k + d = H.te → (x = 0 ↔ ¬ (0 < H.sk (8 * i + w) ∨ ∃ j, j < k ∧ H.t0 j = i ∧ H.t1 j = w)) → AW l (pI pg 188) (fcV M (QC u n H (bnd (if told H i w = true then .inl (4, tS u n q) else .inr (w, tEe u n q)) fun b => .inr (i, b.1, b.2)) M)) 0 0 77 [(0, .ref 58), (1, .int x), (2, .int (nI k))] [] SHF M1 := by
  have hJ1 : ∀ e ∈ RM, M1.2.2 e.1 e.2.1 = e.2.2 := by rw [e1]; exact hJ
  have hp6 := hI.pe
  have hw8 := hI.wo
  have ht8 := hI.te
  have ti := told_iff hI (i := i) (w := w) (by omega) (by omega)
  intro d
  induction d with
  | zero =>
    intro k x hk hx
    have k8 : k = H.te := by omega
    subst k8
    have le : M1.1 58 25 ≤ nI H.te := by rw [hN.te, nI_leI (by omega) (by omega)]; omega
    refine rdc_77 hJ1 hl0 (fun _ h2 => ?_) (fun _ h2 => ?_) (fun h => absurd le h) (fun h => absurd le h) (fun h => absurd le h) (fun h => absurd le h) (fun h => absurd le h) (fun h => absurd le h)
    · have nt : ¬ told H i w = true := fun e => (hx.mp h2) (ti.mp e)
      rw [if_neg nt]
      exact rdc_e hl0 hJ e1 hB hF hN (fun f hf => by cases hf) (fun b hb => by cases hb; exact ⟨q, g, rfl, h21, h35⟩)
    · have yt : told H i w = true := ti.mpr (Decidable.byContradiction (fun e => h2 (hx.mpr e)))
      rw [if_pos yt]
      have wb := wg_b (k := 4) (x := Int32.ofInt 4) g (by decide) (by decide) (by decide)
      exact rdc_e hl0 hJ (wgM_2.trans e1) (RB_G hB grF_w) (lnF_trans hF (lnF_g grF_w)) (nHo_g hN grF_w) (fun f hf => by cases hf; exact wb) (fun b hb => by cases hb)
  | succ d ih =>
    intro k x hk hx
    have gt : ¬ M1.1 58 25 ≤ nI k := by rw [hN.te, nI_leI (by omega) (by omega)]; omega
    have ei : nI k + Int32.ofInt 1 = nI (k + 1) := nI_1 _
    have i4 : Int32.ofInt 4 * nI k = nI (4 * k) := by rw [show (Int32.ofInt 4 : Int32) = nI 4 by decide, nI_mulN]
    have i5 : Int32.ofInt 4 * nI k + Int32.ofInt 1 = nI (4 * k + 1) := by rw [i4]; exact nI_1 _
    have c0 : M1.1 72 (Int32.ofInt 4 * nI k).toNatClampNeg = nI (H.t0 k) := by rw [i4, nI_clamp (by omega)]; exact hN.t0 k (by omega)
    have c1 : M1.1 72 (Int32.ofInt 4 * nI k + Int32.ofInt 1).toNatClampNeg = nI (H.t1 k) := by rw [i5, nI_clamp (by omega)]; exact hN.t1 k (by omega)
    have tb := hI.tt k (by omega)
    have q0 : M1.1 72 (Int32.ofInt 4 * nI k).toNatClampNeg = M1.1 58 35 ↔ H.t0 k = i := by
      rw [c0, h35]
      exact ⟨fun e => nI_injN (by omega) (by omega) e, fun e => by rw [e]⟩
    have q1 : M1.1 72 (Int32.ofInt 4 * nI k + Int32.ofInt 1).toNatClampNeg = M1.1 58 21 ↔ H.t1 k = w := by
      rw [c1, h21]
      exact ⟨fun e => nI_injN (by omega) (by omega) e, fun e => by rw [e]⟩
    have st : ∀ j, j < k + 1 → j < k ∨ j = k := fun j hj => by omega
    refine rdc_77 hJ1 hl0 (fun h => absurd h gt) (fun h => absurd h gt) (fun _ h6 => ?_) (fun _ _ => ?_) (fun _ h6 h9 => ?_) (fun _ _ _ => ?_) (fun _ h6 h9 h12 => ?_) (fun _ h6 h9 h12 => ?_)
    · rw [ei]
      refine ih (k + 1) _ (by omega) ⟨fun e => absurd e (by decide), fun e => ?_⟩
      refine absurd (hx.mpr (fun h => e ?_)) h6
      rcases h with h | ⟨j, hj, h⟩
      · exact Or.inl h
      · exact Or.inr ⟨j, by omega, h⟩
    · rw [i4]
      exact vp_in_nI (by omega) (by decide)
    · rw [ei]
      rw [q0] at h9
      refine ih (k + 1) _ (by omega) ⟨fun _ h => hx.mp h6 ?_, fun _ => rfl⟩
      rcases h with h | ⟨j, hj, h⟩
      · exact Or.inl h
      · rcases st j hj with hj2 | hj2
        · exact Or.inr ⟨j, hj2, h⟩
        · subst hj2
          exact absurd h.1 h9
    · rw [i5]
      exact vp_in_nI (by omega) (by decide)
    · rw [ei]
      rw [q1] at h12
      refine ih (k + 1) _ (by omega) ⟨fun _ h => hx.mp h6 ?_, fun _ => rfl⟩
      rcases h with h | ⟨j, hj, h⟩
      · exact Or.inl h
      · rcases st j hj with hj2 | hj2
        · exact Or.inr ⟨j, hj2, h⟩
        · subst hj2
          exact absurd h.2 h12
    · rw [ei]
      rw [q0] at h9
      rw [q1] at h12
      exact ih (k + 1) _ (by omega) ⟨fun e => absurd e (by decide), fun e => absurd (Or.inr ⟨k, by omega, h9, h12⟩) e⟩
theorem rdc_m (hl0 : l.1.stackTraces = false) (hJ : ∀ e ∈ RM, M.2.2 e.1 e.2.1 = e.2.2) (hI : HI H) {M1 : aM} (e1 : M1.2.2 = M.2.2) (hB : RB n u M1) (hF : lnF M M1) (hN : nHo H M1) {σ : Flt ⊕ (Nat × Nat)} (hs : rS u n (posN σ) M1) (hn : ∀ a, σ = .inr a → a.1 < H.pe ∧ M1.1 58 35 = nI a.1) : AW l (pI pg 188) (fcV M (QC u n H (bnd σ fun a => bnd (newS u n H a.1 a.2) fun b => .inr (a.1, b.1, b.2)) M)) 0 0 38 [(0, .ref 58)] [] SHF M1 := by
  have hJ1 : ∀ e ∈ RM, M1.2.2 e.1 e.2.1 = e.2.2 := by rw [e1]; exact hJ
  have hp6 := hI.pe
  have hw8 := hI.wo
  have ht8 := hI.te
  have c := amg_s hl0 hJ1 hB hs (m := H.wo) (by omega)
  rw [← hN.wo] at c
  cases σ with
  | inl f =>
    have y0 : ∀ {y : Int32} {M2 : aM}, QM u n (.inl f) H.wo M1 y M2 → y = Int32.ofInt 0 ∧ bS f M2 := fun {y M2} q => q.2.1 f rfl
    refine rdc_38 hJ1 hl0 _ c (fun y1 M2 e2 q2 h3 => ?_) (fun y1 M2 e2 q2 h3 => absurd (y0 q2).1 h3) (fun y1 M2 e2 q2 h3 => absurd (y0 q2).1 h3) (fun y1 M2 e2 q2 h3 => absurd (y0 q2).1 h3)
    exact rdc_e (i := 0) (ρ := .inl f) hl0 hJ (e2.trans e1) (RB_G hB q2.1) (lnF_trans hF (lnF_g q2.1)) (nHo_g hN q2.1) (fun g hg => by cases hg; exact (y0 q2).2) (fun b hb => by cases hb)
  | inr a =>
    obtain ⟨ha, h35⟩ := hn a rfl
    have g := hs.2 a.2 rfl
    show AW l (pI pg 188) (fcV M (QC u n H (bnd (newS u n H a.1 a.2) fun b => .inr (a.1, b.1, b.2)) M)) 0 0 38 _ _ _ _
    cases hr : idS u n H.wo a.2 with
    | inl f =>
      have hn : newS u n H a.1 a.2 = .inl f := by rw [newS, hr]; rfl
      rw [hn]
      have y0 : ∀ {y : Int32} {M2 : aM}, QM u n (posN (.inr a)) H.wo M1 y M2 → y = Int32.ofInt 0 ∧ bS f M2 := fun {y M2} q => q.2.1 f hr
      refine rdc_38 hJ1 hl0 _ c (fun y1 M2 e2 q2 h3 => ?_) (fun y1 M2 e2 q2 h3 => absurd (y0 q2).1 h3) (fun y1 M2 e2 q2 h3 => absurd (y0 q2).1 h3) (fun y1 M2 e2 q2 h3 => absurd (y0 q2).1 h3)
      exact rdc_e (i := a.1) (ρ := .inl f) hl0 hJ (e2.trans e1) (RB_G hB q2.1) (lnF_trans hF (lnF_g q2.1)) (nHo_g hN q2.1) (fun g hg => by cases hg; exact (y0 q2).2) (fun b hb => by cases hb)
    | inr b =>
      have hb := idS_ok hr
      have hn : newS u n H a.1 a.2 = if told H a.1 b.1 = true then .inl (4, tS u n a.2) else .inr (b.1, tEe u n a.2) := by
        rw [newS, hr, ← hb.2]
        rfl
      rw [hn]
      have y1' : ∀ {y : Int32} {M2 : aM}, QM u n (posN (.inr a)) H.wo M1 y M2 → y = Int32.ofInt 1 ∧ M1 = M2 ∧ M1.1 58 21 = nI b.1 := fun {y M2} q => ⟨(q.2.2 b hr).1, (q.2.2 b hr).2.1, (q.2.2 b hr).2.2.1⟩
      have ix : ∀ {y : Int32} {M2 : aM}, QM u n (posN (.inr a)) H.wo M1 y M2 → (Int8.ofInt 8).toInt32 * M2.1 58 35 + M2.1 58 21 = nI (8 * a.1 + b.1) := fun {y M2} q => by
        obtain ⟨_, rfl, h21⟩ := y1' q
        rw [h35, h21, show (Int8.ofInt 8).toInt32 = nI 8 by decide, nI_mulN, nI_add]
      have sk9 := (hI.sk a.1 b.1 (by omega) (by omega)).1
      have sk0 : ∀ {y : Int32} {M2 : aM}, QM u n (posN (.inr a)) H.wo M1 y M2 → (M2.1 71 ((Int8.ofInt 8).toInt32 * M2.1 58 35 + M2.1 58 21).toNatClampNeg ≤ 0 ↔ ¬ 0 < H.sk (8 * a.1 + b.1)) := fun {y M2} q => by
        rw [ix q, nI_clamp (by omega)]
        obtain ⟨_, rfl, h21⟩ := y1' q
        rw [hN.sk a.1 b.1 ha hb.1]
        show nI (H.sk (8 * a.1 + b.1)) ≤ nI 0 ↔ _
        rw [nI_leI (by omega) (by decide)]
        omega
      refine rdc_38 hJ1 hl0 _ c (fun y1 M2 e2 q2 h3 => ?_) (fun y1 M2 e2 q2 h3 => ?_) (fun y1 M2 e2 q2 h3 h6 => ?_) (fun y1 M2 e2 q2 h3 h6 => ?_)
      · rw [(y1' q2).1] at h3
        exact absurd h3 (by decide)
      · rw [ix q2]
        exact vp_in_nI (by omega) (by decide)
      · rw [sk0 q2] at h6
        obtain ⟨_, rfl, h21⟩ := y1' q2
        refine rdc_l hl0 hJ hI e1 hB hF hN ha hb.1 g h21 h35 H.te 0 _ (by omega) ⟨fun _ h => ?_, fun _ => rfl⟩
        rcases h with h | ⟨j, hj, _⟩
        · exact h6 h
        · exact absurd hj (Nat.not_lt_zero _)
      · rw [sk0 q2] at h6
        obtain ⟨_, rfl, h21⟩ := y1' q2
        exact rdc_l hl0 hJ hI e1 hB hF hN ha hb.1 g h21 h35 H.te 0 _ (by omega) ⟨fun e => absurd e (by decide), fun e => absurd (fun h => e (Or.inl h)) h6⟩
theorem rdc_c (hl0 : l.1.stackTraces = false) (hJ : ∀ e ∈ RM, M.2.2 e.1 e.2.1 = e.2.2) (hB : RB n u M) (hg : gS u n p M) (hI : HI H) (hN : nHo H M) : AC l (pI pg 188) (fcV M (QC u n H (cpS u n H p) M)) 0 0 [.ref 58] SHF M := by
  refine fw_of hl0 ⟨by decide +kernel, by decide +kernel, by decide +kernel⟩ rfl ?_
  have hp6 := hI.pe
  have b2 : tEe u n p ≤ n := tE_le' hg.2.2.1
  have e17 : M.1 58 17 = nI (tEe u n p) := hg.2.2.2.2.2.1
  have hc : ∀ {M1 : aM}, QS u n (tEe u n p) M M1 → M1.2.2 = M.2.2 → AC l (pI pg 189) (fcI M1 (QM u n (.inr (tEe u n p)) H.pe M1)) 0 0 [.ref 58, .int (M1.1 58 23)] SHF M1 := fun {M1} q e => by
    rw [(q.2.1 58 23 (fun _ => by decide)).trans hN.pe]
    exact amg_s hl0 (by rw [e]; exact hJ) (RB_F hB q.2) (gS_r (gS_s hg b2 q)) (by omega)
  unfold cpS
  cases hr : idS u n H.pe (tEe u n p) with
  | inl f =>
    have y0 : ∀ {y : Int32} {M1 M2 : aM}, QM u n (.inr (tEe u n p)) H.pe M1 y M2 → y = Int32.ofInt 0 ∧ bS f M2 := fun {y M1 M2} q => q.2.1 f hr
    refine rdc_0 hJ hl0 (QS u n (tEe u n p) M) (stp_c hl0 hJ hB b2 e17) (fun M1 => QM u n (.inr (tEe u n p)) H.pe M1) (fun M1 e1 q1 => hc q1 e1) (fun M1 e1 q1 y3 M3 e3 q3 h5 => ?_) (fun M1 e1 q1 y3 M3 e3 q3 h5 => absurd (y0 q3).1 h5)
    have b := bS_5 (k := 35) (x := Int32.ofInt 0) (y0 q3).2 (by decide)
    have z : gdV ((aset M3 58 35 (.int (Int32.ofInt 0))).1 58 13) = 0 := gdz.mpr (bS_nz b)
    have G : grF M M3 := grF_trans (grF_s q1.2) q3.1
    have hJ3 : ∀ e ∈ RM, (aset M3 58 35 (.int (Int32.ofInt 0))).2.2 e.1 e.2.1 = e.2.2 := by
      show ∀ e ∈ RM, M3.2.2 e.1 e.2.1 = e.2.2
      rw [e3, e1]
      exact hJ
    refine rdc_27 hJ3 hl0 (fun _ => ?_) (fun _ => True) (fun h => absurd z h) (fun h => absurd z h)
    exact rdc_m (σ := .inl f) (M1 := aset M3 58 35 (.int (Int32.ofInt 0))) hl0 hJ hI (e3.trans e1) (RB_eq (RB_G hB G) rfl (fun _ => rfl)) (lnF_5 (lnF_g G) (by decide)) (nHo_5 (nHo_g hN G) (by decide)) ⟨fun g hg => (by cases hg; exact b), fun q hq => (by cases hq)⟩ (fun a ha => by cases ha)
  | inr a =>
    have ha := idS_ok hr
    have y1' : ∀ {y : Int32} {M1 M2 : aM}, QM u n (.inr (tEe u n p)) H.pe M1 y M2 → y = Int32.ofInt 1 ∧ M1 = M2 ∧ M1.1 58 21 = nI a.1 ∧ M1.1 58 17 = nI a.2 := fun {y M1 M2} q => q.2.2 a hr
    refine rdc_0 hJ hl0 (QS u n (tEe u n p) M) (stp_c hl0 hJ hB b2 e17) (fun M1 => QM u n (.inr (tEe u n p)) H.pe M1) (fun M1 e1 q1 => hc q1 e1) (fun M1 e1 q1 y3 M3 e3 q3 h5 => ?_) (fun M1 e1 q1 y3 M3 e3 q3 h5 => ?_)
    · rw [(y1' q3).1] at h5
      exact absurd h5 (by decide)
    · obtain ⟨_, rfl, h21, h17⟩ := y1' q3
      have g := gS_5 (k := 35) (x := M1.1 58 21) (gS_s hg b2 q1) (by decide)
      have z : ¬ gdV ((aset M1 58 35 (.int (M1.1 58 21))).1 58 13) = 0 := fun h => gdz.mp h g.1
      have G : grF M M1 := grF_s q1.2
      have hJ3 : ∀ e ∈ RM, (aset M1 58 35 (.int (M1.1 58 21))).2.2 e.1 e.2.1 = e.2.2 := by
        show ∀ e ∈ RM, M1.2.2 e.1 e.2.1 = e.2.2
        rw [e1]
        exact hJ
      have b3 : a.2 ≤ n := by rw [ha.2]; exact tE_le' b2
      have B3 : RB n u (aset M1 58 35 (.int (M1.1 58 21))) := RB_eq (RB_G hB G) rfl (fun _ => rfl)
      refine rdc_27 hJ3 hl0 (fun h => absurd h z) (QS u n a.2 (aset M1 58 35 (.int (M1.1 58 21)))) (fun _ => stp_c hl0 hJ3 B3 b3 h17) (fun _ M4 e4 q4 => ?_)
      exact rdc_m (σ := .inr a) hl0 hJ hI (e4.trans e1) (RB_F B3 q4.2) (lnF_trans (lnF_5 (lnF_g G) (by decide)) (lnF_g (grF_s q4.2))) (nHo_g (nHo_5 (nHo_g hN G) (by decide)) (grF_s q4.2)) (gS_r (gS_s g b3 q4)) (fun b hb => by cases hb; exact ⟨ha.1, (q4.2.1 58 35 (fun _ => by decide)).trans h21⟩)
end RC
