/-! readsLearn of the reference -/
def leaS0 (u : Nat → Nat) (n : Nat) (H : HS) (p : Nat) : Flt ⊕ (HS × Nat) := if 8 ≤ H.te then .inl (2, tS u n p) else bnd (cpS u n H p) fun a => bnd (numS u n 1 9 a.2.2) fun c => bnd (numS u n 1 99 c.2) fun d => .inr (addL H a.1 a.2.1 c.1 d.1, d.2)
theorem nHo_72 {H : HS} {M : aM} {k : Nat} {x : Int32} (h : nHo H M) (hk : 4 * H.te ≤ k) : nHo H (aset M 72 k (.int x)) := by
  have g : ∀ j, j < 4 * H.te → (aset M 72 k (.int x)).1 72 j = M.1 72 j := fun j hj => by rw [set_1, if_pos rfl, if_neg (by omega)]
  exact nHo.of h.pe h.wo h.te h.fo h.sm h.hf h.ho h.ch h.be h.le h.sk (fun i hi => (g _ (by omega)).trans (h.t0 i hi)) (fun i hi => (g _ (by omega)).trans (h.t1 i hi)) (fun i hi => (g _ (by omega)).trans (h.t2 i hi)) (fun i hi => (g _ (by omega)).trans (h.t3 i hi))
section RL
variable {l : aL} {M : aM} {n p : Nat} {u : Nat → Nat} {H : HS}
theorem rdl_e (hl0 : l.1.stackTraces = false) (hJ : ∀ e ∈ RM, M.2.2 e.1 e.2.1 = e.2.2) {M1 : aM} (e1 : M1.2.2 = M.2.2) (hF : lnF M M1) (hN : nHo H M1) {τ : Flt ⊕ (Nat × Nat)} {i w v : Nat} (hs : rS u n (posN τ) M1) (hn : ∀ d, τ = .inr d → M1.1 72 (4 * H.te) = nI i ∧ M1.1 72 (4 * H.te + 1) = nI w ∧ M1.1 72 (4 * H.te + 2) = nI v ∧ M1.1 72 (4 * H.te + 3) = nI d.1) : AW l (pI pg 190) (fcV M (QX u n (bnd τ fun d => .inr (addL H i w v d.1, d.2)) M)) 0 0 98 [(0, .ref 58)] [] SHF M1 := by
  have hJ1 : ∀ e ∈ RM, M1.2.2 e.1 e.2.1 = e.2.2 := by rw [e1]; exact hJ
  cases τ with
  | inl f =>
    have hb := hs.1 f rfl
    have z : gdV (M1.1 58 13) = 0 := gdz.mpr (bS_nz hb)
    refine rdl_98 hJ1 hl0 (fun _ => ⟨rfl, e1, rfl, hF, fun g hg => ?_, fun a ha => ?_⟩) (fun h => absurd z h)
    · cases hg
      exact hb
    · cases ha
  | inr d =>
    have hg := hs.2 d.2 rfl
    have z : ¬ gdV (M1.1 58 13) = 0 := fun h => gdz.mp h hg.1
    obtain ⟨h0, h1, h2, h3⟩ := hn d rfl
    refine rdl_98 hJ1 hl0 (fun h => absurd h z) (fun _ => ⟨rfl, e1, rfl, lnF_5 hF (by decide), fun g hg => ?_, fun b hb => ?_⟩)
    · cases hg
    · cases hb
      refine ⟨gS_5 hg (by decide), nHo.of hN.pe hN.wo ?_ hN.fo hN.sm hN.hf hN.ho hN.ch hN.be hN.le hN.sk (fun k hk => ?_) (fun k hk => ?_) (fun k hk => ?_) (fun k hk => ?_)⟩
      · show M1.1 58 25 + Int32.ofInt 1 = nI (H.te + 1)
        rw [hN.te]
        exact nI_1 _
      · show M1.1 72 (4 * k) = nI (npd H.t0 H.te i k)
        have hk2 : k < H.te + 1 := hk
        by_cases e : k = H.te
        · rw [e, npd_eq]
          exact h0
        · rw [npd_ne e]
          exact hN.t0 k (by omega)
      · show M1.1 72 (4 * k + 1) = nI (npd H.t1 H.te w k)
        have hk2 : k < H.te + 1 := hk
        by_cases e : k = H.te
        · rw [e, npd_eq]
          exact h1
        · rw [npd_ne e]
          exact hN.t1 k (by omega)
      · show M1.1 72 (4 * k + 2) = nI (npd H.t2 H.te v k)
        have hk2 : k < H.te + 1 := hk
        by_cases e : k = H.te
        · rw [e, npd_eq]
          exact h2
        · rw [npd_ne e]
          exact hN.t2 k (by omega)
      · show M1.1 72 (4 * k + 3) = nI (npd H.t3 H.te d.1 k)
        have hk2 : k < H.te + 1 := hk
        by_cases e : k = H.te
        · rw [e, npd_eq]
          exact h3
        · rw [npd_ne e]
          exact hN.t3 k (by omega)
theorem rdl_78b (hl0 : l.1.stackTraces = false) (hJ : ∀ e ∈ RM, M.2.2 e.1 e.2.1 = e.2.2) (hc : H.te < 8) {M1 : aM} (e1 : M1.2.2 = M.2.2) (hF : lnF M M1) (hN : nHo H M1) {f : Flt} (hb : bS f M1) : AW l (pI pg 190) (fcV M (QX u n (.inl f) M)) 0 0 78 [(0, .ref 58)] [] SHF M1 := by
  have hJ1 : ∀ e ∈ RM, M1.2.2 e.1 e.2.1 = e.2.2 := by rw [e1]; exact hJ
  have ix : Int32.ofInt 4 * M1.1 58 25 + Int32.ofInt 3 = nI (4 * H.te + 3) := by rw [hN.te, show (Int32.ofInt 4 : Int32) = nI 4 by decide, show (Int32.ofInt 3 : Int32) = nI 3 by decide, nI_mulN, nI_add]
  refine rdl_78 hJ1 hl0 (fun y M' => Int32.ofInt 0 = y ∧ M1 = M') (nrm_b hl0 hJ1 (bS_nz hb)) (fun _ _ _ _ => by rw [ix]; exact vp_in_nI (by omega) (by decide)) (fun y2 M2 e2 q2 => ?_)
  obtain ⟨rfl, rfl⟩ := q2
  rw [ix, nI_clamp (by omega)]
  exact rdl_e (M1 := aset M1 72 (4 * H.te + 3) (.int (Int32.ofInt 0))) (τ := .inl f) (i := 0) (w := 0) (v := 0) hl0 hJ e1 (lnF_a hF (by decide)) (nHo_72 hN (by omega)) ⟨fun g hg => (by cases hg; exact hb), fun q hq => (by cases hq)⟩ (fun d hd => by cases hd)
theorem rdl_58b (hl0 : l.1.stackTraces = false) (hJ : ∀ e ∈ RM, M.2.2 e.1 e.2.1 = e.2.2) (hc : H.te < 8) {M1 : aM} (e1 : M1.2.2 = M.2.2) (hF : lnF M M1) (hN : nHo H M1) {f : Flt} (hb : bS f M1) : AW l (pI pg 190) (fcV M (QX u n (.inl f) M)) 0 0 58 [(0, .ref 58)] [] SHF M1 := by
  have hJ1 : ∀ e ∈ RM, M1.2.2 e.1 e.2.1 = e.2.2 := by rw [e1]; exact hJ
  have ix : Int32.ofInt 4 * M1.1 58 25 + Int32.ofInt 2 = nI (4 * H.te + 2) := by rw [hN.te, show (Int32.ofInt 4 : Int32) = nI 4 by decide, show (Int32.ofInt 2 : Int32) = nI 2 by decide, nI_mulN, nI_add]
  refine rdl_58 hJ1 hl0 (fun y M' => Int32.ofInt 0 = y ∧ M1 = M') (nrm_b hl0 hJ1 (bS_nz hb)) (fun _ _ _ _ => by rw [ix]; exact vp_in_nI (by omega) (by decide)) (fun y2 M2 e2 q2 => ?_)
  obtain ⟨rfl, rfl⟩ := q2
  rw [ix, nI_clamp (by omega)]
  exact rdl_78b (M1 := aset M1 72 (4 * H.te + 2) (.int (Int32.ofInt 0))) hl0 hJ hc e1 (lnF_a hF (by decide)) (nHo_72 hN (by omega)) hb
theorem rdl_78g (hl0 : l.1.stackTraces = false) (hJ : ∀ e ∈ RM, M.2.2 e.1 e.2.1 = e.2.2) (hc : H.te < 8) {M1 : aM} (e1 : M1.2.2 = M.2.2) (hB : RB n u M1) (hF : lnF M M1) (hN : nHo H M1) {σ : Flt ⊕ (Nat × Nat)} {i w : Nat} (hs : rS u n (posN σ) M1) (hn : ∀ c, σ = .inr c → M1.1 72 (4 * H.te) = nI i ∧ M1.1 72 (4 * H.te + 1) = nI w ∧ M1.1 72 (4 * H.te + 2) = nI c.1) : AW l (pI pg 190) (fcV M (QX u n (bnd σ fun c => bnd (numS u n 1 99 c.2) fun d => .inr (addL H i w c.1 d.1, d.2)) M)) 0 0 78 [(0, .ref 58)] [] SHF M1 := by
  have hJ1 : ∀ e ∈ RM, M1.2.2 e.1 e.2.1 = e.2.2 := by rw [e1]; exact hJ
  cases σ with
  | inl f => exact rdl_78b hl0 hJ hc e1 hF hN (hs.1 f rfl)
  | inr c =>
    obtain ⟨h0, h1, h2⟩ := hn c rfl
    have ix : Int32.ofInt 4 * M1.1 58 25 + Int32.ofInt 3 = nI (4 * H.te + 3) := by rw [hN.te, show (Int32.ofInt 4 : Int32) = nI 4 by decide, show (Int32.ofInt 3 : Int32) = nI 3 by decide, nI_mulN, nI_add]
    refine rdl_78 hJ1 hl0 (QN u n (numS u n 1 99 c.2) M1) (nrm_s hl0 hJ1 hB (σ := .inr c.2) hs (lo := 1) (hi := 99) (by decide) (by decide) (by decide) (by decide)) (fun _ _ _ _ => by rw [ix]; exact vp_in_nI (by omega) (by decide)) (fun y2 M2 e2 q2 => ?_)
    rw [ix, nI_clamp (by omega)]
    have k : ∀ j, M2.1 72 j = M1.1 72 j := fun j => q2.1.1 72 j (fun e => absurd e (by decide))
    refine rdl_e (M1 := aset M2 72 (4 * H.te + 3) (.int y2)) (τ := numS u n 1 99 c.2) (i := i) (w := w) (v := c.1) hl0 hJ (e2.trans e1) (lnF_a (lnF_trans hF (lnF_g q2.1)) (by decide)) (nHo_72 (nHo_g hN q2.1) (by omega)) (rS_eq (rS_N q2) rfl rfl rfl rfl rfl rfl rfl rfl) (fun d hd => ⟨?_, ?_, ?_, ?_⟩)
    · rw [set_1, if_pos rfl, if_neg (by omega), k]
      exact h0
    · rw [set_1, if_pos rfl, if_neg (by omega), k]
      exact h1
    · rw [set_1, if_pos rfl, if_neg (by omega), k]
      exact h2
    · rw [set_1, if_pos rfl, if_pos rfl]
      exact (q2.2.2 d hd).1
theorem rdl_26g (hl0 : l.1.stackTraces = false) (hJ : ∀ e ∈ RM, M.2.2 e.1 e.2.1 = e.2.2) (hc : H.te < 8) {M1 : aM} (e1 : M1.2.2 = M.2.2) (hB : RB n u M1) {τ : Flt ⊕ (Nat × Nat × Nat)} (hq : QC u n H τ M M1) : AW l (pI pg 190) (fcV M (QX u n (bnd τ fun a => bnd (numS u n 1 9 a.2.2) fun c => bnd (numS u n 1 99 c.2) fun d => .inr (addL H a.1 a.2.1 c.1 d.1, d.2)) M)) 0 0 26 [(0, .ref 58)] [] SHF M1 := by
  have hJ1 : ∀ e ∈ RM, M1.2.2 e.1 e.2.1 = e.2.2 := by rw [e1]; exact hJ
  obtain ⟨hF, hN, hb, hg⟩ := hq
  have i4 : Int32.ofInt 4 * M1.1 58 25 = nI (4 * H.te) := by rw [hN.te, show (Int32.ofInt 4 : Int32) = nI 4 by decide, nI_mulN]
  have i5 : Int32.ofInt 4 * M1.1 58 25 + Int32.ofInt 1 = nI (4 * H.te + 1) := by rw [i4]; exact nI_1 _
  refine rdl_26 hJ1 hl0 ?_ ?_ ?_
  · rw [i4]
    exact vp_in_nI (by omega) (by decide)
  · show vp_in (Int32.ofInt 4 * M1.1 58 25 + Int32.ofInt 1) 32
    rw [i5]
    exact vp_in_nI (by omega) (by decide)
  · show AW l (pI pg 190) _ 0 0 58 [(0, .ref 58)] [] SHF (aset (aset M1 72 (Int32.ofInt 4 * M1.1 58 25).toNatClampNeg (.int (M1.1 58 35))) 72 (Int32.ofInt 4 * M1.1 58 25 + Int32.ofInt 1).toNatClampNeg (.int (M1.1 58 36)))
    rw [i5, i4, nI_clamp (by omega), nI_clamp (by omega)]
    have F2 : lnF M (aset (aset M1 72 (4 * H.te) (.int (M1.1 58 35))) 72 (4 * H.te + 1) (.int (M1.1 58 36))) := lnF_a (lnF_a hF (by decide)) (by decide)
    have N2 : nHo H (aset (aset M1 72 (4 * H.te) (.int (M1.1 58 35))) 72 (4 * H.te + 1) (.int (M1.1 58 36))) := nHo_72 (nHo_72 hN (by omega)) (by omega)
    have B2 : RB n u (aset (aset M1 72 (4 * H.te) (.int (M1.1 58 35))) 72 (4 * H.te + 1) (.int (M1.1 58 36))) := RB_eq hB rfl (fun _ => rfl)
    cases τ with
    | inl f => exact rdl_58b (M1 := aset (aset M1 72 (4 * H.te) (.int (M1.1 58 35))) 72 (4 * H.te + 1) (.int (M1.1 58 36))) hl0 hJ hc e1 F2 N2 (hb f rfl)
    | inr a =>
      obtain ⟨g, h35, h36⟩ := hg a rfl
      have g2 : rS u n (.inr a.2.2) (aset (aset M1 72 (4 * H.te) (.int (M1.1 58 35))) 72 (4 * H.te + 1) (.int (M1.1 58 36))) := rS_eq (gS_r g) rfl rfl rfl rfl rfl rfl rfl rfl
      have v0 : (aset (aset M1 72 (4 * H.te) (.int (M1.1 58 35))) 72 (4 * H.te + 1) (.int (M1.1 58 36))).1 72 (4 * H.te) = nI a.1 := by
        rw [set_1, if_pos rfl, if_neg (by omega), set_1, if_pos rfl, if_pos rfl]
        exact h35
      have v1 : (aset (aset M1 72 (4 * H.te) (.int (M1.1 58 35))) 72 (4 * H.te + 1) (.int (M1.1 58 36))).1 72 (4 * H.te + 1) = nI a.2.1 := by
        rw [set_1, if_pos rfl, if_pos rfl]
        exact h36
      have e2' : (aset (aset M1 72 (4 * H.te) (.int (M1.1 58 35))) 72 (4 * H.te + 1) (.int (M1.1 58 36))).2.2 = M.2.2 := e1
      generalize (aset (aset M1 72 (4 * H.te) (.int (M1.1 58 35))) 72 (4 * H.te + 1) (.int (M1.1 58 36))) = M2 at *
      have hJ2 : ∀ e ∈ RM, M2.2.2 e.1 e.2.1 = e.2.2 := by rw [e2']; exact hJ
      have ix : Int32.ofInt 4 * M2.1 58 25 + Int32.ofInt 2 = nI (4 * H.te + 2) := by rw [N2.te, show (Int32.ofInt 4 : Int32) = nI 4 by decide, show (Int32.ofInt 2 : Int32) = nI 2 by decide, nI_mulN, nI_add]
      refine rdl_58 hJ2 hl0 (QN u n (numS u n 1 9 a.2.2) M2) (nrm_s hl0 hJ2 B2 g2 (lo := 1) (hi := 9) (by decide) (by decide) (by decide) (by decide)) (fun _ _ _ _ => by rw [ix]; exact vp_in_nI (by omega) (by decide)) (fun y3 M3 e3 q3 => ?_)
      rw [ix, nI_clamp (by omega)]
      have k : ∀ j, M3.1 72 j = M2.1 72 j := fun j => q3.1.1 72 j (fun e => absurd e (by decide))
      refine rdl_78g (M1 := aset M3 72 (4 * H.te + 2) (.int y3)) (σ := numS u n 1 9 a.2.2) (i := a.1) (w := a.2.1) hl0 hJ hc (e3.trans e2') (RB_eq (RB_G B2 q3.1) rfl (fun _ => rfl)) (lnF_a (lnF_trans F2 (lnF_g q3.1)) (by decide)) (nHo_72 (nHo_g N2 q3.1) (by omega)) (rS_eq (rS_N q3) rfl rfl rfl rfl rfl rfl rfl rfl) (fun c hc2 => ⟨?_, ?_, ?_⟩)
      · rw [set_1, if_pos rfl, if_neg (by omega), k]
        exact v0
      · rw [set_1, if_pos rfl, if_neg (by omega), k]
        exact v1
      · rw [set_1, if_pos rfl, if_pos rfl]
        exact (q3.2.2 c hc2).1
theorem rdl_c (hl0 : l.1.stackTraces = false) (hJ : ∀ e ∈ RM, M.2.2 e.1 e.2.1 = e.2.2) (hB : RB n u M) (hg : gS u n p M) (hI : HI H) (hN : nHo H M) : AC l (pI pg 190) (fcV M (QX u n (leaS0 u n H p) M)) 0 0 [.ref 58] SHF M := by
  refine fw_of hl0 ⟨by decide +kernel, by decide +kernel, by decide +kernel⟩ rfl ?_
  have ht8 := hI.te
  have eq8 : M.1 58 25 = (Int8.ofInt 8).toInt32 ↔ H.te = 8 := by
    rw [hN.te]
    exact ⟨fun e => nI_injN (b := 8) (by omega) (by decide) e, fun e => by rw [e]; decide⟩
  by_cases hc : H.te < 8
  · rw [leaS0, if_neg (by omega)]
    have z : ¬ gdV (M.1 58 13) = 0 := fun h => gdz.mp h hg.1
    refine rdl_0 hJ hl0 (fun _ => ?_) (fun h => absurd (eq8.mp h) (by omega))
    refine rdl_14 hJ hl0 (QC u n H (cpS u n H p) M) (fun _ => rdc_c hl0 hJ hB hg hI hN) (fun _ M3 e3 q3 => ?_) (fun h => absurd h z)
    refine rdl_26g hl0 hJ hc e3 (RB_eq hB (q3.1.1 58 16 (fun _ => by decide) (by decide)) (fun i => q3.1.1 65 i (fun e => absurd e (by decide)) (by decide))) q3
  · rw [leaS0, if_pos (by omega)]
    have wb := wg_b (k := 2) (x := Int32.ofInt 2) hg (by decide) (by decide) (by decide)
    have z : gdV ((wgM M (Int32.ofInt 2)).1 58 13) = 0 := gdz.mpr (bS_nz wb)
    refine rdl_0 hJ hl0 (fun h => absurd (eq8.mpr (by omega)) h) (fun _ => ?_)
    refine rdl_14 (by rw [wgM_2]; exact hJ) hl0 (fun _ => True) (fun h => absurd z h) (fun h => absurd z h) (fun _ => ⟨rfl, wgM_2, rfl, lnF_g grF_w, fun f hf => ?_, fun a ha => ?_⟩)
    · cases hf
      exact wb
    · cases ha
end RL
