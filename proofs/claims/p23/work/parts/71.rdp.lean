/-! readsPerson of the reference -/
def perS0 (u : Nat → Nat) (n : Nat) (H : HS) (p : Nat) : Flt ⊕ (HS × Nat) := if 6 ≤ H.pe then .inl (2, tS u n p) else bnd (numS u n 0 24 (tEe u n p)) fun a => bnd (drS u n H a.2) fun b => .inr (addP H a.1 b.1, b.2)
/-- the house but for the sum of chances, which has c more -/
def nHc (H : HS) (c : Nat) (M : aM) : Prop := nHo H (aset M 58 27 (.int (nI (smF H.ch H.pe)))) ∧ M.1 58 27 = nI (smF H.ch H.pe + c)
theorem nHc_0 {H : HS} {M : aM} (h : nHo H M) : nHc H 0 M := ⟨nHo.of h.pe h.wo h.te h.fo rfl h.hf h.ho h.ch h.be h.le h.sk h.t0 h.t1 h.t2 h.t3, h.sm⟩
section RP
variable {l : aL} {M : aM} {n p : Nat} {u : Nat → Nat} {H : HS}
theorem rdp_e (hl0 : l.1.stackTraces = false) (hJ : ∀ e ∈ RM, M.2.2 e.1 e.2.1 = e.2.2) (hI : HI H) (hw : H.pe < 6) {τ : Flt ⊕ (Nat × Nat)} {x : Nat} : ∀ (d i : Nat) (M1 : aM), i + d = 8 → M1.2.2 = M.2.2 → lnF M M1 → M1.1 58 23 = nI H.pe → rS u n (posN τ) M1 → (∀ b, τ = .inr b → nHc H b.1 M1 ∧ M1.1 67 H.pe = nI x ∧ M1.1 68 H.pe = nI b.1) → (∀ j, j < i → M1.1 71 (8 * H.pe + j) = nI 0) → AW l (pI pg 184) (fcV M (QX u n (bnd τ fun b => .inr (addP H x b.1, b.2)) M)) 0 0 154 [(0, .ref 58), (1, .int (nI i))] [] SHF M1 := by
  have hp6 := hI.pe
  have hw8 := hI.wo
  intro d
  induction d with
  | zero =>
    intro i M1 hi e1 hF h23 hs hn hz
    have i6 : i = 8 := by omega
    subst i6
    have le : (Int8.ofInt 8).toInt32 ≤ nI 8 := by decide
    have hJ1 : ∀ e ∈ RM, M1.2.2 e.1 e.2.1 = e.2.2 := by rw [e1]; exact hJ
    refine rdp_154 hJ1 hl0 (fun _ => ?_) (fun h => absurd le h) (fun h => absurd le h)
    cases τ with
    | inl f =>
      have hb := hs.1 f rfl
      have z : gdV (M1.1 58 13) = 0 := gdz.mpr (bS_nz hb)
      refine rdp_181 hJ1 hl0 (fun _ => ⟨rfl, e1, rfl, hF, fun g hg => ?_, fun a ha => ?_⟩) (fun h => absurd z h)
      · cases hg
        exact hb
      · cases ha
    | inr a =>
      have hg := hs.2 a.2 rfl
      have z : ¬ gdV (M1.1 58 13) = 0 := fun h => gdz.mp h hg.1
      obtain ⟨⟨hN, h27⟩, h67, h68⟩ := hn a rfl
      refine rdp_181 hJ1 hl0 (fun h => absurd h z) (fun _ => ⟨rfl, e1, rfl, lnF_5 hF (by decide), fun g hg => ?_, fun b hb => ?_⟩)
      · cases hg
      · cases hb
        refine ⟨⟨hg.1, hg.2.1, hg.2.2.1, stAt_eq hg.2.2.2 rfl rfl rfl rfl rfl rfl⟩, nHo.of ?_ hN.wo hN.te hN.fo ?_ hN.hf (fun i hi => ?_) (fun i hi => ?_) hN.be hN.le (fun j w hj hw2 => ?_) hN.t0 hN.t1 hN.t2 hN.t3⟩
        · show M1.1 58 23 + Int32.ofInt 1 = nI (H.pe + 1)
          rw [h23]
          exact nI_1 _
        · show M1.1 58 27 = nI (smF (npd H.ch H.pe a.1) H.pe + npd H.ch H.pe a.1 H.pe)
          rw [smF_npd _ (Nat.le_refl _), npd_eq]
          exact h27
        · show M1.1 67 i = nI (npd H.ho H.pe x i)
          have hi3 : i < H.pe + 1 := hi
          by_cases e : i = H.pe
          · rw [e, npd_eq]
            exact h67
          · rw [npd_ne e]
            exact hN.ho i (by omega)
        · show M1.1 68 i = nI (npd H.ch H.pe a.1 i)
          have hi3 : i < H.pe + 1 := hi
          by_cases e : i = H.pe
          · rw [e, npd_eq]
            exact h68
          · rw [npd_ne e]
            exact hN.ch i (by omega)
        · show M1.1 71 (8 * j + w) = nI (H.sk (8 * j + w))
          have hj3 : j < H.pe + 1 := hj
          have hw3 : w < H.wo := hw2
          by_cases e : j = H.pe
          · rw [e, hz w (by omega)]
            have q := (hI.sk H.pe w hw (by omega)).2
            have q2 : H.sk (8 * H.pe + w) = 0 := by
              by_cases e2 : H.sk (8 * H.pe + w) = 0
              · exact e2
              · have := (q (by omega)).1
                omega
            rw [q2]
          · exact hN.sk j w (by omega) hw3
  | succ d ih =>
    intro i M1 hi e1 hF h23 hs hn hz
    have hJ1 : ∀ e ∈ RM, M1.2.2 e.1 e.2.1 = e.2.2 := by rw [e1]; exact hJ
    have gt : ¬ (Int8.ofInt 8).toInt32 ≤ nI i := by
      rw [show (Int8.ofInt 8).toInt32 = nI 8 by decide, nI_leI (by decide) (by omega)]
      omega
    have ix : (Int8.ofInt 8).toInt32 * M1.1 58 23 + nI i = nI (8 * H.pe + i) := by rw [h23, show (Int8.ofInt 8).toInt32 = nI 8 by decide, nI_mulN, nI_add]
    have ei : nI i + Int32.ofInt 1 = nI (i + 1) := nI_1 _
    refine rdp_154 hJ1 hl0 (fun h => absurd h gt) (fun _ => ?_) (fun _ => ?_)
    · rw [ix]
      exact vp_in_nI (by omega) (by decide)
    · rw [ix, ei, nI_clamp (by omega)]
      refine ih (i + 1) _ (by omega) e1 (lnF_a hF (by decide)) h23 (rS_eq hs rfl rfl rfl rfl rfl rfl rfl rfl) (fun b hb => ?_) (fun j hj => ?_)
      · obtain ⟨⟨hN, h27⟩, h67, h68⟩ := hn b hb
        refine ⟨⟨nHo.of hN.pe hN.wo hN.te hN.fo hN.sm hN.hf hN.ho hN.ch hN.be hN.le (fun j w hj hw2 => ?_) hN.t0 hN.t1 hN.t2 hN.t3, h27⟩, h67, h68⟩
        show (if 8 * j + w = 8 * H.pe + i then _ else M1.1 71 (8 * j + w)) = _
        rw [if_neg (by omega)]
        exact hN.sk j w hj hw2
      · rw [set_1, if_pos rfl]
        by_cases e : j = i
        · rw [if_pos (by omega)]
          rfl
        · rw [if_neg (by omega)]
          exact hz j (by omega)
/-- the chance -/
theorem rdp_d (hl0 : l.1.stackTraces = false) (hJ : ∀ e ∈ RM, M.2.2 e.1 e.2.1 = e.2.2) (hI : HI H) (hw : H.pe < 6) {σ : Flt ⊕ Nat} {x : Nat} {M1 : aM} (e1 : M1.2.2 = M.2.2) (hB : RB n u M1) (hF : lnF M M1) (hs : rS u n σ M1) (hN : nHo H M1) (h67 : M1.1 67 H.pe = nI x) : AW l (pI pg 184) (fcV M (QX u n (bnd (bnd σ fun q => numS u n 0 1000 q) fun b => .inr (addP H x b.1, b.2)) M)) 0 0 117 [(0, .ref 58)] [] SHF M1 := by
  have hJ1 : ∀ e ∈ RM, M1.2.2 e.1 e.2.1 = e.2.2 := by rw [e1]; exact hJ
  have e23 : (M1.1 58 23).toNatClampNeg = H.pe := by rw [hN.pe, nI_clamp (by omega)]
  have vp : vp_in (M1.1 58 23) 6 := by rw [hN.pe]; exact vp_in_nI hw (by decide)
  refine rdp_117 hJ1 hl0 _ (nrm_s hl0 hJ1 hB hs (lo := 0) (hi := 1000) (by decide) (by decide) (by decide) (by decide)) (fun _ _ _ _ => vp) (fun y1 M2 e2 q2 => ?_) (fun y1 M2 e2 q2 => ?_)
  · show vp_in (M2.1 58 23) 6
    rw [q2.1.1 58 23 (fun _ => by decide)]
    exact vp
  · have g23 : M2.1 58 23 = nI H.pe := (q2.1.1 58 23 (fun _ => by decide)).trans hN.pe
    have f23 : (M2.1 58 23).toNatClampNeg = H.pe := by rw [g23, nI_clamp (by omega)]
    have hN2 := nHo_g hN q2.1
    show AW l (pI pg 184) _ 0 0 154 _ [] SHF (aset (aset M2 68 (M1.1 58 23).toNatClampNeg (.int y1)) 58 27 (.int (M2.1 58 27 + (if (M2.1 58 23).toNatClampNeg = (M1.1 58 23).toNatClampNeg then y1 else M2.1 68 (M2.1 58 23).toNatClampNeg))))
    rw [e23, f23, if_pos rfl]
    refine rdp_e (x := x) hl0 hJ hI hw 8 0 _ rfl (e2.trans e1) (lnF_5 (lnF_a (lnF_trans hF (lnF_g q2.1)) (by decide)) (by decide)) g23 (rS_eq (rS_N q2) rfl rfl rfl rfl rfl rfl rfl rfl) (fun b hb => ?_) (fun j hj => absurd hj (Nat.not_lt_zero _))
    have hy := (q2.2.2 b hb).1
    refine ⟨⟨nHo.of hN2.pe hN2.wo hN2.te hN2.fo rfl hN2.hf hN2.ho (fun i hi => ?_) hN2.be hN2.le hN2.sk hN2.t0 hN2.t1 hN2.t2 hN2.t3, ?_⟩, (q2.1.1 67 H.pe (fun e => absurd e (by decide))).trans h67, ?_⟩
    · show (if i = H.pe then y1 else M2.1 68 i) = _
      rw [if_neg (by omega)]
      exact hN2.ch i hi
    · show M2.1 58 27 + y1 = _
      rw [hN2.sm, hy, nI_add]
    · show (if H.pe = H.pe then y1 else M2.1 68 H.pe) = _
      rw [if_pos rfl]
      exact hy
theorem ch_st {q : Nat} : (∀ a, numS u n 0 1000 q = .inr a → 1000 < smF H.ch H.pe + a.1 → chS u n H q = .inl (5, tS u n q)) ∧ ((∀ a, numS u n 0 1000 q = .inr a → ¬ 1000 < smF H.ch H.pe + a.1) → chS u n H q = numS u n 0 1000 q) := by
  constructor
  · intro a ha h
    rw [chS, ha]
    show (if 1000 < smF H.ch H.pe + a.1 then _ else _) = _
    rw [if_pos h]
  · intro h
    cases hr : numS u n 0 1000 q with
    | inl f =>
      rw [chS, hr]
      rfl
    | inr a =>
      rw [chS, hr]
      show (if 1000 < smF H.ch H.pe + a.1 then _ else _) = _
      rw [if_neg (h a hr)]
theorem rdp_m (hl0 : l.1.stackTraces = false) (hJ : ∀ e ∈ RM, M.2.2 e.1 e.2.1 = e.2.2) (hI : HI H) (hw : H.pe < 6) {σ : Flt ⊕ (Nat × Nat)} {M1 : aM} (e1 : M1.2.2 = M.2.2) (hB : RB n u M1) (hF : lnF M M1) (hs : rS u n (posN σ) M1) (h23 : M1.1 58 23 = nI H.pe) (hn : ∀ a, σ = .inr a → nHo H M1 ∧ M1.1 67 H.pe = nI a.1 ∧ M1.1 68 H.pe = nI 0) : AW l (pI pg 184) (fcV M (QX u n (bnd σ fun a => bnd (drS u n H a.2) fun b => .inr (addP H a.1 b.1, b.2)) M)) 0 0 52 [(0, .ref 58)] [] SHF M1 := by
  have hJ1 : ∀ e ∈ RM, M1.2.2 e.1 e.2.1 = e.2.2 := by rw [e1]; exact hJ
  cases σ with
  | inl f =>
    have hb := hs.1 f rfl
    have z : gdV (M1.1 58 13) = 0 := gdz.mpr (bS_nz hb)
    refine rdp_52 hJ1 hl0 (fun _ => ?_) (fun _ _ => True) (fun h => absurd z h) (fun h => absurd z h) (fun _ _ _ => True) (fun h => absurd z h) (fun h => absurd z h) (fun h => absurd z h) (fun h => absurd z h) (fun h => absurd z h) (fun h => absurd z h)
    exact rdp_e (τ := .inl f) (x := 0) hl0 hJ hI hw 8 0 _ rfl e1 hF h23 hs (fun a ha => by cases ha) (fun j hj => absurd hj (Nat.not_lt_zero _))
  | inr a =>
    have hg := hs.2 a.2 rfl
    obtain ⟨hN, h67, h68⟩ := hn a rfl
    have z : ¬ gdV (M1.1 58 13) = 0 := fun h => gdz.mp h hg.1
    have n8 := hB.1
    have b0 := hg.2.2.1
    have b2 : tEe u n a.2 ≤ n := tE_le' b0
    have b3 : tEe u n (tEe u n a.2) ≤ n := tE_le' b2
    have c := is5_c hl0 hJ1 hB b0 hg.2.2.2
    show AW l (pI pg 184) (fcV M (QX u n (bnd (drS u n H a.2) fun b => .inr (addP H a.1 b.1, b.2)) M)) 0 0 52 _ _ _ _
    cases hwd : wdAt u n wDrawn a.2 with
    | false =>
      rw [drS, if_neg (by rw [hwd]; decide)]
      have yz : ∀ {y : Int32} {M4 : aM}, QW (wdAt u n wDrawn a.2) M1 y M4 → y = 0 := fun {y M4} q => q.2.trans (by rw [hwd]; rfl)
      refine rdp_52 hJ1 hl0 (fun h => absurd h z) _ (fun _ => c) (fun _ y4 M4 e4 q4 h6 => ?_) (fun _ _ _ => True) (fun _ y4 M4 e4 q4 h6 => absurd (yz q4) h6) (fun _ y4 M4 e4 q4 h6 => absurd (yz q4) h6) (fun _ y4 M4 e4 q4 h6 => absurd (yz q4) h6) (fun _ y4 M4 e4 q4 h6 => absurd (yz q4) h6) (fun _ y4 M4 e4 q4 h6 => absurd (yz q4) h6) (fun _ y4 M4 e4 q4 h6 => absurd (yz q4) h6)
      obtain ⟨rfl, _⟩ := q4
      exact rdp_e (τ := .inr (0, a.2)) (x := a.1) hl0 hJ hI hw 8 0 _ rfl e1 hF h23 hs (fun b hb => by cases hb; exact ⟨nHc_0 hN, h67, h68⟩) (fun j hj => absurd hj (Nat.not_lt_zero _))
    | true =>
      rw [drS, if_pos hwd]
      have nz : ∀ {y : Int32} {M4 : aM}, QW (wdAt u n wDrawn a.2) M1 y M4 → ¬ y = 0 := fun {y M4} q e => by
        rw [q.2, hwd] at e
        exact absurd e (by decide)
      have e17 : M1.1 58 17 = nI (tEe u n a.2) := hg.2.2.2.2.2.1
      have k4 : tK u n (tEe u n a.2) ≤ 4 := tkK_le
      have bb1 : tS u n (tEe u n a.2) ≤ tEe u n (tEe u n a.2) := tkE_ge
      have on : ∀ {M8 : aM} (σ : Flt ⊕ Nat), M8.2.2 = M1.2.2 → grF M1 M8 → rS u n σ M8 → (bnd σ fun q => numS u n 0 1000 q) = chS u n H (tEe u n a.2) → AW l (pI pg 184) (fcV M (QX u n (bnd (chS u n H (tEe u n a.2)) fun b => .inr (addP H a.1 b.1, b.2)) M)) 0 0 117 [(0, .ref 58)] [] SHF M8 := fun {M8} σ e8 g8 hs8 hr => by
        rw [← hr]
        exact rdp_d hl0 hJ hI hw (e8.trans e1) (RB_G hB g8) (lnF_trans hF (lnF_g g8)) hs8 (nHo_g hN g8) ((g8.1 67 H.pe (fun e => absurd e (by decide))).trans h67)
      have e18 : ∀ {M8 : aM}, QS u n (tEe u n a.2) M1 M8 → (M8.1 58 18 = Int32.ofInt 2 ↔ tK u n (tEe u n a.2) = 2) := fun {M8} q => by
        rw [q.1.2.1]
        exact ⟨fun e => nI_injN (a := tK u n (tEe u n a.2)) (b := 2) (by omega) (by decide) e, fun e => by show nI (tK u n (tEe u n a.2)) = _; rw [e]; rfl⟩
      have e20 : ∀ {M8 : aM}, QS u n (tEe u n a.2) M1 M8 → (Int32.ofInt 4 < M8.1 58 20 ↔ 4 < tEe u n (tEe u n a.2) - tS u n (tEe u n a.2)) := fun {M8} q => by
        have w : M8.1 58 20 = nI (tEe u n (tEe u n a.2) - tS u n (tEe u n a.2)) := q.1.2.2.2.1
        rw [w, show (Int32.ofInt 4 : Int32) = nI 4 by decide, nI_ltI (by decide) (by omega)]
      have vv : ∀ {M8 : aM}, QS u n (tEe u n a.2) M1 M8 → tK u n (tEe u n a.2) = 2 → tEe u n (tEe u n a.2) - tS u n (tEe u n a.2) ≤ 4 → M8.1 58 21 = nI (vlF u (tS u n (tEe u n a.2)) (tEe u n (tEe u n a.2) - tS u n (tEe u n a.2))) := fun {M8} q h1 h2 => by
        have h3 := q.1.2.2.2.2.1 h1
        rw [h3]
        show nI (vlF u (tS u n (tEe u n a.2)) (min (tEe u n (tEe u n a.2) - tS u n (tEe u n a.2)) 4)) = _
        rw [Nat.min_eq_left h2]
      have hc := hI.ch
      refine rdp_52 hJ1 hl0 (fun h => absurd h z) _ (fun _ => c) (fun _ y4 M4 e4 q4 h6 => absurd h6 (nz q4)) (fun _ M4 => QS u n (tEe u n a.2) M4) (fun _ y4 M4 e4 q4 h6 => ?_) (fun _ y4 M4 e4 q4 h6 M8 e8 q8 h10 => ?_) (fun _ y4 M4 e4 q4 h6 M8 e8 q8 h10 h12 => ?_) (fun _ y4 M4 e4 q4 h6 M8 e8 q8 h10 h12 h14 => ?_) (fun _ y4 M4 e4 q4 h6 M8 e8 q8 h10 h12 h14 h16 => ?_) (fun _ y4 M4 e4 q4 h6 M8 e8 q8 h10 h12 h14 h16 => ?_)
      · obtain ⟨rfl, _⟩ := q4
        exact stp_c hl0 hJ1 hB b2 e17
      · obtain ⟨rfl, _⟩ := q4
        refine on (.inr (tEe u n a.2)) e8 (grF_s q8.2) (gS_r (gS_s hg b2 q8)) (Eq.symm (ch_st.2 (fun b hb => ?_)))
        rw [e18 q8] at h10
        rw [numS, if_neg h10] at hb
        cases hb
      · obtain ⟨rfl, _⟩ := q4
        refine on (.inr (tEe u n a.2)) e8 (grF_s q8.2) (gS_r (gS_s hg b2 q8)) (Eq.symm (ch_st.2 (fun b hb => ?_)))
        rw [e18 q8] at h10
        rw [e20 q8] at h12
        rw [numS, if_pos h10, if_neg (by omega)] at hb
        cases hb
      · obtain ⟨rfl, _⟩ := q4
        refine on (.inr (tEe u n a.2)) e8 (grF_s q8.2) (gS_r (gS_s hg b2 q8)) (Eq.symm (ch_st.2 (fun b hb => ?_)))
        rw [e18 q8] at h10
        rw [e20 q8] at h12
        have g3 := vl_lt h10 (by omega)
        rw [vv q8 h10 (by omega), show (Int16.ofInt 1000).toInt32 = nI 1000 by decide, nI_ltI (by decide) (by omega)] at h14
        rw [numS, if_pos h10, if_pos (by omega), if_neg (by omega)] at hb
        cases hb
      · obtain ⟨rfl, _⟩ := q4
        refine on (.inr (tEe u n a.2)) e8 (grF_s q8.2) (gS_r (gS_s hg b2 q8)) (Eq.symm (ch_st.2 (fun b hb => ?_)))
        rw [e18 q8] at h10
        rw [e20 q8] at h12
        have g3 := vl_lt h10 (by omega)
        rw [vv q8 h10 (by omega), (q8.2.1 58 27 (fun _ => by decide)).trans hN.sm, show (Int16.ofInt 1000).toInt32 = nI 1000 by decide, nI_add, nI_leI (by omega) (by decide)] at h16
        rw [numS, if_pos h10, if_pos (by omega)] at hb
        split at hb
        · cases hb
          omega
        · cases hb
      · obtain ⟨rfl, _⟩ := q4
        rw [e18 q8] at h10
        rw [e20 q8] at h12
        have g3 := vl_lt h10 (by omega)
        rw [vv q8 h10 (by omega), show (Int16.ofInt 1000).toInt32 = nI 1000 by decide, nI_ltI (by decide) (by omega)] at h14
        rw [vv q8 h10 (by omega), (q8.2.1 58 27 (fun _ => by decide)).trans hN.sm, show (Int16.ofInt 1000).toInt32 = nI 1000 by decide, nI_add, nI_leI (by omega) (by decide)] at h16
        have hr : chS u n H (tEe u n a.2) = .inl (5, tS u n (tEe u n a.2)) := by
          refine ch_st.1 (vlF u (tS u n (tEe u n a.2)) (tEe u n (tEe u n a.2) - tS u n (tEe u n a.2)), tEe u n (tEe u n a.2)) ?_ (by show 1000 < smF H.ch H.pe + vlF u (tS u n (tEe u n a.2)) (tEe u n (tEe u n a.2) - tS u n (tEe u n a.2)); omega)
          rw [numS, if_pos h10, if_pos (by omega), if_pos (by omega)]
        have wb := wg_b (k := 5) (x := Int32.ofInt 5) (gS_s hg b2 q8) (by decide) (by decide) (by decide)
        exact on (.inl (5, tS u n (tEe u n a.2))) (wgM_2.trans e8) (grF_trans (grF_s q8.2) grF_w) ⟨fun g hg => (by cases hg; exact wb), fun q hq => (by cases hq)⟩ hr.symm
theorem rdp_c (hl0 : l.1.stackTraces = false) (hJ : ∀ e ∈ RM, M.2.2 e.1 e.2.1 = e.2.2) (hB : RB n u M) (hg : gS u n p M) (hI : HI H) (hN : nHo H M) : AC l (pI pg 184) (fcV M (QX u n (perS0 u n H p) M)) 0 0 [.ref 58] SHF M := by
  refine fw_of hl0 ⟨by decide +kernel, by decide +kernel, by decide +kernel⟩ rfl ?_
  have hp6 := hI.pe
  have eq6 : M.1 58 23 = (Int8.ofInt 6).toInt32 ↔ H.pe = 6 := by
    rw [hN.pe]
    exact ⟨fun e => nI_injN (b := 6) (by omega) (by decide) e, fun e => by rw [e]; decide⟩
  by_cases hc : H.pe < 6
  · rw [perS0, if_neg (by omega)]
    have z : ¬ gdV (M.1 58 13) = 0 := fun h => gdz.mp h hg.1
    have b2 : tEe u n p ≤ n := tE_le' hg.2.2.1
    have e17 : M.1 58 17 = nI (tEe u n p) := hg.2.2.2.2.2.1
    refine rdp_0 hJ hl0 (fun _ => ?_) (fun h => absurd (eq6.mp h) (by omega))
    refine rdp_14 hJ hl0 (QS u n (tEe u n p) M) (fun _ => stp_c hl0 hJ hB b2 e17) (fun M3 => QN u n (numS u n 0 24 (tEe u n p)) M3) (fun _ M3 e3 q3 => nrm_s hl0 (by rw [e3]; exact hJ) (RB_F hB q3.2) (σ := .inr (tEe u n p)) (gS_r (gS_s hg b2 q3)) (lo := 0) (hi := 24) (by decide) (by decide) (by decide) (by decide)) (fun _ M3 e3 q3 y5 M5 e5 q5 => ?_) (fun _ M3 e3 q3 y5 M5 e5 q5 => ?_) (fun _ M3 e3 q3 y5 M5 e5 q5 => ?_) (fun h => absurd h z)
    · rw [(q3.2.1 58 23 (fun _ => by decide)).trans hN.pe]
      exact vp_in_nI hc (by decide)
    · show vp_in (M5.1 58 23) 6
      rw [(q5.1.1 58 23 (fun _ => by decide)).trans ((q3.2.1 58 23 (fun _ => by decide)).trans hN.pe)]
      exact vp_in_nI hc (by decide)
    · have h23 : M3.1 58 23 = nI H.pe := (q3.2.1 58 23 (fun _ => by decide)).trans hN.pe
      have c23 : (M3.1 58 23).toNatClampNeg = H.pe := by rw [h23, nI_clamp (by omega)]
      have G : grF M M5 := grF_trans (grF_s q3.2) q5.1
      have hN5 := nHo_g hN G
      have c25 : (M5.1 58 23).toNatClampNeg = H.pe := by rw [hN5.pe, nI_clamp (by omega)]
      show AW l (pI pg 184) _ 0 0 52 [(0, .ref 58)] [] SHF (aset (aset M5 67 (M3.1 58 23).toNatClampNeg (.int y5)) 68 (M5.1 58 23).toNatClampNeg (.int (Int32.ofInt 0)))
      rw [c23, c25]
      refine rdp_m hl0 hJ hI hc (e5.trans e3) (RB_eq (RB_G hB G) rfl (fun _ => rfl)) (lnF_a (lnF_a (lnF_g G) (by decide)) (by decide)) (rS_eq (rS_N q5) rfl rfl rfl rfl rfl rfl rfl rfl) hN5.pe (fun a ha => ⟨?_, ?_, ?_⟩)
      · refine nHo.of hN5.pe hN5.wo hN5.te hN5.fo hN5.sm hN5.hf (fun i hi => ?_) (fun i hi => ?_) hN5.be hN5.le hN5.sk hN5.t0 hN5.t1 hN5.t2 hN5.t3
        · show (if i = H.pe then y5 else M5.1 67 i) = _
          rw [if_neg (by omega)]
          exact hN5.ho i hi
        · show (if i = H.pe then _ else M5.1 68 i) = _
          rw [if_neg (by omega)]
          exact hN5.ch i hi
      · show (if H.pe = H.pe then y5 else M5.1 67 H.pe) = _
        rw [if_pos rfl]
        exact (q5.2.2 a ha).1
      · show (if H.pe = H.pe then Int32.ofInt 0 else M5.1 68 H.pe) = _
        rw [if_pos rfl]
        rfl
  · rw [perS0, if_pos (by omega)]
    have wb := wg_b (k := 2) (x := Int32.ofInt 2) hg (by decide) (by decide) (by decide)
    have z : gdV ((wgM M (Int32.ofInt 2)).1 58 13) = 0 := gdz.mpr (bS_nz wb)
    refine rdp_0 hJ hl0 (fun h => absurd (eq6.mpr (by omega)) h) (fun _ => ?_)
    refine rdp_14 (by rw [wgM_2]; exact hJ) hl0 (fun _ => True) (fun h => absurd z h) (fun _ _ _ => True) (fun h => absurd z h) (fun h => absurd z h) (fun h => absurd z h) (fun h => absurd z h) (fun _ => ⟨rfl, wgM_2, rfl, lnF_g grF_w, fun f hf => ?_, fun a ha => ?_⟩)
    · cases hf
      exact wb
    · cases ha
end RP
