/-! line of the reference -/
def eoS (u : Nat → Nat) (n : Nat) (a : HS × Nat) : Flt ⊕ (HS × Nat) := bnd (endS u n a.2) fun q => .inr (a.1, q)
def canS0 (u : Nat → Nat) (n : Nat) (H : HS) (p : Nat) : Flt ⊕ (HS × Nat) := bnd (cpS u n H p) fun a => bnd (numS u n 1 9 a.2.2) fun c => .inr (addS H a.1 a.2.1 c.1, c.2)
def forS0 (u : Nat → Nat) (n : Nat) (H : HS) (p : Nat) : Flt ⊕ (HS × Nat) := if H.fo ≠ 0 then .inl (5, tS u n p) else bnd (numS u n 1 50 (tEe u n p)) fun a => .inr (addF H a.1, a.2)
section EO
variable {u : Nat → Nat} {n p : Nat} {H : HS}
theorem per_eo : perS u n H p = bnd (perS0 u n H p) (eoS u n) := by
  unfold perS perS0
  split
  · rfl
  · cases numS u n 0 24 (tEe u n p) with
    | inl f => rfl
    | inr a =>
      show bnd (drS u n H a.2) _ = bnd (bnd (drS u n H a.2) _) _
      cases drS u n H a.2 with
      | inl f => rfl
      | inr b => rfl
theorem wor_eo : worS u n H p = bnd (worS0 u n H p) (eoS u n) := by
  unfold worS worS0
  split
  · rfl
  · cases numS u n 0 23 (tEe u n p) with
    | inl f => rfl
    | inr a =>
      show bnd (numS u n 1 (min 8 (24 - a.1)) a.2) _ = bnd (bnd (numS u n 1 (min 8 (24 - a.1)) a.2) _) _
      cases numS u n 1 (min 8 (24 - a.1)) a.2 with
      | inl f => rfl
      | inr b => rfl
theorem can_eo : canS u n H p = bnd (canS0 u n H p) (eoS u n) := by
  unfold canS canS0 cpS
  cases idS u n H.pe (tEe u n p) with
  | inl f => rfl
  | inr a =>
    show bnd (newS u n H a.1 a.2) _ = bnd (bnd (bnd (newS u n H a.1 a.2) _) _) _
    cases newS u n H a.1 a.2 with
    | inl f => rfl
    | inr b =>
      show bnd (numS u n 1 9 b.2) _ = bnd (bnd (numS u n 1 9 b.2) _) _
      cases numS u n 1 9 b.2 with
      | inl f => rfl
      | inr c => rfl
theorem lea_eo : leaS u n H p = bnd (leaS0 u n H p) (eoS u n) := by
  unfold leaS leaS0 cpS
  split
  · rfl
  · cases idS u n H.pe (tEe u n p) with
    | inl f => rfl
    | inr a =>
      show bnd (newS u n H a.1 a.2) _ = bnd (bnd (bnd (newS u n H a.1 a.2) _) _) _
      cases newS u n H a.1 a.2 with
      | inl f => rfl
      | inr b =>
        show bnd (numS u n 1 9 b.2) _ = bnd (bnd (numS u n 1 9 b.2) _) _
        cases numS u n 1 9 b.2 with
        | inl f => rfl
        | inr c =>
          show bnd (numS u n 1 99 c.2) _ = bnd (bnd (numS u n 1 99 c.2) _) _
          cases numS u n 1 99 c.2 with
          | inl f => rfl
          | inr d => rfl
theorem for_eo : forS u n H p = bnd (forS0 u n H p) (eoS u n) := by
  unfold forS forS0
  split
  · rfl
  · cases numS u n 1 50 (tEe u n p) with
    | inl f => rfl
    | inr a => rfl
end EO
section LN
variable {l : aL} {M : aM} {n p : Nat} {u : Nat → Nat} {H : HS}
theorem lin_e (hl0 : l.1.stackTraces = false) (hJ : ∀ e ∈ RM, M.2.2 e.1 e.2.1 = e.2.2) {M1 : aM} (e1 : M1.2.2 = M.2.2) (hB : RB n u M1) {σ : Flt ⊕ (HS × Nat)} (hq : QX u n σ M M1) : AW l (pI pg 181) (fcV M (QX u n (bnd σ (eoS u n)) M)) 0 0 149 [(0, .ref 58)] [] SHF M1 := by
  have hJ1 : ∀ e ∈ RM, M1.2.2 e.1 e.2.1 = e.2.2 := by rw [e1]; exact hJ
  obtain ⟨hF, hb, hg⟩ := hq
  cases σ with
  | inl f =>
    have b := hb f rfl
    have hs : rS u n (.inl f) M1 := ⟨fun g hg => (by cases hg; exact b), fun q hq => (by cases hq)⟩
    have c : ∀ {x : Int32}, AC l (pI pg 191) (fcV M1 (QD u n (.inl f) M1)) 0 0 [.ref 58, .int x] SHF M1 := fun {x} => nee_s hl0 hJ1 hB hs (fun p hp => by cases hp)
    have e : ∀ {M2 : aM}, M2.2.2 = M1.2.2 → QD u n (.inl f) M1 M2 → fcV M (QX u n (.inl f) M) (.inl none) SHF M2 := fun {M2} e2 q2 => ⟨rfl, e2.trans e1, rfl, lnF_trans hF (lnF_g q2.1), fun g hg => (by cases hg; exact q2.2.1 f rfl), fun a ha => (by cases ha)⟩
    exact lin_149 hJ1 hl0 (QD u n (.inl f) M1) (fun _ => c) (fun _ M2 e2 q2 => e e2 q2) (QD u n (.inl f) M1) (fun _ => c) (fun _ M2 e2 q2 => e e2 q2)
  | inr a =>
    obtain ⟨g, hN⟩ := hg a rfl
    have k4 : tK u n a.2 ≤ 4 := tkK_le
    have k3 : M1.1 58 18 = Int32.ofInt 3 ↔ tK u n a.2 = 3 := by
      have e18 : M1.1 58 18 = nI (tK u n a.2) := g.2.2.2.2.1
      rw [e18]
      exact ⟨fun e => nI_injN (b := 3) (by omega) (by decide) e, fun e => by rw [e]; rfl⟩
    have e : ∀ {M2 : aM}, M2.2.2 = M1.2.2 → QD u n (endS u n a.2) M1 M2 → fcV M (QX u n (eoS u n a) M) (.inl none) SHF M2 := fun {M2} e2 q2 => by
      refine ⟨rfl, e2.trans e1, rfl, lnF_trans hF (lnF_g q2.1), ?_, ?_⟩
      · intro f hf
        unfold eoS at hf
        cases hr : endS u n a.2 with
        | inl f2 =>
          rw [hr] at hf
          cases hf
          exact q2.2.1 f hr
        | inr q =>
          rw [hr] at hf
          cases hf
      · intro b hb
        unfold eoS at hb
        cases hr : endS u n a.2 with
        | inl f2 =>
          rw [hr] at hb
          cases hb
        | inr q =>
          rw [hr] at hb
          cases hb
          exact ⟨q2.2.2 q hr, nHo_g hN q2.1⟩
    show AW l (pI pg 181) (fcV M (QX u n (eoS u n a) M)) 0 0 149 _ _ _ _
    refine lin_149 hJ1 hl0 (QD u n (endS u n a.2) M1) (fun h => ?_) (fun _ M2 e2 q2 => e e2 q2) (QD u n (endS u n a.2) M1) (fun h => ?_) (fun _ M2 e2 q2 => e e2 q2)
    · exact nee_s (σ := .inr a.2) hl0 hJ1 hB (gS_r g) (fun p hp => by cases hp; exact ⟨fun _ e => h (k3.mpr e), fun _ => rfl⟩)
    · exact nee_s (σ := .inr a.2) hl0 hJ1 hB (gS_r g) (fun p hp => by cases hp; exact ⟨fun e => absurd e (by decide), fun e => absurd (k3.mp h) e⟩)
theorem cp_ok {a : Nat × Nat × Nat} (h : cpS u n H p = .inr a) : a.1 < H.pe ∧ a.2.1 < H.wo := by
  obtain ⟨b, h1, h⟩ := bnd_ok h
  obtain ⟨c, h2, h⟩ := bnd_ok h
  cases h
  exact ⟨(idS_ok h1).1, (newS_ok h2).1⟩
theorem RB_l {M1 : aM} (hB : RB n u M) (hF : lnF M M1) : RB n u M1 := RB_eq hB (hF.1 58 16 (fun _ => by decide) (by decide)) (fun i => hF.1 65 i (fun e => absurd e (by decide)) (by decide))
theorem lin_42e (hl0 : l.1.stackTraces = false) (hJ : ∀ e ∈ RM, M.2.2 e.1 e.2.1 = e.2.2) (hB0 : RB n u M) (hI : HI H) {M1 : aM} (e1 : M1.2.2 = M.2.2) {τ : Flt ⊕ (Nat × Nat × Nat)} (ht : ∀ a, τ = .inr a → a.1 < H.pe ∧ a.2.1 < H.wo) (hq : QC u n H τ M M1) : AW l (pI pg 181) (fcV M (QX u n (bnd (bnd τ fun a => bnd (numS u n 1 9 a.2.2) fun c => .inr (addS H a.1 a.2.1 c.1, c.2)) (eoS u n)) M)) 0 0 42 [(0, .ref 58)] [] SHF M1 := by
  have hJ1 : ∀ e ∈ RM, M1.2.2 e.1 e.2.1 = e.2.2 := by rw [e1]; exact hJ
  obtain ⟨hF, hN, hb, hg⟩ := hq
  have hp6 := hI.pe
  have hw8 := hI.wo
  have hB := RB_l hB0 hF
  cases τ with
  | inl f =>
    have b := hb f rfl
    have z : gdV (M1.1 58 13) = 0 := gdz.mpr (bS_nz b)
    refine lin_42 hJ1 hl0 (fun y M' => Int32.ofInt 0 = y ∧ M1 = M') (nrm_b hl0 hJ1 (bS_nz b)) (fun y1 M2 e2 q2 h4 => ?_) (fun y1 M2 e2 q2 h4 => ?_) (fun y1 M2 e2 q2 h4 => ?_)
    · obtain ⟨_, rfl⟩ := q2
      exact lin_e (σ := .inl f) hl0 hJ e1 hB ⟨hF, fun g hg => (by cases hg; exact b), fun a ha => (by cases ha)⟩
    · obtain ⟨_, rfl⟩ := q2
      exact absurd z h4
    · obtain ⟨_, rfl⟩ := q2
      exact absurd z h4
  | inr a =>
    obtain ⟨g, h35, h36⟩ := hg a rfl
    obtain ⟨t1, t2⟩ := ht a rfl
    have c := nrm_s hl0 hJ1 hB (σ := .inr a.2.2) (gS_r g) (lo := 1) (hi := 9) (by decide) (by decide) (x := Int32.ofInt 1) (y := (Int8.ofInt 9).toInt32) (by decide) (by decide)
    show AW l (pI pg 181) (fcV M (QX u n (bnd (bnd (numS u n 1 9 a.2.2) fun c => .inr (addS H a.1 a.2.1 c.1, c.2)) (eoS u n)) M)) 0 0 42 _ _ _ _
    have ix : ∀ {y : Int32} {M2 : aM}, QN u n (bnd (.inr a.2.2) fun p => numS u n 1 9 p) M1 y M2 → (Int8.ofInt 8).toInt32 * M2.1 58 35 + M2.1 58 36 = nI (8 * a.1 + a.2.1) := fun {y M2} q => by
      rw [(q.1.1 58 35 (fun _ => by decide)).trans h35, (q.1.1 58 36 (fun _ => by decide)).trans h36, show (Int8.ofInt 8).toInt32 = nI 8 by decide, nI_mulN, nI_add]
    cases hr : numS u n 1 9 a.2.2 with
    | inl f =>
      have z : ∀ {y : Int32} {M2 : aM}, QN u n (bnd (.inr a.2.2) fun p => numS u n 1 9 p) M1 y M2 → bS f M2 := fun {y M2} q => q.2.1 f hr
      refine lin_42 hJ1 hl0 _ c (fun y1 M2 e2 q2 h4 => ?_) (fun y1 M2 e2 q2 h4 => absurd (gdz.mpr (bS_nz (z q2))) h4) (fun y1 M2 e2 q2 h4 => absurd (gdz.mpr (bS_nz (z q2))) h4)
      exact lin_e (σ := .inl f) hl0 hJ (e2.trans e1) (RB_G hB q2.1) ⟨lnF_trans hF (lnF_g q2.1), fun g hg => (by cases hg; exact z q2), fun a ha => (by cases ha)⟩
    | inr b =>
      have z : ∀ {y : Int32} {M2 : aM}, QN u n (bnd (.inr a.2.2) fun p => numS u n 1 9 p) M1 y M2 → y = nI b.1 ∧ gS u n b.2 M2 := fun {y M2} q => q.2.2 b hr
      refine lin_42 hJ1 hl0 _ c (fun y1 M2 e2 q2 h4 => absurd (z q2).2.1 (gdz.mp h4)) (fun y1 M2 e2 q2 h4 => ?_) (fun y1 M2 e2 q2 h4 => ?_)
      · rw [ix q2]
        exact vp_in_nI (by omega) (by decide)
      · obtain ⟨hy, g2⟩ := z q2
        have hN2 := nHo_g hN q2.1
        rw [ix q2, nI_clamp (by omega)]
        refine lin_e (M1 := aset M2 71 (8 * a.1 + a.2.1) (.int y1)) (σ := .inr (addS H a.1 a.2.1 b.1, b.2)) hl0 hJ (e2.trans e1) (RB_eq (RB_G hB q2.1) rfl (fun _ => rfl)) ⟨lnF_a (lnF_trans hF (lnF_g q2.1)) (by decide), fun g hg => (by cases hg), fun d hd => ?_⟩
        cases hd
        refine ⟨⟨g2.1, g2.2.1, g2.2.2.1, stAt_eq g2.2.2.2 rfl rfl rfl rfl rfl rfl⟩, nHo.of hN2.pe hN2.wo hN2.te hN2.fo hN2.sm hN2.hf hN2.ho hN2.ch hN2.be hN2.le (fun j w hj hw => ?_) hN2.t0 hN2.t1 hN2.t2 hN2.t3⟩
        show (if 8 * j + w = 8 * a.1 + a.2.1 then y1 else M2.1 71 (8 * j + w)) = nI (npd H.sk (8 * a.1 + a.2.1) b.1 (8 * j + w))
        by_cases e : 8 * j + w = 8 * a.1 + a.2.1
        · rw [if_pos e, e, npd_eq]
          exact hy
        · rw [if_neg e, npd_ne e]
          exact hN2.sk j w hj hw
theorem lin_113b (hl0 : l.1.stackTraces = false) (hJ : ∀ e ∈ RM, M.2.2 e.1 e.2.1 = e.2.2) {M1 : aM} (e1 : M1.2.2 = M.2.2) (hF : lnF M M1) {f : Flt} (b : bS f M1) : AW l (pI pg 181) (fcV M (QX u n (.inl f) M)) 0 0 113 [(0, .ref 58)] [] SHF M1 := by
  have z : gdV (M1.1 58 13) = 0 := gdz.mpr (bS_nz b)
  exact lin_113 (by rw [e1]; exact hJ) hl0 (fun _ => True) (fun h => absurd z h) (fun _ _ _ => True) (fun h => absurd z h) (fun h => absurd z h) (fun _ => ⟨rfl, e1, rfl, hF, fun g hg => (by cases hg; exact b), fun a ha => (by cases ha)⟩)
theorem lin_113g (hl0 : l.1.stackTraces = false) (hJ : ∀ e ∈ RM, M.2.2 e.1 e.2.1 = e.2.2) (hB : RB n u M) (hg : gS u n p M) (hN : nHo H M) : AW l (pI pg 181) (fcV M (QX u n (bnd (bnd (numS u n 1 50 (tEe u n p)) fun a => .inr (addF H a.1, a.2)) (eoS u n)) M)) 0 0 113 [(0, .ref 58)] [] SHF M := by
  have z : ¬ gdV (M.1 58 13) = 0 := fun h => gdz.mp h hg.1
  have b2 : tEe u n p ≤ n := tE_le' hg.2.2.1
  have e17 : M.1 58 17 = nI (tEe u n p) := hg.2.2.2.2.2.1
  have g1 := gS_5 (k := 28) (x := Int32.ofInt 1) hg (by decide)
  have B1 : RB n u (aset M 58 28 (.int (Int32.ofInt 1))) := RB_eq hB rfl (fun _ => rfl)
  have F1 : lnF M (aset M 58 28 (.int (Int32.ofInt 1))) := lnF_5 lnF_rfl (by decide)
  refine lin_113 hJ hl0 (QS u n (tEe u n p) (aset M 58 28 (.int (Int32.ofInt 1)))) (fun _ => stp_c hl0 hJ B1 b2 e17) (fun M3 => QN u n (numS u n 1 50 (tEe u n p)) M3) (fun _ M3 e3 q3 => nrm_s hl0 (by rw [e3]; exact hJ) (RB_F B1 q3.2) (σ := .inr (tEe u n p)) (gS_r (gS_s g1 b2 q3)) (lo := 1) (hi := 50) (by decide) (by decide) (by decide) (by decide)) (fun _ M3 e3 q3 y5 M5 e5 q5 => ?_) (fun h => absurd h z)
  have G : grF (aset M 58 28 (.int (Int32.ofInt 1))) M5 := grF_trans (grF_s q3.2) q5.1
  have k : ∀ j, 23 ≤ j → M5.1 58 j = (aset M 58 28 (.int (Int32.ofInt 1))).1 58 j := fun j hj => G.1 58 j (fun _ => by omega)
  have a : ∀ b j, b ≠ 58 → M5.1 b j = M.1 b j := fun b j hb => (G.1 b j (fun e => absurd e hb)).trans (by rw [set_1, if_neg hb])
  refine lin_e (M1 := aset M5 58 26 (.int y5)) hl0 hJ (e5.trans e3) (RB_eq (RB_G B1 G) rfl (fun _ => rfl)) ⟨lnF_5 (lnF_trans F1 (lnF_g G)) (by decide), fun f hf => ?_, fun d hd => ?_⟩
  · cases hr : numS u n 1 50 (tEe u n p) with
    | inl f2 =>
      rw [hr] at hf
      cases hf
      exact bS_5 (q5.2.1 f hr) (by decide)
    | inr c =>
      rw [hr] at hf
      cases hf
  · cases hr : numS u n 1 50 (tEe u n p) with
    | inl f2 =>
      rw [hr] at hd
      cases hd
    | inr c =>
      rw [hr] at hd
      cases hd
      have hc := numS_ok hr
      obtain ⟨hy, g5⟩ := q5.2.2 c hr
      refine ⟨gS_5 g5 (by decide), nHo.of ((k 23 (by decide)).trans hN.pe) ((k 24 (by decide)).trans hN.wo) ((k 25 (by decide)).trans hN.te) hy ((k 27 (by decide)).trans hN.sm) ?_ (fun i hi => (a 67 _ (by decide)).trans (hN.ho i hi)) (fun i hi => (a 68 _ (by decide)).trans (hN.ch i hi)) (fun i hi => (a 69 _ (by decide)).trans (hN.be i hi)) (fun i hi => (a 70 _ (by decide)).trans (hN.le i hi)) (fun i w hi hw => (a 71 _ (by decide)).trans (hN.sk i w hi hw)) (fun i hi => (a 72 _ (by decide)).trans (hN.t0 i hi)) (fun i hi => (a 72 _ (by decide)).trans (hN.t1 i hi)) (fun i hi => (a 72 _ (by decide)).trans (hN.t2 i hi)) (fun i hi => (a 72 _ (by decide)).trans (hN.t3 i hi))⟩
      show M5.1 58 28 = 0 ↔ c.1 = 0
      have e28 : M5.1 58 28 = Int32.ofInt 1 := k 28 (by decide)
      rw [e28]
      exact ⟨fun e => absurd e (by decide), fun e => by omega⟩
theorem lin_93e (hl0 : l.1.stackTraces = false) (hJ : ∀ e ∈ RM, M.2.2 e.1 e.2.1 = e.2.2) (hB : RB n u M) (hg : gS u n p M) (hI : HI H) (hN : nHo H M) : AW l (pI pg 181) (fcV M (QX u n (if wdAt u n wForget p = true then forS u n H p else .inl (1, tS u n p)) M)) 0 0 93 [(0, .ref 58)] [] SHF M := by
  have c := is4_c hl0 hJ hB hg.2.2.1 hg.2.2.2
  cases hw : wdAt u n wForget p with
  | false =>
    rw [if_neg (by decide)]
    have y0 : ∀ {y : Int32} {M1 : aM}, QW (wdAt u n wForget p) M y M1 → y = 0 := fun {y M1} q => q.2.trans (by rw [hw]; rfl)
    refine lin_93 hJ hl0 _ c (fun y1 M1 e1 q1 h3 => ?_) (fun y1 M1 e1 q1 h3 => absurd (y0 q1) h3) (fun y1 M1 e1 q1 h3 => absurd (y0 q1) h3)
    obtain ⟨rfl, _⟩ := q1
    have wb := wg_b (k := 1) (x := Int32.ofInt 1) hg (by decide) (by decide) (by decide)
    exact lin_e (σ := .inl (1, tS u n p)) hl0 hJ wgM_2 (RB_G hB grF_w) ⟨lnF_g grF_w, fun g hg => (by cases hg; exact wb), fun a ha => (by cases ha)⟩
  | true =>
    rw [if_pos rfl, for_eo, forS0]
    have nz : ∀ {y : Int32} {M1 : aM}, QW (wdAt u n wForget p) M y M1 → ¬ y = 0 := fun {y M1} q e => by
      rw [q.2, hw] at e
      exact absurd e (by decide)
    by_cases hf : H.fo = 0
    · rw [if_neg (fun h => h hf)]
      refine lin_93 hJ hl0 _ c (fun y1 M1 e1 q1 h3 => absurd h3 (nz q1)) (fun y1 M1 e1 q1 h3 h6 => ?_) (fun y1 M1 e1 q1 h3 h6 => ?_)
      · obtain ⟨rfl, _⟩ := q1
        exact lin_113g hl0 hJ hB hg hN
      · obtain ⟨rfl, _⟩ := q1
        exact absurd (hN.hf.mpr hf) h6
    · rw [if_pos hf]
      refine lin_93 hJ hl0 _ c (fun y1 M1 e1 q1 h3 => absurd h3 (nz q1)) (fun y1 M1 e1 q1 h3 h6 => ?_) (fun y1 M1 e1 q1 h3 h6 => ?_)
      · obtain ⟨rfl, _⟩ := q1
        exact absurd (hN.hf.mp h6) hf
      · obtain ⟨rfl, _⟩ := q1
        exact lin_113b hl0 hJ wgM_2 (lnF_g grF_w) (wg_b (k := 5) (x := Int32.ofInt 5) hg (by decide) (by decide) (by decide))
theorem lin_78e (hl0 : l.1.stackTraces = false) (hJ : ∀ e ∈ RM, M.2.2 e.1 e.2.1 = e.2.2) (hB : RB n u M) (hg : gS u n p M) (hI : HI H) (hN : nHo H M) : AW l (pI pg 181) (fcV M (QX u n (if wdAt u n wLearn p = true then leaS u n H p else if wdAt u n wForget p = true then forS u n H p else .inl (1, tS u n p)) M)) 0 0 78 [(0, .ref 58)] [] SHF M := by
  have c := is3_c hl0 hJ hB hg.2.2.1 hg.2.2.2
  cases hw : wdAt u n wLearn p with
  | false =>
    rw [if_neg (by decide)]
    have y0 : ∀ {y : Int32} {M1 : aM}, QW (wdAt u n wLearn p) M y M1 → y = 0 := fun {y M1} q => q.2.trans (by rw [hw]; rfl)
    refine lin_78 hJ hl0 _ c (fun y1 M1 e1 q1 h3 => ?_) (fun _ _ _ => True) (fun y1 M1 e1 q1 h3 => absurd (y0 q1) h3) (fun y1 M1 e1 q1 h3 => absurd (y0 q1) h3)
    obtain ⟨rfl, _⟩ := q1
    exact lin_93e hl0 hJ hB hg hI hN
  | true =>
    rw [if_pos rfl, lea_eo]
    have nz : ∀ {y : Int32} {M1 : aM}, QW (wdAt u n wLearn p) M y M1 → ¬ y = 0 := fun {y M1} q e => by
      rw [q.2, hw] at e
      exact absurd e (by decide)
    refine lin_78 hJ hl0 _ c (fun y1 M1 e1 q1 h3 => absurd h3 (nz q1)) (fun _ M1 => QX u n (leaS0 u n H p) M1) (fun y1 M1 e1 q1 h3 => ?_) (fun y1 M1 e1 q1 h3 M5 e5 q5 => ?_)
    · obtain ⟨rfl, _⟩ := q1
      exact rdl_c hl0 hJ hB hg hI hN
    · obtain ⟨rfl, _⟩ := q1
      exact lin_e hl0 hJ e5 (RB_l hB q5.1) q5
theorem lin_30e (hl0 : l.1.stackTraces = false) (hJ : ∀ e ∈ RM, M.2.2 e.1 e.2.1 = e.2.2) (hB : RB n u M) (hg : gS u n p M) (hI : HI H) (hN : nHo H M) : AW l (pI pg 181) (fcV M (QX u n (if wdAt u n wCan p = true then canS u n H p else if wdAt u n wLearn p = true then leaS u n H p else if wdAt u n wForget p = true then forS u n H p else .inl (1, tS u n p)) M)) 0 0 30 [(0, .ref 58)] [] SHF M := by
  have c := is2_c hl0 hJ hB hg.2.2.1 hg.2.2.2
  cases hw : wdAt u n wCan p with
  | false =>
    rw [if_neg (by decide)]
    have y0 : ∀ {y : Int32} {M1 : aM}, QW (wdAt u n wCan p) M y M1 → y = 0 := fun {y M1} q => q.2.trans (by rw [hw]; rfl)
    refine lin_30 hJ hl0 _ c (fun y1 M1 e1 q1 h3 => ?_) (fun _ _ _ => True) (fun y1 M1 e1 q1 h3 => absurd (y0 q1) h3) (fun y1 M1 e1 q1 h3 => absurd (y0 q1) h3)
    obtain ⟨rfl, _⟩ := q1
    exact lin_78e hl0 hJ hB hg hI hN
  | true =>
    rw [if_pos rfl, can_eo]
    have nz : ∀ {y : Int32} {M1 : aM}, QW (wdAt u n wCan p) M y M1 → ¬ y = 0 := fun {y M1} q e => by
      rw [q.2, hw] at e
      exact absurd e (by decide)
    refine lin_30 hJ hl0 _ c (fun y1 M1 e1 q1 h3 => absurd h3 (nz q1)) (fun _ M1 => QC u n H (cpS u n H p) M1) (fun y1 M1 e1 q1 h3 => ?_) (fun y1 M1 e1 q1 h3 M5 e5 q5 => ?_)
    · obtain ⟨rfl, _⟩ := q1
      exact rdc_c hl0 hJ hB hg hI hN
    · obtain ⟨rfl, _⟩ := q1
      exact lin_42e hl0 hJ hB hI e5 (fun a ha => cp_ok ha) q5
theorem lin_15e (hl0 : l.1.stackTraces = false) (hJ : ∀ e ∈ RM, M.2.2 e.1 e.2.1 = e.2.2) (hB : RB n u M) (hg : gS u n p M) (hI : HI H) (hN : nHo H M) : AW l (pI pg 181) (fcV M (QX u n (if wdAt u n wWork p = true then worS u n H p else if wdAt u n wCan p = true then canS u n H p else if wdAt u n wLearn p = true then leaS u n H p else if wdAt u n wForget p = true then forS u n H p else .inl (1, tS u n p)) M)) 0 0 15 [(0, .ref 58)] [] SHF M := by
  have c := is1_c hl0 hJ hB hg.2.2.1 hg.2.2.2
  cases hw : wdAt u n wWork p with
  | false =>
    rw [if_neg (by decide)]
    have y0 : ∀ {y : Int32} {M1 : aM}, QW (wdAt u n wWork p) M y M1 → y = 0 := fun {y M1} q => q.2.trans (by rw [hw]; rfl)
    refine lin_15 hJ hl0 _ c (fun y1 M1 e1 q1 h3 => ?_) (fun _ _ _ => True) (fun y1 M1 e1 q1 h3 => absurd (y0 q1) h3) (fun y1 M1 e1 q1 h3 => absurd (y0 q1) h3)
    obtain ⟨rfl, _⟩ := q1
    exact lin_30e hl0 hJ hB hg hI hN
  | true =>
    rw [if_pos rfl, wor_eo]
    have nz : ∀ {y : Int32} {M1 : aM}, QW (wdAt u n wWork p) M y M1 → ¬ y = 0 := fun {y M1} q e => by
      rw [q.2, hw] at e
      exact absurd e (by decide)
    refine lin_15 hJ hl0 _ c (fun y1 M1 e1 q1 h3 => absurd h3 (nz q1)) (fun _ M1 => QX u n (worS0 u n H p) M1) (fun y1 M1 e1 q1 h3 => ?_) (fun y1 M1 e1 q1 h3 M5 e5 q5 => ?_)
    · obtain ⟨rfl, _⟩ := q1
      exact rdw_c hl0 hJ hB hg hI hN
    · obtain ⟨rfl, _⟩ := q1
      exact lin_e hl0 hJ e5 (RB_l hB q5.1) q5
theorem lin_0e (hl0 : l.1.stackTraces = false) (hJ : ∀ e ∈ RM, M.2.2 e.1 e.2.1 = e.2.2) (hB : RB n u M) (hg : gS u n p M) (hI : HI H) (hN : nHo H M) : AW l (pI pg 181) (fcV M (QX u n (if wdAt u n wPerson p = true then perS u n H p else if wdAt u n wWork p = true then worS u n H p else if wdAt u n wCan p = true then canS u n H p else if wdAt u n wLearn p = true then leaS u n H p else if wdAt u n wForget p = true then forS u n H p else .inl (1, tS u n p)) M)) 0 0 0 [(0, .ref 58)] [] SHF M := by
  have c := is0_c hl0 hJ hB hg.2.2.1 hg.2.2.2
  cases hw : wdAt u n wPerson p with
  | false =>
    rw [if_neg (by decide)]
    have y0 : ∀ {y : Int32} {M1 : aM}, QW (wdAt u n wPerson p) M y M1 → y = 0 := fun {y M1} q => q.2.trans (by rw [hw]; rfl)
    refine lin_0 hJ hl0 _ c (fun y1 M1 e1 q1 h3 => ?_) (fun _ _ _ => True) (fun y1 M1 e1 q1 h3 => absurd (y0 q1) h3) (fun y1 M1 e1 q1 h3 => absurd (y0 q1) h3)
    obtain ⟨rfl, _⟩ := q1
    exact lin_15e hl0 hJ hB hg hI hN
  | true =>
    rw [if_pos rfl, per_eo]
    have nz : ∀ {y : Int32} {M1 : aM}, QW (wdAt u n wPerson p) M y M1 → ¬ y = 0 := fun {y M1} q e => by
      rw [q.2, hw] at e
      exact absurd e (by decide)
    refine lin_0 hJ hl0 _ c (fun y1 M1 e1 q1 h3 => absurd h3 (nz q1)) (fun _ M1 => QX u n (perS0 u n H p) M1) (fun y1 M1 e1 q1 h3 => ?_) (fun y1 M1 e1 q1 h3 M5 e5 q5 => ?_)
    · obtain ⟨rfl, _⟩ := q1
      exact rdp_c hl0 hJ hB hg hI hN
    · obtain ⟨rfl, _⟩ := q1
      exact lin_e hl0 hJ e5 (RB_l hB q5.1) q5
theorem lin_c (hl0 : l.1.stackTraces = false) (hJ : ∀ e ∈ RM, M.2.2 e.1 e.2.1 = e.2.2) (hB : RB n u M) (hg : gS u n p M) (hI : HI H) (hN : nHo H M) : AC l (pI pg 181) (fcV M (QX u n (linS u n H p) M)) 0 0 [.ref 58] SHF M := by
  refine fw_of hl0 ⟨by decide +kernel, by decide +kernel, by decide +kernel⟩ rfl ?_
  exact lin_0e hl0 hJ hB hg hI hN
end LN
