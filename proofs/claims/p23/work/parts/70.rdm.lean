/-! THE REFERENCE'S HOUSE in the making -/
def nHo (H : HS) (M : aM) : Prop := (M.1 58 23 = nI H.pe) ∧ (M.1 58 24 = nI H.wo) ∧ (M.1 58 25 = nI H.te) ∧ (M.1 58 26 = nI H.fo) ∧ (M.1 58 27 = nI (smF H.ch H.pe)) ∧ (M.1 58 28 = 0 ↔ H.fo = 0) ∧ (∀ i, i < H.pe → M.1 67 i = nI (H.ho i)) ∧ (∀ i, i < H.pe → M.1 68 i = nI (H.ch i)) ∧ (∀ w, w < H.wo → M.1 69 w = nI (H.be w)) ∧ (∀ w, w < H.wo → M.1 70 w = nI (H.le w)) ∧ (∀ i w, i < H.pe → w < H.wo → M.1 71 (8 * i + w) = nI (H.sk (8 * i + w))) ∧ (∀ k, k < H.te → M.1 72 (4 * k) = nI (H.t0 k)) ∧ (∀ k, k < H.te → M.1 72 (4 * k + 1) = nI (H.t1 k)) ∧ (∀ k, k < H.te → M.1 72 (4 * k + 2) = nI (H.t2 k)) ∧ (∀ k, k < H.te → M.1 72 (4 * k + 3) = nI (H.t3 k))
theorem nHo.pe {H : HS} {M : aM} (h : nHo H M) : M.1 58 23 = nI H.pe := h.1
theorem nHo.wo {H : HS} {M : aM} (h : nHo H M) : M.1 58 24 = nI H.wo := h.2.1
theorem nHo.te {H : HS} {M : aM} (h : nHo H M) : M.1 58 25 = nI H.te := h.2.2.1
theorem nHo.fo {H : HS} {M : aM} (h : nHo H M) : M.1 58 26 = nI H.fo := h.2.2.2.1
theorem nHo.sm {H : HS} {M : aM} (h : nHo H M) : M.1 58 27 = nI (smF H.ch H.pe) := h.2.2.2.2.1
theorem nHo.hf {H : HS} {M : aM} (h : nHo H M) : M.1 58 28 = 0 ↔ H.fo = 0 := h.2.2.2.2.2.1
theorem nHo.ho {H : HS} {M : aM} (h : nHo H M) : ∀ i, i < H.pe → M.1 67 i = nI (H.ho i) := h.2.2.2.2.2.2.1
theorem nHo.ch {H : HS} {M : aM} (h : nHo H M) : ∀ i, i < H.pe → M.1 68 i = nI (H.ch i) := h.2.2.2.2.2.2.2.1
theorem nHo.be {H : HS} {M : aM} (h : nHo H M) : ∀ w, w < H.wo → M.1 69 w = nI (H.be w) := h.2.2.2.2.2.2.2.2.1
theorem nHo.le {H : HS} {M : aM} (h : nHo H M) : ∀ w, w < H.wo → M.1 70 w = nI (H.le w) := h.2.2.2.2.2.2.2.2.2.1
theorem nHo.sk {H : HS} {M : aM} (h : nHo H M) : ∀ i w, i < H.pe → w < H.wo → M.1 71 (8 * i + w) = nI (H.sk (8 * i + w)) := h.2.2.2.2.2.2.2.2.2.2.1
theorem nHo.t0 {H : HS} {M : aM} (h : nHo H M) : ∀ k, k < H.te → M.1 72 (4 * k) = nI (H.t0 k) := h.2.2.2.2.2.2.2.2.2.2.2.1
theorem nHo.t1 {H : HS} {M : aM} (h : nHo H M) : ∀ k, k < H.te → M.1 72 (4 * k + 1) = nI (H.t1 k) := h.2.2.2.2.2.2.2.2.2.2.2.2.1
theorem nHo.t2 {H : HS} {M : aM} (h : nHo H M) : ∀ k, k < H.te → M.1 72 (4 * k + 2) = nI (H.t2 k) := h.2.2.2.2.2.2.2.2.2.2.2.2.2.1
theorem nHo.t3 {H : HS} {M : aM} (h : nHo H M) : ∀ k, k < H.te → M.1 72 (4 * k + 3) = nI (H.t3 k) := h.2.2.2.2.2.2.2.2.2.2.2.2.2.2
theorem nHo.of {H : HS} {M : aM} (pe : M.1 58 23 = nI H.pe) (wo : M.1 58 24 = nI H.wo) (te : M.1 58 25 = nI H.te) (fo : M.1 58 26 = nI H.fo) (sm : M.1 58 27 = nI (smF H.ch H.pe)) (hf : M.1 58 28 = 0 ↔ H.fo = 0) (ho : ∀ i, i < H.pe → M.1 67 i = nI (H.ho i)) (ch : ∀ i, i < H.pe → M.1 68 i = nI (H.ch i)) (be : ∀ w, w < H.wo → M.1 69 w = nI (H.be w)) (le : ∀ w, w < H.wo → M.1 70 w = nI (H.le w)) (sk : ∀ i w, i < H.pe → w < H.wo → M.1 71 (8 * i + w) = nI (H.sk (8 * i + w))) (t0 : ∀ k, k < H.te → M.1 72 (4 * k) = nI (H.t0 k)) (t1 : ∀ k, k < H.te → M.1 72 (4 * k + 1) = nI (H.t1 k)) (t2 : ∀ k, k < H.te → M.1 72 (4 * k + 2) = nI (H.t2 k)) (t3 : ∀ k, k < H.te → M.1 72 (4 * k + 3) = nI (H.t3 k)) : nHo H M := ⟨pe, wo, te, fo, sm, hf, ho, ch, be, le, sk, t0, t1, t2, t3⟩
theorem nHo_g {H : HS} {M M1 : aM} (h : nHo H M) (hF : grF M M1) : nHo H M1 := by
  have g : ∀ k, 23 ≤ k → M1.1 58 k = M.1 58 k := fun k hk => hF.1 58 k (fun _ => by omega)
  have a : ∀ b k, b ≠ 58 → M1.1 b k = M.1 b k := fun b k hb => hF.1 b k (fun e => absurd e hb)
  refine nHo.of ((g 23 (by decide)).trans h.pe) ((g 24 (by decide)).trans h.wo) ((g 25 (by decide)).trans h.te) ((g 26 (by decide)).trans h.fo) ((g 27 (by decide)).trans h.sm) ?_ (fun i hi => (a 67 _ (by decide)).trans (h.ho i hi)) (fun i hi => (a 68 _ (by decide)).trans (h.ch i hi)) (fun i hi => (a 69 _ (by decide)).trans (h.be i hi)) (fun i hi => (a 70 _ (by decide)).trans (h.le i hi)) (fun i w hi hw => (a 71 _ (by decide)).trans (h.sk i w hi hw)) (fun i hi => (a 72 _ (by decide)).trans (h.t0 i hi)) (fun i hi => (a 72 _ (by decide)).trans (h.t1 i hi)) (fun i hi => (a 72 _ (by decide)).trans (h.t2 i hi)) (fun i hi => (a 72 _ (by decide)).trans (h.t3 i hi))
  rw [g 28 (by decide)]
  exact h.hf
def lnF (M M' : aM) : Prop := (∀ a k, (a = 58 → k ≠ 13 ∧ k ≠ 14 ∧ (k < 17 ∨ 28 < k) ∧ k ≠ 35 ∧ k ≠ 36) → (a < 67 ∨ 72 < a) → M'.1 a k = M.1 a k) ∧ ∀ a k, (a = 58 → k ≠ 22) → M'.2.1 a k = M.2.1 a k
theorem lnF_rfl {M : aM} : lnF M M := ⟨fun _ _ _ _ => rfl, fun _ _ _ => rfl⟩
theorem lnF_trans {M M1 M2 : aM} (h1 : lnF M M1) (h2 : lnF M1 M2) : lnF M M2 := ⟨fun a k g1 g2 => (h2.1 a k g1 g2).trans (h1.1 a k g1 g2), fun a k hk => (h2.2 a k hk).trans (h1.2 a k hk)⟩
theorem lnF_g {M M1 : aM} (h : grF M M1) : lnF M M1 := ⟨fun a k g1 _ => h.1 a k (fun e => ⟨(g1 e).1, (g1 e).2.1, by have := (g1 e).2.2.1; omega⟩), h.2⟩
theorem lnF_5 {M M1 : aM} {k0 : Nat} {x : Int32} (h : lnF M M1) (h0 : (23 ≤ k0 ∧ k0 ≤ 28) ∨ k0 = 35 ∨ k0 = 36) : lnF M (aset M1 58 k0 (.int x)) := ⟨fun a k g1 g2 => by
  rw [set_1]
  by_cases e : a = 58
  · have h3 := g1 e
    rw [if_pos e, if_neg (by omega)]
    exact h.1 a k g1 g2
  · rw [if_neg e]
    exact h.1 a k g1 g2, h.2⟩
theorem lnF_a {M M1 : aM} {b k0 : Nat} {x : Int32} (h : lnF M M1) (h0 : 67 ≤ b ∧ b ≤ 72) : lnF M (aset M1 b k0 (.int x)) := ⟨fun a k g1 g2 => by
  rw [set_1, if_neg (by omega)]
  exact h.1 a k g1 g2, h.2⟩
theorem stAt_eq {u : Nat → Nat} {n p : Nat} {M M1 : aM} (h : stAt u n p M) (h17 : M1.1 58 17 = M.1 58 17) (h18 : M1.1 58 18 = M.1 58 18) (h19 : M1.1 58 19 = M.1 58 19) (h20 : M1.1 58 20 = M.1 58 20) (h21 : M1.1 58 21 = M.1 58 21) (h22 : M1.2.1 58 22 = M.2.1 58 22) : stAt u n p M1 := ⟨h19.trans h.1, h18.trans h.2.1, h17.trans h.2.2.1, h20.trans h.2.2.2.1, fun e => h21.trans (h.2.2.2.2.1 e), fun e => h22.trans (h.2.2.2.2.2 e)⟩
theorem rS_eq {u : Nat → Nat} {n : Nat} {σ : Flt ⊕ Nat} {M M1 : aM} (h : rS u n σ M) (h13 : M1.1 58 13 = M.1 58 13) (h14 : M1.1 58 14 = M.1 58 14) (h17 : M1.1 58 17 = M.1 58 17) (h18 : M1.1 58 18 = M.1 58 18) (h19 : M1.1 58 19 = M.1 58 19) (h20 : M1.1 58 20 = M.1 58 20) (h21 : M1.1 58 21 = M.1 58 21) (h22 : M1.2.1 58 22 = M.2.1 58 22) : rS u n σ M1 := ⟨fun f hf => ⟨h13.trans (h.1 f hf).1, h14.trans (h.1 f hf).2.1, (h.1 f hf).2.2⟩, fun p hp => ⟨h13.trans (h.2 p hp).1, h14.trans (h.2 p hp).2.1, (h.2 p hp).2.2.1, stAt_eq (h.2 p hp).2.2.2 h17 h18 h19 h20 h21 h22⟩⟩
theorem RB_eq {u : Nat → Nat} {n : Nat} {M M1 : aM} (h : RB n u M) (h16 : M1.1 58 16 = M.1 58 16) (h65 : ∀ i, M1.1 65 i = M.1 65 i) : RB n u M1 := ⟨h.1, h.2.1, h16.trans h.2.2.1, fun i hi => (h65 i).trans (h.2.2.2 i hi)⟩
/-- where a result leaves the text -/
def posN (τ : Flt ⊕ (Nat × Nat)) : Flt ⊕ Nat := bnd τ fun a => .inr a.2
theorem rS_N {u : Nat → Nat} {n : Nat} {τ : Flt ⊕ (Nat × Nat)} {M M1 : aM} {y : Int32} (h : QN u n τ M y M1) : rS u n (posN τ) M1 := by
  cases τ with
  | inl f => exact ⟨fun g hg => by cases hg; exact h.2.1 f rfl, fun p hp => by cases hp⟩
  | inr a => exact ⟨fun g hg => (by cases hg), fun p hp => by cases hp; exact (h.2.2 a rfl).2⟩
theorem gS_r {u : Nat → Nat} {n p : Nat} {M : aM} (h : gS u n p M) : rS u n (.inr p) M := ⟨fun g hg => (by cases hg), fun q hq => by cases hq; exact h⟩
def QX (u : Nat → Nat) (n : Nat) (τ : Flt ⊕ (HS × Nat)) (M : aM) : aM → Prop := fun M' => lnF M M' ∧ (∀ f, τ = .inl f → bS f M') ∧ ∀ a, τ = .inr a → gS u n a.2 M' ∧ nHo a.1 M'
def worS0 (u : Nat → Nat) (n : Nat) (H : HS) (p : Nat) : Flt ⊕ (HS × Nat) := if 8 ≤ H.wo then .inl (2, tS u n p) else bnd (numS u n 0 23 (tEe u n p)) fun a => bnd (numS u n 1 (min 8 (24 - a.1)) a.2) fun b => .inr (addW H a.1 b.1, b.2)
section RW
variable {l : aL} {M : aM} {n p : Nat} {u : Nat → Nat} {H : HS}
/-- the new work's column is cleared, the work counted -/
theorem rdw_e (hl0 : l.1.stackTraces = false) (hJ : ∀ e ∈ RM, M.2.2 e.1 e.2.1 = e.2.2) (hI : HI H) (hw : H.wo < 8) {τ : Flt ⊕ (Nat × Nat)} {x : Nat} : ∀ (d i : Nat) (M1 : aM), i + d = 6 → M1.2.2 = M.2.2 → lnF M M1 → M1.1 58 24 = nI H.wo → rS u n (posN τ) M1 → (∀ a, τ = .inr a → nHo H M1 ∧ M1.1 69 H.wo = nI x ∧ M1.1 70 H.wo = nI a.1) → (∀ j, j < i → M1.1 71 (8 * j + H.wo) = nI 0) → AW l (pI pg 187) (fcV M (QX u n (bnd τ fun b => .inr (addW H x b.1, b.2)) M)) 0 0 92 [(0, .ref 58), (1, .int (nI i))] [] SHF M1 := by
  have hp6 := hI.pe
  intro d
  induction d with
  | zero =>
    intro i M1 hi e1 hF h24 hs hn hz
    have i6 : i = 6 := by omega
    subst i6
    have le : (Int8.ofInt 6).toInt32 ≤ nI 6 := by decide
    have hJ1 : ∀ e ∈ RM, M1.2.2 e.1 e.2.1 = e.2.2 := by rw [e1]; exact hJ
    refine rdw_92 hJ1 hl0 (fun _ => ?_) (fun h => absurd le h) (fun h => absurd le h)
    cases τ with
    | inl f =>
      have hb := hs.1 f rfl
      have z : gdV (M1.1 58 13) = 0 := gdz.mpr (bS_nz hb)
      refine rdw_119 hJ1 hl0 (fun _ => ⟨rfl, e1, rfl, hF, fun g hg => ?_, fun a ha => ?_⟩) (fun h => absurd z h)
      · cases hg
        exact hb
      · cases ha
    | inr a =>
      have hg := hs.2 a.2 rfl
      have z : ¬ gdV (M1.1 58 13) = 0 := fun h => gdz.mp h hg.1
      obtain ⟨hN, h69, h70⟩ := hn a rfl
      refine rdw_119 hJ1 hl0 (fun h => absurd h z) (fun _ => ⟨rfl, e1, rfl, lnF_5 hF (by decide), fun g hg => ?_, fun b hb => ?_⟩)
      · cases hg
      · cases hb
        refine ⟨⟨hg.1, hg.2.1, hg.2.2.1, stAt_eq hg.2.2.2 rfl rfl rfl rfl rfl rfl⟩, nHo.of hN.pe ?_ hN.te hN.fo hN.sm hN.hf hN.ho hN.ch (fun w hw2 => ?_) (fun w hw2 => ?_) (fun j w hj hw2 => ?_) hN.t0 hN.t1 hN.t2 hN.t3⟩
        · show M1.1 58 24 + Int32.ofInt 1 = nI (H.wo + 1)
          rw [h24]
          exact nI_1 _
        · show M1.1 69 w = nI (npd H.be H.wo x w)
          have hw3 : w < H.wo + 1 := hw2
          by_cases e : w = H.wo
          · rw [e, npd_eq]
            exact h69
          · rw [npd_ne e]
            exact hN.be w (by omega)
        · show M1.1 70 w = nI (npd H.le H.wo a.1 w)
          have hw3 : w < H.wo + 1 := hw2
          by_cases e : w = H.wo
          · rw [e, npd_eq]
            exact h70
          · rw [npd_ne e]
            exact hN.le w (by omega)
        · show M1.1 71 (8 * j + w) = nI (H.sk (8 * j + w))
          have hw3 : w < H.wo + 1 := hw2
          have hj3 : j < H.pe := hj
          by_cases e : w = H.wo
          · rw [e, hz j (by omega)]
            have q := (hI.sk j H.wo (by omega) hw).2
            have q2 : H.sk (8 * j + H.wo) = 0 := by
              by_cases e2 : H.sk (8 * j + H.wo) = 0
              · exact e2
              · have := (q (by omega)).2
                omega
            rw [q2]
          · exact hN.sk j w hj3 (by omega)
  | succ d ih =>
    intro i M1 hi e1 hF h24 hs hn hz
    have hJ1 : ∀ e ∈ RM, M1.2.2 e.1 e.2.1 = e.2.2 := by rw [e1]; exact hJ
    have gt : ¬ (Int8.ofInt 6).toInt32 ≤ nI i := by
      rw [show (Int8.ofInt 6).toInt32 = nI 6 by decide, nI_leI (by decide) (by omega)]
      omega
    have ix : (Int8.ofInt 8).toInt32 * nI i + M1.1 58 24 = nI (8 * i + H.wo) := by rw [h24, show (Int8.ofInt 8).toInt32 = nI 8 by decide, nI_mulN, nI_add]
    have ei : nI i + Int32.ofInt 1 = nI (i + 1) := nI_1 _
    refine rdw_92 hJ1 hl0 (fun h => absurd h gt) (fun _ => ?_) (fun _ => ?_)
    · rw [ix]
      exact vp_in_nI (by omega) (by decide)
    · rw [ix, ei, nI_clamp (by omega)]
      refine ih (i + 1) _ (by omega) e1 (lnF_a hF (by decide)) h24 (rS_eq hs rfl rfl rfl rfl rfl rfl rfl rfl) (fun a ha => ?_) (fun j hj => ?_)
      · obtain ⟨hN, h69, h70⟩ := hn a ha
        refine ⟨nHo.of hN.pe hN.wo hN.te hN.fo hN.sm hN.hf hN.ho hN.ch hN.be hN.le (fun j w hj hw2 => ?_) hN.t0 hN.t1 hN.t2 hN.t3, h69, h70⟩
        rw [set_1, if_pos rfl, if_neg (by omega)]
        exact hN.sk j w hj hw2
      · rw [set_1, if_pos rfl]
        by_cases e : j = i
        · rw [if_pos (by omega)]
          rfl
        · rw [if_neg (by omega)]
          exact hz j (by omega)
/-- the length -/
theorem rdw_m (hl0 : l.1.stackTraces = false) (hJ : ∀ e ∈ RM, M.2.2 e.1 e.2.1 = e.2.2) (hI : HI H) (hw : H.wo < 8) {σ : Flt ⊕ (Nat × Nat)} {M1 : aM} (e1 : M1.2.2 = M.2.2) (hB : RB n u M1) (hF : lnF M M1) (h24 : M1.1 58 24 = nI H.wo) (hs : rS u n (posN σ) M1) (hn : ∀ a, σ = .inr a → a.1 ≤ 23 ∧ nHo H M1 ∧ M1.1 69 H.wo = nI a.1) : AW l (pI pg 187) (fcV M (QX u n (bnd σ fun a => bnd (numS u n 1 (min 8 (24 - a.1)) a.2) fun b => .inr (addW H a.1 b.1, b.2)) M)) 0 0 42 [(0, .ref 58)] [] SHF M1 := by
  have hJ1 : ∀ e ∈ RM, M1.2.2 e.1 e.2.1 = e.2.2 := by rw [e1]; exact hJ
  have e24 : (M1.1 58 24).toNatClampNeg = H.wo := by rw [h24, nI_clamp (by omega)]
  have vp : vp_in (M1.1 58 24) 8 := by rw [h24]; exact vp_in_nI hw (by decide)
  cases σ with
  | inl f =>
    have hb := hs.1 f rfl
    have nx : ∀ {y : Int32} {M3 : aM}, M3.2.2 = M1.2.2 → ((Int32.ofInt 0 : Int32) = y ∧ M1 = M3) → AW l (pI pg 187) (fcV M (QX u n (.inl f) M)) 0 0 92 [(0, .ref 58), (1, .int (Int32.ofInt 0))] [] SHF (aset M3 70 (M1.1 58 24).toNatClampNeg (.int y)) := fun {y M3} e3 q3 => by
      obtain ⟨rfl, rfl⟩ := q3
      exact rdw_e (τ := .inl f) (x := 0) hl0 hJ hI hw 6 0 _ rfl e1 (lnF_a hF (by decide)) h24 (rS_eq (σ := .inl f) hs rfl rfl rfl rfl rfl rfl rfl rfl) (fun a ha => by cases ha) (fun j hj => absurd hj (Nat.not_lt_zero _))
    exact rdw_42 hJ1 hl0 vp (fun y M3 => Int32.ofInt 0 = y ∧ M1 = M3) (fun _ => nrm_b hl0 hJ1 (bS_nz hb)) (fun _ y3 M3 e3 q3 => nx e3 q3) (fun y M3 => Int32.ofInt 0 = y ∧ M1 = M3) (fun _ => nrm_b hl0 hJ1 (bS_nz hb)) (fun _ y3 M3 e3 q3 => nx e3 q3)
  | inr a =>
    obtain ⟨ha, hN, h69⟩ := hn a rfl
    have e69 : M1.1 69 (M1.1 58 24).toNatClampNeg = nI a.1 := by rw [e24]; exact h69
    have sb : (Int8.ofInt 24).toInt32 - M1.1 69 (M1.1 58 24).toNatClampNeg = nI (24 - a.1) := by rw [e69, show (Int8.ofInt 24).toInt32 = nI 24 by decide, nI_subN (by omega) (by decide)]
    have nx : ∀ {y : Int32} {M3 : aM}, M3.2.2 = M1.2.2 → QN u n (numS u n 1 (min 8 (24 - a.1)) a.2) M1 y M3 → AW l (pI pg 187) (fcV M (QX u n (bnd (numS u n 1 (min 8 (24 - a.1)) a.2) fun b => .inr (addW H a.1 b.1, b.2)) M)) 0 0 92 [(0, .ref 58), (1, .int (Int32.ofInt 0))] [] SHF (aset M3 70 (M1.1 58 24).toNatClampNeg (.int y)) := fun {y M3} e3 q3 => by
      have h24' : M3.1 58 24 = nI H.wo := (q3.1.1 58 24 (fun _ => by decide)).trans h24
      refine rdw_e (x := a.1) hl0 hJ hI hw 6 0 _ rfl (e3.trans e1) (lnF_a (lnF_trans hF (lnF_g q3.1)) (by decide)) h24' (rS_eq (rS_N q3) rfl rfl rfl rfl rfl rfl rfl rfl) (fun b hb => ?_) (fun j hj => absurd hj (Nat.not_lt_zero _))
      have hN3 := nHo_g hN q3.1
      rw [e24]
      refine ⟨nHo.of hN3.pe hN3.wo hN3.te hN3.fo hN3.sm hN3.hf hN3.ho hN3.ch hN3.be (fun w hw2 => ?_) hN3.sk hN3.t0 hN3.t1 hN3.t2 hN3.t3, (q3.1.1 69 H.wo (fun e => absurd e (by decide))).trans h69, ?_⟩
      · rw [set_1, if_pos rfl, if_neg (by omega)]
        exact hN3.le w hw2
      · rw [set_1, if_pos rfl, if_pos rfl]
        exact (q3.2.2 b hb).1
    have c : ∀ {y : Int32}, y = nI (min 8 (24 - a.1)) → AC l (pI pg 186) (fcI M1 (QN u n (numS u n 1 (min 8 (24 - a.1)) a.2) M1)) 0 0 [.ref 58, .int (Int32.ofInt 1), .int y] SHF M1 := fun {y} hy => nrm_s hl0 hJ1 hB (σ := .inr a.2) hs (lo := 1) (hi := min 8 (24 - a.1)) (by decide) (by omega) (by decide) hy
    refine rdw_42 hJ1 hl0 vp (QN u n (numS u n 1 (min 8 (24 - a.1)) a.2) M1) (fun h => c ?_) (fun _ y3 M3 e3 q3 => nx e3 q3) (QN u n (numS u n 1 (min 8 (24 - a.1)) a.2) M1) (fun h => c ?_) (fun _ y3 M3 e3 q3 => nx e3 q3)
    · rw [sb, show (Int8.ofInt 8).toInt32 = nI 8 by decide, nI_leI (by decide) (by omega)] at h
      rw [Nat.min_eq_left h]
      decide
    · rw [sb, show (Int8.ofInt 8).toInt32 = nI 8 by decide, nI_leI (by decide) (by omega)] at h
      rw [sb, Nat.min_eq_right (by omega)]
theorem rdw_c (hl0 : l.1.stackTraces = false) (hJ : ∀ e ∈ RM, M.2.2 e.1 e.2.1 = e.2.2) (hB : RB n u M) (hg : gS u n p M) (hI : HI H) (hN : nHo H M) : AC l (pI pg 187) (fcV M (QX u n (worS0 u n H p) M)) 0 0 [.ref 58] SHF M := by
  refine fw_of hl0 ⟨by decide +kernel, by decide +kernel, by decide +kernel⟩ rfl ?_
  have hw8 := hI.wo
  have eq8 : M.1 58 24 = (Int8.ofInt 8).toInt32 ↔ H.wo = 8 := by
    rw [hN.wo]
    exact ⟨fun e => nI_injN (b := 8) (by omega) (by decide) e, fun e => by rw [e]; decide⟩
  by_cases hc : H.wo < 8
  · rw [worS0, if_neg (by omega)]
    have z : ¬ gdV (M.1 58 13) = 0 := fun h => gdz.mp h hg.1
    have b2 : tEe u n p ≤ n := tE_le' hg.2.2.1
    have e17 : M.1 58 17 = nI (tEe u n p) := hg.2.2.2.2.2.1
    refine rdw_0 hJ hl0 (fun _ => ?_) (fun h => absurd (eq8.mp h) (by omega))
    refine rdw_14 hJ hl0 (QS u n (tEe u n p) M) (fun _ => stp_c hl0 hJ hB b2 e17) (fun M3 => QN u n (numS u n 0 23 (tEe u n p)) M3) (fun _ M3 e3 q3 => nrm_s hl0 (by rw [e3]; exact hJ) (RB_F hB q3.2) (σ := .inr (tEe u n p)) (gS_r (gS_s hg b2 q3)) (lo := 0) (hi := 23) (by decide) (by decide) (by decide) (by decide)) (fun _ M3 e3 q3 y5 M5 e5 q5 => ?_) (fun _ M3 e3 q3 y5 M5 e5 q5 => ?_) (fun h => absurd h z)
    · rw [(q3.2.1 58 24 (fun _ => by decide)).trans hN.wo]
      exact vp_in_nI hc (by decide)
    · have h24 : M3.1 58 24 = nI H.wo := (q3.2.1 58 24 (fun _ => by decide)).trans hN.wo
      have c24 : (M3.1 58 24).toNatClampNeg = H.wo := by rw [h24, nI_clamp (by omega)]
      have G : grF M M5 := grF_trans (grF_s q3.2) q5.1
      have hN5 := nHo_g hN G
      rw [c24]
      refine rdw_m hl0 hJ hI hc (e5.trans e3) (RB_eq (RB_G hB G) rfl (fun _ => rfl)) (lnF_a (lnF_g G) (by decide)) hN5.wo (rS_eq (rS_N q5) rfl rfl rfl rfl rfl rfl rfl rfl) (fun a ha => ⟨(numS_ok ha).2.1, ?_, ?_⟩)
      · refine nHo.of hN5.pe hN5.wo hN5.te hN5.fo hN5.sm hN5.hf hN5.ho hN5.ch (fun w hw2 => ?_) hN5.le hN5.sk hN5.t0 hN5.t1 hN5.t2 hN5.t3
        rw [set_1, if_pos rfl, if_neg (by omega)]
        exact hN5.be w hw2
      · rw [set_1, if_pos rfl, if_pos rfl]
        exact (q5.2.2 a ha).1
  · rw [worS0, if_pos (by omega)]
    have wb := wg_b (k := 2) (x := Int32.ofInt 2) hg (by decide) (by decide) (by decide)
    have z : gdV ((wgM M (Int32.ofInt 2)).1 58 13) = 0 := gdz.mpr (bS_nz wb)
    refine rdw_0 hJ hl0 (fun h => absurd (eq8.mpr (by omega)) h) (fun _ => ?_)
    refine rdw_14 (by rw [wgM_2]; exact hJ) hl0 (fun _ => True) (fun h => absurd z h) (fun _ _ _ => True) (fun h => absurd z h) (fun h => absurd z h) (fun h => absurd z h) (fun _ => ⟨rfl, wgM_2, rfl, lnF_g grF_w, fun f hf => ?_, fun a ha => ?_⟩)
    · cases hf
      exact wb
    · cases ha
end RW
