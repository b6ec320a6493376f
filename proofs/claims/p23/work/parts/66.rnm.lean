/-! NUMBERS of the reference: a state is a fault, or the token from p on is at hand -/
def gS (u : Nat → Nat) (n p : Nat) (M : aM) : Prop := M.1 58 13 = 0 ∧ M.1 58 14 = Int32.ofInt (-1) ∧ p ≤ n ∧ stAt u n p M
def bS (f : Flt) (M : aM) : Prop := M.1 58 13 = nI f.1 ∧ M.1 58 14 = nI f.2 ∧ 1 ≤ f.1 ∧ f.1 ≤ 5
def rS (u : Nat → Nat) (n : Nat) (σ : Flt ⊕ Nat) (M : aM) : Prop := (∀ f, σ = .inl f → bS f M) ∧ ∀ p, σ = .inr p → gS u n p M
def grF (M M' : aM) : Prop := (∀ a k, (a = 58 → k ≠ 13 ∧ k ≠ 14 ∧ (k < 17 ∨ 21 < k)) → M'.1 a k = M.1 a k) ∧ ∀ a k, (a = 58 → k ≠ 22) → M'.2.1 a k = M.2.1 a k
theorem grF_rfl {M : aM} : grF M M := ⟨fun _ _ _ => rfl, fun _ _ _ => rfl⟩
theorem grF_trans {M M1 M2 : aM} (h1 : grF M M1) (h2 : grF M1 M2) : grF M M2 := ⟨fun a k hk => (h2.1 a k hk).trans (h1.1 a k hk), fun a k hk => (h2.2 a k hk).trans (h1.2 a k hk)⟩
theorem grF_s {M M1 : aM} (h : stF M M1) : grF M M1 := ⟨fun a k hk => h.1 a k (fun e => (hk e).2.2), h.2⟩
theorem grF_w {M : aM} {x : Int32} : grF M (wgM M x) := by
  unfold wgM
  split
  · refine ⟨fun a k hk => ?_, fun _ _ _ => rfl⟩
    rw [set_1]
    by_cases e : a = 58
    · have h := hk e
      rw [if_pos e, if_neg h.2.1, set_1, if_pos e, if_neg h.1]
    · rw [if_neg e, set_1, if_neg e]
  · exact grF_rfl
theorem RB_G {n : Nat} {u : Nat → Nat} {M M1 : aM} (h : RB n u M) (hF : grF M M1) : RB n u M1 := ⟨h.1, h.2.1, (hF.1 58 16 (fun _ => by decide)).trans h.2.2.1, fun i hi => (hF.1 65 i (fun e => absurd e (by decide))).trans (h.2.2.2 i hi)⟩
theorem gd_1 {x : Int32} (h : x = 0) : gdV x = Int32.ofInt 1 := if_pos h
theorem gd_0 {x : Int32} (h : ¬ x = 0) : gdV x = Int32.ofInt 0 := if_neg h
theorem gdz {x : Int32} : gdV x = 0 ↔ ¬ x = 0 := by
  by_cases e : x = 0
  · rw [gd_1 e]
    exact ⟨fun h => absurd h (by decide), fun h => absurd e h⟩
  · rw [gd_0 e]
    exact ⟨fun _ => e, fun _ => rfl⟩
theorem bS_nz {f : Flt} {M : aM} (h : bS f M) : ¬ M.1 58 13 = 0 := fun e => by
  rw [h.1] at e
  have h3 := h.2.2.1
  have h4 := h.2.2.2
  have := nI_injN (b := 0) (by omega) (by decide) e
  omega
theorem wg_b {u : Nat → Nat} {n p k : Nat} {x : Int32} {M : aM} (hg : gS u n p M) (hx : x = nI k) (h1 : 1 ≤ k) (h2 : k ≤ 5) : bS (k, tS u n p) (wgM M x) := by
  subst hx
  rw [wgM, if_pos hg.1]
  exact ⟨rfl, hg.2.2.2.1, h1, h2⟩
/-- a step on -/
theorem gS_s {u : Nat → Nat} {n p q : Nat} {M M1 : aM} (hg : gS u n p M) (hq : q ≤ n) (h : QS u n q M M1) : gS u n q M1 := ⟨(h.2.1 58 13 (fun _ => by decide)).trans hg.1, (h.2.1 58 14 (fun _ => by decide)).trans hg.2.1, hq, h.1⟩
def QN (u : Nat → Nat) (n : Nat) (τ : Flt ⊕ (Nat × Nat)) (M : aM) : Int32 → aM → Prop := fun y M' => grF M M' ∧ (∀ f, τ = .inl f → bS f M') ∧ ∀ a, τ = .inr a → y = nI a.1 ∧ gS u n a.2 M'
section NR
variable {l : aL} {M : aM} {n p : Nat} {u : Nat → Nat}
theorem nrm_b (hl0 : l.1.stackTraces = false) (hJ : ∀ e ∈ RM, M.2.2 e.1 e.2.1 = e.2.2) (hb : ¬ M.1 58 13 = 0) {x y : Int32} : AC l (pI pg 186) (pvI M (Int32.ofInt 0)) 0 0 [.ref 58, .int x, .int y] SHF M := by
  refine fw_of hl0 ⟨by decide +kernel, by decide +kernel, by decide +kernel⟩ rfl ?_
  have z : gdV (M.1 58 13) = 0 := gdz.mpr hb
  exact nrm_0 hJ hl0 (fun h => absurd z h) (fun h => absurd z h) (fun h => absurd z h) (fun h => absurd z h) (fun h => absurd z h) (fun _ => pvI_of)
theorem nrm_c (hl0 : l.1.stackTraces = false) (hJ : ∀ e ∈ RM, M.2.2 e.1 e.2.1 = e.2.2) (hB : RB n u M) (hg : gS u n p M) {lo hi : Nat} (hlo : lo ≤ 9999) (hhi : hi ≤ 9999) : AC l (pI pg 186) (fcI M (QN u n (numS u n lo hi p) M)) 0 0 [.ref 58, .int (nI lo), .int (nI hi)] SHF M := by
  refine fw_of hl0 ⟨by decide +kernel, by decide +kernel, by decide +kernel⟩ rfl ?_
  have n8 := hB.1
  have hp := hg.2.2.1
  have b1 : tS u n p ≤ tEe u n p := tkE_ge
  have b2 : tEe u n p ≤ n := tE_le' hp
  have h4 : tK u n p ≤ 4 := tkK_le
  have e18 : M.1 58 18 = nI (tK u n p) := hg.2.2.2.2.1
  have e17 : M.1 58 17 = nI (tEe u n p) := hg.2.2.2.2.2.1
  have e20 : M.1 58 20 = nI (tEe u n p - tS u n p) := hg.2.2.2.2.2.2.1
  have k2 : M.1 58 18 = Int32.ofInt 2 ↔ tK u n p = 2 := by
    rw [e18]
    exact ⟨fun e => nI_injN (b := 2) (by omega) (by decide) e, fun e => by rw [e]; rfl⟩
  have l4 : Int32.ofInt 4 < M.1 58 20 ↔ 4 < tEe u n p - tS u n p := by
    rw [e20, show (Int32.ofInt 4 : Int32) = nI 4 by decide, nI_ltI (by decide) (by omega)]
  have vv : tK u n p = 2 → tEe u n p - tS u n p ≤ 4 → M.1 58 21 = nI (vlF u (tS u n p) (tEe u n p - tS u n p)) := fun h1 h2 => by
    have h3 := hg.2.2.2.2.2.2.2.1 h1
    rw [h3]
    show nI (vlF u (tS u n p) (min (tEe u n p - tS u n p) 4)) = _
    rw [Nat.min_eq_left h2]
  have z : ¬ gdV (M.1 58 13) = 0 := fun h => gdz.mp h hg.1
  have bad : ∀ (k : Nat) (x : Int32), x = nI k → 1 ≤ k → k ≤ 5 → numS u n lo hi p = .inl (k, tS u n p) → AW l (pI pg 186) (fcI M (QN u n (numS u n lo hi p) M)) 0 0 54 [(0, .ref 58)] [] SHF (wgM M x) := fun k x hx h1 h2 hr => by
    have wb := wg_b hg hx h1 h2
    have z2 : gdV ((wgM M x).1 58 13) = 0 := gdz.mpr (bS_nz wb)
    refine nrm_54 (by rw [wgM_2]; exact hJ) hl0 (fun _ => ⟨rfl, wgM_2, _, rfl, grF_w, fun f hf => ?_, fun a ha => ?_⟩) (fun _ => True) (fun h => absurd z2 h) (fun h => absurd z2 h)
    · rw [hr] at hf
      cases hf
      exact wb
    · rw [hr] at ha
      cases ha
  refine nrm_0 hJ hl0 (fun _ h3 h4 => ?_) (fun _ h3 h4 h7 => ?_) (fun _ h3 h4 h7 h10 => ?_) (fun _ h3 h4 h7 h10 => ?_) (fun _ h3 => ?_) (fun h => absurd h z)
  · refine bad 2 _ (by decide) (by decide) (by decide) ?_
    rw [numS, if_pos (k2.mp h3), if_neg (by have := l4.mp h4; omega)]
  · have g1 := k2.mp h3
    have g2 : tEe u n p - tS u n p ≤ 4 := by
      rw [l4] at h4
      omega
    have g3 := vl_lt g1 g2
    rw [vv g1 g2, nI_ltI (by omega) (by omega)] at h7
    refine bad 2 _ (by decide) (by decide) (by decide) ?_
    rw [numS, if_pos g1, if_pos g2, if_neg (by omega)]
  · have g1 := k2.mp h3
    have g2 : tEe u n p - tS u n p ≤ 4 := by
      rw [l4] at h4
      omega
    have g3 := vl_lt g1 g2
    rw [vv g1 g2, nI_ltI (by omega) (by omega)] at h7
    rw [vv g1 g2, nI_leI (by omega) (by omega)] at h10
    have hr : numS u n lo hi p = .inr (vlF u (tS u n p) (tEe u n p - tS u n p), tEe u n p) := by rw [numS, if_pos g1, if_pos g2, if_pos (by omega)]
    refine nrm_54 hJ hl0 (fun h => absurd h z) (QS u n (tEe u n p) M) (fun _ => stp_c hl0 hJ hB b2 e17) (fun _ M4 e4 q4 => ⟨rfl, e4, _, rfl, grF_s q4.2, fun f hf => ?_, fun a ha => ?_⟩)
    · rw [hr] at hf
      cases hf
    · rw [hr] at ha
      cases ha
      exact ⟨vv g1 g2, gS_s hg b2 q4⟩
  · have g1 := k2.mp h3
    have g2 : tEe u n p - tS u n p ≤ 4 := by
      rw [l4] at h4
      omega
    have g3 := vl_lt g1 g2
    rw [vv g1 g2, nI_leI (by omega) (by omega)] at h10
    refine bad 2 _ (by decide) (by decide) (by decide) ?_
    rw [numS, if_pos g1, if_pos g2, if_neg (by omega)]
  · refine bad 1 _ (by decide) (by decide) (by decide) ?_
    rw [numS, if_neg (fun e => h3 (k2.mpr e))]
/-- a number in whatever state -/
theorem nrm_s (hl0 : l.1.stackTraces = false) (hJ : ∀ e ∈ RM, M.2.2 e.1 e.2.1 = e.2.2) (hB : RB n u M) {σ : Flt ⊕ Nat} (hs : rS u n σ M) {lo hi : Nat} (hlo : lo ≤ 9999) (hhi : hi ≤ 9999) {x y : Int32} (hx : x = nI lo) (hy : y = nI hi) : AC l (pI pg 186) (fcI M (QN u n (bnd σ fun p => numS u n lo hi p) M)) 0 0 [.ref 58, .int x, .int y] SHF M := by
  subst hx
  subst hy
  cases σ with
  | inl f =>
    have hb := hs.1 f rfl
    refine AC.post hl0 ?_ (nrm_b hl0 hJ (bS_nz hb))
    rintro r sh' M' ⟨h1, h2, y, h3, h4, h5⟩
    subst h5
    refine ⟨h1, h2, y, h3, grF_rfl, fun g hg => ?_, fun a ha => ?_⟩
    · cases hg
      exact hb
    · cases ha
  | inr p => exact nrm_c hl0 hJ hB (hs.2 p rfl) hlo hhi
/-- amongHere: no step -/
def QM (u : Nat → Nat) (n : Nat) (σ : Flt ⊕ Nat) (m : Nat) (M : aM) : Int32 → aM → Prop := fun y M' => grF M M' ∧ (∀ f, (bnd σ fun p => idS u n m p) = .inl f → y = Int32.ofInt 0 ∧ bS f M') ∧ ∀ a, (bnd σ fun p => idS u n m p) = .inr a → y = Int32.ofInt 1 ∧ M = M' ∧ M.1 58 21 = nI a.1 ∧ M.1 58 17 = nI a.2
theorem amg_c (hl0 : l.1.stackTraces = false) (hJ : ∀ e ∈ RM, M.2.2 e.1 e.2.1 = e.2.2) (hB : RB n u M) (hg : gS u n p M) {m : Nat} (hm : m ≤ 9999) : AC l (pI pg 189) (fcI M (QM u n (.inr p) m M)) 0 0 [.ref 58, .int (nI m)] SHF M := by
  refine fw_of hl0 ⟨by decide +kernel, by decide +kernel, by decide +kernel⟩ rfl ?_
  have n8 := hB.1
  have hp := hg.2.2.1
  have b1 : tS u n p ≤ tEe u n p := tkE_ge
  have b2 : tEe u n p ≤ n := tE_le' hp
  have h4 : tK u n p ≤ 4 := tkK_le
  have e18 : M.1 58 18 = nI (tK u n p) := hg.2.2.2.2.1
  have e17 : M.1 58 17 = nI (tEe u n p) := hg.2.2.2.2.2.1
  have e20 : M.1 58 20 = nI (tEe u n p - tS u n p) := hg.2.2.2.2.2.2.1
  have k2 : M.1 58 18 = Int32.ofInt 2 ↔ tK u n p = 2 := by
    rw [e18]
    exact ⟨fun e => nI_injN (b := 2) (by omega) (by decide) e, fun e => by rw [e]; rfl⟩
  have l4 : M.1 58 20 ≤ Int32.ofInt 4 ↔ tEe u n p - tS u n p ≤ 4 := by
    rw [e20, show (Int32.ofInt 4 : Int32) = nI 4 by decide, nI_leI (by omega) (by decide)]
  have vv : tK u n p = 2 → tEe u n p - tS u n p ≤ 4 → M.1 58 21 = nI (vlF u (tS u n p) (tEe u n p - tS u n p)) := fun h1 h2 => by
    have h3 := hg.2.2.2.2.2.2.2.1 h1
    rw [h3]
    show nI (vlF u (tS u n p) (min (tEe u n p - tS u n p) 4)) = _
    rw [Nat.min_eq_left h2]
  have z : ¬ gdV (M.1 58 13) = 0 := fun h => gdz.mp h hg.1
  have bad : ∀ (k : Nat) (x : Int32), x = nI k → 1 ≤ k → k ≤ 5 → idS u n m p = .inl (k, tS u n p) → AW l (pI pg 189) (fcI M (QM u n (.inr p) m M)) 0 0 54 [(0, .ref 58)] [] SHF (wgM M x) := fun k x hx h1 h2 hr => by
    have wb := wg_b hg hx h1 h2
    have z2 : gdV ((wgM M x).1 58 13) = Int32.ofInt 0 := gd_0 (bS_nz wb)
    refine amg_54 (by rw [wgM_2]; exact hJ) hl0 (by rw [z2]; decide) ?_
    rw [z2]
    refine ⟨rfl, wgM_2, _, rfl, grF_w, fun f hf => ?_, fun a ha => ?_⟩
    · have hf2 : idS u n m p = .inl f := hf
      rw [hr] at hf2
      cases hf2
      exact ⟨rfl, wb⟩
    · have ha2 : idS u n m p = .inr a := ha
      rw [hr] at ha2
      cases ha2
  refine amg_0 hJ hl0 (fun _ h3 h4 h5 => ?_) (fun _ h3 h4 h5 => ?_) (fun _ h3 h4 => ?_) (fun _ h3 => ?_) (fun h => absurd h z)
  · have g1 := k2.mp h3
    have g2 := l4.mp h4
    have g3 := vl_lt g1 g2
    rw [vv g1 g2, nI_ltI (by omega) (by omega)] at h5
    have hr : idS u n m p = .inr (vlF u (tS u n p) (tEe u n p - tS u n p), tEe u n p) := by rw [idS, if_pos g1, if_pos g2, if_pos h5]
    have z2 : gdV (M.1 58 13) = Int32.ofInt 1 := gd_1 hg.1
    refine amg_54 hJ hl0 (by rw [z2]; decide) ?_
    rw [z2]
    refine ⟨rfl, rfl, _, rfl, grF_rfl, fun f hf => ?_, fun a ha => ?_⟩
    · have hf2 : idS u n m p = .inl f := hf
      rw [hr] at hf2
      cases hf2
    · have ha2 : idS u n m p = .inr a := ha
      rw [hr] at ha2
      cases ha2
      exact ⟨rfl, rfl, vv g1 g2, e17⟩
  · have g1 := k2.mp h3
    have g2 := l4.mp h4
    have g3 := vl_lt g1 g2
    rw [vv g1 g2, nI_ltI (by omega) (by omega)] at h5
    refine bad 3 _ (by decide) (by decide) (by decide) ?_
    rw [idS, if_pos g1, if_pos g2, if_neg h5]
  · refine bad 2 _ (by decide) (by decide) (by decide) ?_
    rw [idS, if_pos (k2.mp h3), if_neg (fun e => h4 (l4.mpr e))]
  · refine bad 1 _ (by decide) (by decide) (by decide) ?_
    rw [idS, if_neg (fun e => h3 (k2.mpr e))]
theorem amg_s (hl0 : l.1.stackTraces = false) (hJ : ∀ e ∈ RM, M.2.2 e.1 e.2.1 = e.2.2) (hB : RB n u M) {σ : Flt ⊕ Nat} (hs : rS u n σ M) {m : Nat} (hm : m ≤ 9999) : AC l (pI pg 189) (fcI M (QM u n σ m M)) 0 0 [.ref 58, .int (nI m)] SHF M := by
  cases σ with
  | inl f =>
    have hb := hs.1 f rfl
    have z : gdV (M.1 58 13) = 0 := gdz.mpr (bS_nz hb)
    refine fw_of hl0 ⟨by decide +kernel, by decide +kernel, by decide +kernel⟩ rfl ?_
    refine amg_0 hJ hl0 (fun h => absurd z h) (fun h => absurd z h) (fun h => absurd z h) (fun h => absurd z h) (fun _ => ⟨rfl, rfl, _, rfl, grF_rfl, fun g hg => ?_, fun a ha => ?_⟩)
    · cases hg
      exact ⟨rfl, hb⟩
    · cases ha
  | inr p => exact amg_c hl0 hJ hB (hs.2 p rfl) hm
/-- need: the sign that ends a line -/
def QD (u : Nat → Nat) (n : Nat) (τ : Flt ⊕ Nat) (M : aM) : aM → Prop := fun M' => grF M M' ∧ rS u n τ M'
theorem nee_s (hl0 : l.1.stackTraces = false) (hJ : ∀ e ∈ RM, M.2.2 e.1 e.2.1 = e.2.2) (hB : RB n u M) {σ : Flt ⊕ Nat} (hs : rS u n σ M) {x : Int32} (hx : ∀ p, σ = .inr p → (x = 0 ↔ ¬ tK u n p = 3)) : AC l (pI pg 191) (fcV M (QD u n (bnd σ fun p => endS u n p) M)) 0 0 [.ref 58, .int x] SHF M := by
  refine fw_of hl0 ⟨by decide +kernel, by decide +kernel, by decide +kernel⟩ rfl ?_
  cases σ with
  | inl f =>
    have hb := hs.1 f rfl
    have z : gdV (M.1 58 13) = 0 := gdz.mpr (bS_nz hb)
    refine nee_0 hJ hl0 (fun h => absurd z h) (fun _ => True) (fun h => absurd z h) (fun h => absurd z h) (fun _ => ⟨rfl, rfl, rfl, grF_rfl, fun g hg => ?_, fun a ha => ?_⟩)
    · cases hg
      exact hb
    · cases ha
  | inr p =>
    have hg := hs.2 p rfl
    have z : ¬ gdV (M.1 58 13) = 0 := fun h => gdz.mp h hg.1
    have b2 : tEe u n p ≤ n := tE_le' hg.2.2.1
    have e17 : M.1 58 17 = nI (tEe u n p) := hg.2.2.2.2.2.1
    refine nee_0 hJ hl0 (fun _ h3 => ?_) (QS u n (tEe u n p) M) (fun _ _ => stp_c hl0 hJ hB b2 e17) (fun _ h3 M6 e6 q6 => ?_) (fun h => absurd h z)
    · have wb := wg_b (k := 1) (x := Int32.ofInt 1) hg (by decide) (by decide) (by decide)
      have hr : (bnd (.inr p) fun p => endS u n p) = .inl (1, tS u n p) := by
        show endS u n p = _
        rw [endS, if_neg ((hx p rfl).mp h3)]
      rw [hr]
      refine ⟨rfl, wgM_2, rfl, grF_w, fun g hg => ?_, fun a ha => ?_⟩
      · cases hg
        exact wb
      · cases ha
    · have hr : (bnd (.inr p) fun p => endS u n p) = .inr (tEe u n p) := by
        show endS u n p = _
        rw [endS, if_pos (Decidable.byContradiction (fun e => h3 ((hx p rfl).mpr e)))]
      rw [hr]
      refine ⟨rfl, e6, rfl, grF_s q6.2, fun g hg => ?_, fun a ha => ?_⟩
      · cases hg
      · cases ha
        exact gS_s hg b2 q6
end NR
