/-! the reference's whole reading -/
section HW
variable {l : aL} {P : aP} {M : aM} {n : Nat} {u : Nat → Nat} {R : Flt ⊕ HS}
theorem hou_w (hl0 : l.1.stackTraces = false) (hJ : ∀ e ∈ RM, M.2.2 e.1 e.2.1 = e.2.2) (fb : ∀ (f : Flt) (M1 : aM), R = .inl f → M1.2.2 = M.2.2 → lnF M M1 → bS f M1 → AW l (pI pg 174) P 0 0 112 [(0, .ref 58)] [] SHF M1) (fo : ∀ (p : Nat) (H : HS) (M1 : aM), R = .inr H → M1.2.2 = M.2.2 → lnF M M1 → gS u n p M1 → HI H → nHo H M1 → AW l (pI pg 174) P 0 0 112 [(0, .ref 58)] [] SHF M1) : ∀ (d p : Nat) (H : HS) (M1 : aM), n < p + d → parS u n d H p = R → M1.2.2 = M.2.2 → lnF M M1 → RB n u M1 → gS u n p M1 → HI H → nHo H M1 → AW l (pI pg 174) P 0 0 91 [(0, .ref 58)] [] SHF M1 := by
  intro d
  induction d with
  | zero =>
    intro p H M1 hd _ _ _ _ hg
    have := hg.2.2.1
    omega
  | succ d ih =>
    intro p H M1 hd hR e1 hF hB hg hI hN
    have hJ1 : ∀ e ∈ RM, M1.2.2 e.1 e.2.1 = e.2.2 := by rw [e1]; exact hJ
    have hp := hg.2.2.1
    have z : ¬ gdV (M1.1 58 13) = 0 := fun h => gdz.mp h hg.1
    have k4 : tK u n p ≤ 4 := tkK_le
    have k0 : M1.1 58 18 = 0 ↔ tK u n p = 0 := by
      have e18 : M1.1 58 18 = nI (tK u n p) := hg.2.2.2.2.1
      rw [e18]
      exact ⟨fun e => nI_injN (b := 0) (by omega) (by decide) e, fun e => by rw [e]; rfl⟩
    have hR2 : (if tK u n p = 0 then .inr H else bnd (linS u n H p) fun a => parS u n d a.1 a.2) = R := hR
    refine hou_91 hJ1 hl0 (fun h => absurd h z) (fun _ h4 => ?_) (QX u n (linS u n H p) M1) (fun _ h4 => lin_c hl0 hJ1 hB hg hI hN) (fun _ h4 M6 e6 q6 => ?_)
    · rw [if_pos (k0.mp h4)] at hR2
      exact fo p H M1 hR2.symm e1 hF hg hI hN
    · rw [if_neg (fun e => h4 (k0.mpr e))] at hR2
      have F6 := lnF_trans hF q6.1
      cases hl : linS u n H p with
      | inl f =>
        rw [hl] at hR2
        have b := q6.2.1 f hl
        have z6 : gdV (M6.1 58 13) = 0 := gdz.mpr (bS_nz b)
        exact hou_91 (by rw [e6]; exact hJ1) hl0 (fun _ => fb f M6 hR2.symm (e6.trans e1) F6 b) (fun h => absurd z6 h) (fun _ => True) (fun h => absurd z6 h) (fun h => absurd z6 h)
      | inr a =>
        rw [hl] at hR2
        have g := q6.2.2 a hl
        have lo := linS_ok hI hp hl
        exact ih a.2 a.1 M6 (by omega) hR2 (e6.trans e1) F6 (RB_l hB q6.1) g.1 lo.1 g.2
end HW
theorem cop67_c {l : aL} (hl0 : l.1.stackTraces = false) {M : aM} (hJ : ∀ e ∈ RM, M.2.2 e.1 e.2.1 = e.2.2) : AC l (pI pg 192) (fcV M (fun M' => (∀ k, k < 6 → M'.1 59 k = M.1 67 k) ∧ (∀ c k, c ≠ 59 → M'.1 c k = M.1 c k) ∧ M'.2.1 = M.2.1)) 0 0 [.ref 58, .ref 67, .ref 59] SHF M := by
  refine fw_of hl0 ⟨by decide +kernel, by decide +kernel, by decide +kernel⟩ rfl ?_
  refine cop67_0 hJ hl0 ?_
  have loop : ∀ (d i : Nat) (M1 : aM), i + d = 6 → M1.2.2 = M.2.2 → M1.2.1 = M.2.1 → (∀ k, k < i → M1.1 59 k = M.1 67 k) → (∀ c k, c ≠ 59 → M1.1 c k = M.1 c k) → AW l (pI pg 192) (fcV M (fun M' => (∀ k, k < 6 → M'.1 59 k = M.1 67 k) ∧ (∀ c k, c ≠ 59 → M'.1 c k = M.1 c k) ∧ M'.2.1 = M.2.1)) 0 0 2 [(3, .int (nI i)), (1, .ref 67), (2, .ref 59)] [] SHF M1 := by
    intro d
    induction d with
    | zero =>
      intro i M1 hi e2 e3 h1 h2
      have hi2 : i = 6 := by omega
      subst hi2
      have le : (Int32.ofNat 6 : Int32) ≤ nI 6 := by decide
      exact cop67_2 (by rw [e2]; exact hJ) hl0 (fun _ => ⟨rfl, e2, rfl, h1, h2, e3⟩) (fun h => absurd le h) (fun h => absurd le h)
    | succ d ih =>
      intro i M1 hi e2 e3 h1 h2
      refine cop67_2 (by rw [e2]; exact hJ) hl0 (fun h => ?_) (fun _ => vp_in_nI (by omega) (by decide)) (fun _ => ?_)
      · exact ge_no (a := i) (b := 6) (by omega) (by decide) h
      · have e1 : nI i + Int32.ofInt 1 = nI (i + 1) := nI_1 _
        rw [e1, nI_clamp (by omega), h2 67 i (by decide)]
        refine ih (i + 1) _ (by omega) e2 e3 (fun k hk => ?_) (fun c k hc => ?_)
        · rw [set_1, if_pos rfl]
          by_cases e : k = i
          · rw [if_pos e, e]
          · rw [if_neg e]
            exact h1 k (by omega)
        · rw [set_1, if_neg hc]
          exact h2 c k hc
  exact loop 6 0 M (by omega) rfl rfl (fun k hk => absurd hk (Nat.not_lt_zero _)) (fun _ _ _ => rfl)
theorem cop68_c {l : aL} (hl0 : l.1.stackTraces = false) {M : aM} (hJ : ∀ e ∈ RM, M.2.2 e.1 e.2.1 = e.2.2) : AC l (pI pg 192) (fcV M (fun M' => (∀ k, k < 6 → M'.1 60 k = M.1 68 k) ∧ (∀ c k, c ≠ 60 → M'.1 c k = M.1 c k) ∧ M'.2.1 = M.2.1)) 0 0 [.ref 58, .ref 68, .ref 60] SHF M := by
  refine fw_of hl0 ⟨by decide +kernel, by decide +kernel, by decide +kernel⟩ rfl ?_
  refine cop68_0 hJ hl0 ?_
  have loop : ∀ (d i : Nat) (M1 : aM), i + d = 6 → M1.2.2 = M.2.2 → M1.2.1 = M.2.1 → (∀ k, k < i → M1.1 60 k = M.1 68 k) → (∀ c k, c ≠ 60 → M1.1 c k = M.1 c k) → AW l (pI pg 192) (fcV M (fun M' => (∀ k, k < 6 → M'.1 60 k = M.1 68 k) ∧ (∀ c k, c ≠ 60 → M'.1 c k = M.1 c k) ∧ M'.2.1 = M.2.1)) 0 0 2 [(3, .int (nI i)), (1, .ref 68), (2, .ref 60)] [] SHF M1 := by
    intro d
    induction d with
    | zero =>
      intro i M1 hi e2 e3 h1 h2
      have hi2 : i = 6 := by omega
      subst hi2
      have le : (Int32.ofNat 6 : Int32) ≤ nI 6 := by decide
      exact cop68_2 (by rw [e2]; exact hJ) hl0 (fun _ => ⟨rfl, e2, rfl, h1, h2, e3⟩) (fun h => absurd le h) (fun h => absurd le h)
    | succ d ih =>
      intro i M1 hi e2 e3 h1 h2
      refine cop68_2 (by rw [e2]; exact hJ) hl0 (fun h => ?_) (fun _ => vp_in_nI (by omega) (by decide)) (fun _ => ?_)
      · exact ge_no (a := i) (b := 6) (by omega) (by decide) h
      · have e1 : nI i + Int32.ofInt 1 = nI (i + 1) := nI_1 _
        rw [e1, nI_clamp (by omega), h2 68 i (by decide)]
        refine ih (i + 1) _ (by omega) e2 e3 (fun k hk => ?_) (fun c k hc => ?_)
        · rw [set_1, if_pos rfl]
          by_cases e : k = i
          · rw [if_pos e, e]
          · rw [if_neg e]
            exact h1 k (by omega)
        · rw [set_1, if_neg hc]
          exact h2 c k hc
  exact loop 6 0 M (by omega) rfl rfl (fun k hk => absurd hk (Nat.not_lt_zero _)) (fun _ _ _ => rfl)
theorem cop69_c {l : aL} (hl0 : l.1.stackTraces = false) {M : aM} (hJ : ∀ e ∈ RM, M.2.2 e.1 e.2.1 = e.2.2) : AC l (pI pg 192) (fcV M (fun M' => (∀ k, k < 8 → M'.1 61 k = M.1 69 k) ∧ (∀ c k, c ≠ 61 → M'.1 c k = M.1 c k) ∧ M'.2.1 = M.2.1)) 0 0 [.ref 58, .ref 69, .ref 61] SHF M := by
  refine fw_of hl0 ⟨by decide +kernel, by decide +kernel, by decide +kernel⟩ rfl ?_
  refine cop69_0 hJ hl0 ?_
  have loop : ∀ (d i : Nat) (M1 : aM), i + d = 8 → M1.2.2 = M.2.2 → M1.2.1 = M.2.1 → (∀ k, k < i → M1.1 61 k = M.1 69 k) → (∀ c k, c ≠ 61 → M1.1 c k = M.1 c k) → AW l (pI pg 192) (fcV M (fun M' => (∀ k, k < 8 → M'.1 61 k = M.1 69 k) ∧ (∀ c k, c ≠ 61 → M'.1 c k = M.1 c k) ∧ M'.2.1 = M.2.1)) 0 0 2 [(3, .int (nI i)), (1, .ref 69), (2, .ref 61)] [] SHF M1 := by
    intro d
    induction d with
    | zero =>
      intro i M1 hi e2 e3 h1 h2
      have hi2 : i = 8 := by omega
      subst hi2
      have le : (Int32.ofNat 8 : Int32) ≤ nI 8 := by decide
      exact cop69_2 (by rw [e2]; exact hJ) hl0 (fun _ => ⟨rfl, e2, rfl, h1, h2, e3⟩) (fun h => absurd le h) (fun h => absurd le h)
    | succ d ih =>
      intro i M1 hi e2 e3 h1 h2
      refine cop69_2 (by rw [e2]; exact hJ) hl0 (fun h => ?_) (fun _ => vp_in_nI (by omega) (by decide)) (fun _ => ?_)
      · exact ge_no (a := i) (b := 8) (by omega) (by decide) h
      · have e1 : nI i + Int32.ofInt 1 = nI (i + 1) := nI_1 _
        rw [e1, nI_clamp (by omega), h2 69 i (by decide)]
        refine ih (i + 1) _ (by omega) e2 e3 (fun k hk => ?_) (fun c k hc => ?_)
        · rw [set_1, if_pos rfl]
          by_cases e : k = i
          · rw [if_pos e, e]
          · rw [if_neg e]
            exact h1 k (by omega)
        · rw [set_1, if_neg hc]
          exact h2 c k hc
  exact loop 8 0 M (by omega) rfl rfl (fun k hk => absurd hk (Nat.not_lt_zero _)) (fun _ _ _ => rfl)
theorem cop70_c {l : aL} (hl0 : l.1.stackTraces = false) {M : aM} (hJ : ∀ e ∈ RM, M.2.2 e.1 e.2.1 = e.2.2) : AC l (pI pg 192) (fcV M (fun M' => (∀ k, k < 8 → M'.1 62 k = M.1 70 k) ∧ (∀ c k, c ≠ 62 → M'.1 c k = M.1 c k) ∧ M'.2.1 = M.2.1)) 0 0 [.ref 58, .ref 70, .ref 62] SHF M := by
  refine fw_of hl0 ⟨by decide +kernel, by decide +kernel, by decide +kernel⟩ rfl ?_
  refine cop70_0 hJ hl0 ?_
  have loop : ∀ (d i : Nat) (M1 : aM), i + d = 8 → M1.2.2 = M.2.2 → M1.2.1 = M.2.1 → (∀ k, k < i → M1.1 62 k = M.1 70 k) → (∀ c k, c ≠ 62 → M1.1 c k = M.1 c k) → AW l (pI pg 192) (fcV M (fun M' => (∀ k, k < 8 → M'.1 62 k = M.1 70 k) ∧ (∀ c k, c ≠ 62 → M'.1 c k = M.1 c k) ∧ M'.2.1 = M.2.1)) 0 0 2 [(3, .int (nI i)), (1, .ref 70), (2, .ref 62)] [] SHF M1 := by
    intro d
    induction d with
    | zero =>
      intro i M1 hi e2 e3 h1 h2
      have hi2 : i = 8 := by omega
      subst hi2
      have le : (Int32.ofNat 8 : Int32) ≤ nI 8 := by decide
      exact cop70_2 (by rw [e2]; exact hJ) hl0 (fun _ => ⟨rfl, e2, rfl, h1, h2, e3⟩) (fun h => absurd le h) (fun h => absurd le h)
    | succ d ih =>
      intro i M1 hi e2 e3 h1 h2
      refine cop70_2 (by rw [e2]; exact hJ) hl0 (fun h => ?_) (fun _ => vp_in_nI (by omega) (by decide)) (fun _ => ?_)
      · exact ge_no (a := i) (b := 8) (by omega) (by decide) h
      · have e1 : nI i + Int32.ofInt 1 = nI (i + 1) := nI_1 _
        rw [e1, nI_clamp (by omega), h2 70 i (by decide)]
        refine ih (i + 1) _ (by omega) e2 e3 (fun k hk => ?_) (fun c k hc => ?_)
        · rw [set_1, if_pos rfl]
          by_cases e : k = i
          · rw [if_pos e, e]
          · rw [if_neg e]
            exact h1 k (by omega)
        · rw [set_1, if_neg hc]
          exact h2 c k hc
  exact loop 8 0 M (by omega) rfl rfl (fun k hk => absurd hk (Nat.not_lt_zero _)) (fun _ _ _ => rfl)
theorem cop71_c {l : aL} (hl0 : l.1.stackTraces = false) {M : aM} (hJ : ∀ e ∈ RM, M.2.2 e.1 e.2.1 = e.2.2) : AC l (pI pg 192) (fcV M (fun M' => (∀ k, k < 48 → M'.1 63 k = M.1 71 k) ∧ (∀ c k, c ≠ 63 → M'.1 c k = M.1 c k) ∧ M'.2.1 = M.2.1)) 0 0 [.ref 58, .ref 71, .ref 63] SHF M := by
  refine fw_of hl0 ⟨by decide +kernel, by decide +kernel, by decide +kernel⟩ rfl ?_
  refine cop71_0 hJ hl0 ?_
  have loop : ∀ (d i : Nat) (M1 : aM), i + d = 48 → M1.2.2 = M.2.2 → M1.2.1 = M.2.1 → (∀ k, k < i → M1.1 63 k = M.1 71 k) → (∀ c k, c ≠ 63 → M1.1 c k = M.1 c k) → AW l (pI pg 192) (fcV M (fun M' => (∀ k, k < 48 → M'.1 63 k = M.1 71 k) ∧ (∀ c k, c ≠ 63 → M'.1 c k = M.1 c k) ∧ M'.2.1 = M.2.1)) 0 0 2 [(3, .int (nI i)), (1, .ref 71), (2, .ref 63)] [] SHF M1 := by
    intro d
    induction d with
    | zero =>
      intro i M1 hi e2 e3 h1 h2
      have hi2 : i = 48 := by omega
      subst hi2
      have le : (Int32.ofNat 48 : Int32) ≤ nI 48 := by decide
      exact cop71_2 (by rw [e2]; exact hJ) hl0 (fun _ => ⟨rfl, e2, rfl, h1, h2, e3⟩) (fun h => absurd le h) (fun h => absurd le h)
    | succ d ih =>
      intro i M1 hi e2 e3 h1 h2
      refine cop71_2 (by rw [e2]; exact hJ) hl0 (fun h => ?_) (fun _ => vp_in_nI (by omega) (by decide)) (fun _ => ?_)
      · exact ge_no (a := i) (b := 48) (by omega) (by decide) h
      · have e1 : nI i + Int32.ofInt 1 = nI (i + 1) := nI_1 _
        rw [e1, nI_clamp (by omega), h2 71 i (by decide)]
        refine ih (i + 1) _ (by omega) e2 e3 (fun k hk => ?_) (fun c k hc => ?_)
        · rw [set_1, if_pos rfl]
          by_cases e : k = i
          · rw [if_pos e, e]
          · rw [if_neg e]
            exact h1 k (by omega)
        · rw [set_1, if_neg hc]
          exact h2 c k hc
  exact loop 48 0 M (by omega) rfl rfl (fun k hk => absurd hk (Nat.not_lt_zero _)) (fun _ _ _ => rfl)
theorem cop72_c {l : aL} (hl0 : l.1.stackTraces = false) {M : aM} (hJ : ∀ e ∈ RM, M.2.2 e.1 e.2.1 = e.2.2) : AC l (pI pg 192) (fcV M (fun M' => (∀ k, k < 32 → M'.1 64 k = M.1 72 k) ∧ (∀ c k, c ≠ 64 → M'.1 c k = M.1 c k) ∧ M'.2.1 = M.2.1)) 0 0 [.ref 58, .ref 72, .ref 64] SHF M := by
  refine fw_of hl0 ⟨by decide +kernel, by decide +kernel, by decide +kernel⟩ rfl ?_
  refine cop72_0 hJ hl0 ?_
  have loop : ∀ (d i : Nat) (M1 : aM), i + d = 32 → M1.2.2 = M.2.2 → M1.2.1 = M.2.1 → (∀ k, k < i → M1.1 64 k = M.1 72 k) → (∀ c k, c ≠ 64 → M1.1 c k = M.1 c k) → AW l (pI pg 192) (fcV M (fun M' => (∀ k, k < 32 → M'.1 64 k = M.1 72 k) ∧ (∀ c k, c ≠ 64 → M'.1 c k = M.1 c k) ∧ M'.2.1 = M.2.1)) 0 0 2 [(3, .int (nI i)), (1, .ref 72), (2, .ref 64)] [] SHF M1 := by
    intro d
    induction d with
    | zero =>
      intro i M1 hi e2 e3 h1 h2
      have hi2 : i = 32 := by omega
      subst hi2
      have le : (Int32.ofNat 32 : Int32) ≤ nI 32 := by decide
      exact cop72_2 (by rw [e2]; exact hJ) hl0 (fun _ => ⟨rfl, e2, rfl, h1, h2, e3⟩) (fun h => absurd le h) (fun h => absurd le h)
    | succ d ih =>
      intro i M1 hi e2 e3 h1 h2
      refine cop72_2 (by rw [e2]; exact hJ) hl0 (fun h => ?_) (fun _ => vp_in_nI (by omega) (by decide)) (fun _ => ?_)
      · exact ge_no (a := i) (b := 32) (by omega) (by decide) h
      · have e1 : nI i + Int32.ofInt 1 = nI (i + 1) := nI_1 _
        rw [e1, nI_clamp (by omega), h2 72 i (by decide)]
        refine ih (i + 1) _ (by omega) e2 e3 (fun k hk => ?_) (fun c k hc => ?_)
        · rw [set_1, if_pos rfl]
          by_cases e : k = i
          · rw [if_pos e, e]
          · rw [if_neg e]
            exact h1 k (by omega)
        · rw [set_1, if_neg hc]
          exact h2 c k hc
  exact loop 32 0 M (by omega) rfl rfl (fun k hk => absurd hk (Nat.not_lt_zero _)) (fun _ _ _ => rfl)
