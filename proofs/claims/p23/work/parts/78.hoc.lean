/-! house of the reference: out of range, in range -/
section HC
variable {l : aL} {M : aM} {n s : Nat} {u : Nat → Nat}
theorem rgf_c (hl0 : l.1.stackTraces = false) (hJ : ∀ e ∈ RM, M.2.2 e.1 e.2.1 = e.2.2) (h : M.1 58 0 = 0) : AC l (pI pg 175) (pmI M (Int32.ofInt 0) (aset M 58 0 (.int (Int32.ofInt 1)))) 0 0 [.ref 58, .int (Int32.ofInt 0), .int (Int32.ofInt 1)] SHF M := by
  refine fw_of hl0 ⟨by decide +kernel, by decide +kernel, by decide +kernel⟩ rfl ?_
  exact rgf_0 hJ hl0 (fun h1 => absurd h h1) (fun h1 => absurd h h1) (fun _ _ => ⟨rfl, rfl, _, rfl, rfl, rfl⟩) (fun _ h6 => absurd (show (Int32.ofInt 1 : Int32) = 0 from h6) (by decide))
theorem rgt_c (hl0 : l.1.stackTraces = false) (hJ : ∀ e ∈ RM, M.2.2 e.1 e.2.1 = e.2.2) (h : M.1 58 0 = 0) : AC l (pI pg 175) (pvI M (Int32.ofInt 1)) 0 0 [.ref 58, .int (Int32.ofInt 1), .int (Int32.ofInt 1)] SHF M := by
  refine fw_of hl0 ⟨by decide +kernel, by decide +kernel, by decide +kernel⟩ rfl ?_
  exact rgt_0 hJ hl0 (fun h1 => absurd h h1) (fun h1 => absurd h h1) (fun _ h6 => absurd h h6) (fun _ _ => pvI_of)
theorem hom_o (hl0 : l.1.stackTraces = false) (hJ : ∀ e ∈ RM, M.2.2 e.1 e.2.1 = e.2.2) {x : Int32} (hx : x < 0 ∨ M.1 58 12 < x) : AC l (pI pg 174) (pmI M (Int32.ofInt 0) (aset (aset M 58 0 (.int (Int32.ofInt 0))) 58 0 (.int (Int32.ofInt 1)))) 0 0 [.ref 58, .int x] SHF M := by
  refine fw_of hl0 ⟨by decide +kernel, by decide +kernel, by decide +kernel⟩ rfl ?_
  have c := rgf_c (M := aset M 58 0 (.int (Int32.ofInt 0))) hl0 hJ rfl
  have no : ¬ x < 0 → ¬ ¬ ((aset M 58 0 (.int (Int32.ofInt 0))).1 58 12) < x := fun h1 h2 => hx.elim h1 h2
  refine hou_0 hJ hl0 _ (fun _ => c) (fun _ y2 M2 e2 q2 h4 => ?_) (fun _ y2 M2 e2 q2 h4 => ?_) _ (fun _ _ => c) (fun _ _ y2 M2 e2 q2 h4 => ?_) (fun _ _ y2 M2 e2 q2 h4 => ?_) (fun _ _ => True) (fun h1 h7 => absurd h7 (no h1)) (fun h1 h7 => absurd h7 (no h1)) (fun h1 h7 => absurd h7 (no h1))
  · exact absurd q2.1.symm h4
  · obtain ⟨_, rfl⟩ := q2
    exact ⟨rfl, e2, _, rfl, rfl, rfl⟩
  · exact absurd q2.1.symm h4
  · obtain ⟨_, rfl⟩ := q2
    exact ⟨rfl, e2, _, rfl, rfl, rfl⟩
theorem hom_i (hl0 : l.1.stackTraces = false) (hJ : ∀ e ∈ RM, M.2.2 e.1 e.2.1 = e.2.2) (s8 : s ≤ 800) (hn : n ≤ s) (h12 : M.1 58 12 = nI s) (hu : ∀ i, u i < 256) (hb : ∀ i, i < s → M.1 65 i = nI (u i)) : AC l (pI pg 174) (fcI M (QHm (parS u n (n + 1) HS0 0) (aset M 58 0 (.int (Int32.ofInt 0))))) 0 0 [.ref 58, .int (nI n)] SHF M := by
  refine fw_of hl0 ⟨by decide +kernel, by decide +kernel, by decide +kernel⟩ rfl ?_
  have c := rgt_c (M := aset M 58 0 (.int (Int32.ofInt 0))) hl0 hJ rfl
  have n0 : ¬ nI n < 0 := fun h => by
    have h2 : nI n < nI 0 := h
    rw [nI_ltI (by omega) (by decide)] at h2
    omega
  have n1 : ¬ ((aset M 58 0 (.int (Int32.ofInt 0))).1 58 12) < nI n := fun h => by
    have h2 : M.1 58 12 < nI n := h
    rw [h12, nI_ltI (by omega) (by omega)] at h2
    omega
  refine hou_0 hJ hl0 (fun _ _ => True) (fun h => absurd h n0) (fun h => absurd h n0) (fun h => absurd h n0) (fun _ _ => True) (fun _ h => absurd h n1) (fun _ h => absurd h n1) (fun _ h => absurd h n1) _ (fun _ _ => c) (fun _ _ y2 M2 e2 q2 h4 => ?_) (fun _ _ y2 M2 e2 q2 h4 => ?_)
  · obtain ⟨_, rfl⟩ := q2
    exact hou_32e (M := aset M 58 0 (.int (Int32.ofInt 0))) hl0 hJ (by omega) hu (fun i hi => hb i (by omega))
  · rw [← q2.1] at h4
    exact absurd h4 (by decide)
end HC
