/-! THE READER: numbers, line ends -/
theorem nI_injN {a b : Nat} (ha : a < 2 ^ 31) (hb : b < 2 ^ 31) (h : nI a = nI b) : a = b := by
  have h1 := (i_nI hb).mp h
  rw [nI_toInt ha] at h1
  omega
theorem nI_nm1 {v : Nat} (h : v < 2 ^ 31) : ¬ nI v = Int32.ofInt (-1) := fun e => by
  have h1 := i_m1.mp e
  rw [nI_toInt h] at h1
  omega
theorem tkK_le {u : Nat → Nat} {n s : Nat} : tkK u n s ≤ 4 := by
  unfold tkK
  split
  · split
    · decide
    · split
      · decide
      · split
        · decide
        · decide
  · decide
theorem tk_dig {u : Nat → Nat} {n s : Nat} (h : tkK u n s = 2) : ∀ i, s ≤ i → i < tkE u n s → isDg (u i) = true := by
  unfold tkK at h
  unfold tkE
  split at h
  · rename_i h1
    rw [if_pos h1]
    split at h
    · cases h
    · rename_i h2
      rw [if_neg h2]
      split at h
      · rename_i h3
        rw [if_pos h3]
        exact fun i h4 h5 => (scn_in (f := fun i => isDg (u i)) s i h4 h5).2
      · split at h
        · cases h
        · cases h
  · cases h
theorem vl_lt {u : Nat → Nat} {n p : Nat} (h : tK u n p = 2) (h4 : tEe u n p - tS u n p ≤ 4) : vlF u (tS u n p) (tEe u n p - tS u n p) ≤ 9999 := by
  have b1 := vlF_lt (u := u) (s := tS u n p) (tEe u n p - tS u n p) (fun i hi => tk_dig h (tS u n p + i) (Nat.le_add_right _ _) (by show tS u n p + i < tEe u n p; omega))
  have b2 : 10 ^ (tEe u n p - tS u n p) ≤ 10 ^ 4 := Nat.pow_le_pow_right (by decide) h4
  have b3 : (10 : Nat) ^ 4 = 10000 := by decide
  omega
def flt (f : Flt) (M : aM) : Prop := M.1 1 1 = nI f.1 ∧ M.1 1 2 = nI f.2
def rfF (M M' : aM) : Prop := (∀ a k, (a = 2 → k ≠ 3 ∧ k ≠ 4 ∧ k ≠ 5) → (a = 1 → k ≠ 1 ∧ k ≠ 2) → M'.1 a k = M.1 a k) ∧ M'.2.1 = M.2.1
theorem rfF_of {M M1 : aM} (h : tkF M M1) : rfF M M1 := ⟨fun a k h1 _ => h.1 a k h1, h.2⟩
theorem rfF_rfl {M : aM} : rfF M M := ⟨fun _ _ _ _ => rfl, rfl⟩
theorem rfF_trans {M M1 M2 : aM} (h1 : rfF M M1) (h2 : rfF M1 M2) : rfF M M2 := ⟨fun a k g1 g2 => (h2.1 a k g1 g2).trans (h1.1 a k g1 g2), h2.2.trans h1.2⟩
theorem rfM_F {M M1 : aM} {x : Int32} (h : rfF M M1) : rfF M (rfM M1 x) := ⟨fun a k h1 h2 => by
  rw [rfM, set_1]
  by_cases e : a = 1
  · have h3 := h2 e
    rw [if_pos e, if_neg h3.2, set_1, if_pos e, if_neg h3.1]
    exact h.1 a k h1 h2
  · rw [if_neg e, set_1, if_neg e]
    exact h.1 a k h1 h2, h.2⟩
theorem CB_R {n : Nat} {u : Nat → Nat} {M M1 : aM} (h : CB n u M) (hF : rfF M M1) : CB n u M1 := ⟨h.1, h.2.1, (hF.1 2 2 (fun _ => by decide) (fun e => absurd e (by decide))).trans h.2.2.1, fun i hi => (hF.1 3 i (fun e => absurd e (by decide)) (fun e => absurd e (by decide))).trans (h.2.2.2 i hi)⟩
def RN (r : Flt ⊕ (Nat × Nat)) (s : Nat) (M : aM) : Int32 → aM → Prop := fun y M' => rfF M M' ∧ (∀ f, r = .inl f → y = Int32.ofInt (-1) ∧ flt f M') ∧ ∀ a, r = .inr a → y = nI a.1 ∧ M'.1 2 5 = nI a.2 ∧ M'.1 2 4 = nI s ∧ tkF M M'
def QE (r : Flt ⊕ Nat) (M : aM) : Int32 → aM → Prop := fun y M' => rfF M M' ∧ (∀ f, r = .inl f → y = Int32.ofInt 0 ∧ flt f M') ∧ ∀ q, r = .inr q → y = Int32.ofInt 1 ∧ M'.1 2 5 = nI q ∧ tkF M M'
/-- a refusal of the token from p on -/
theorem RN_bad {u : Nat → Nat} {n p k s : Nat} {r : Flt ⊕ (Nat × Nat)} {M M1 : aM} {x : Int32} (hr : r = .inl (k, tS u n p)) (hx : x = nI k) (h4 : M1.1 2 4 = nI (tS u n p)) (hF : rfF M M1) (e2 : M1.2.2 = M.2.2) : fcI M (RN r s M) (.inl (some (.int (Int32.ofInt (-1))))) SHF (rfM M1 x) := by
  subst hx
  subst hr
  refine ⟨rfl, e2, _, rfl, rfM_F hF, fun f hf => ?_, fun a ha => ?_⟩
  · cases hf
    exact ⟨rfl, rfl, h4⟩
  · cases ha
theorem RN_ok {a : Nat × Nat} {s : Nat} {r : Flt ⊕ (Nat × Nat)} {M M1 : aM} {y : Int32} (hr : r = .inr a) (hy : y = nI a.1) (h5 : M1.1 2 5 = nI a.2) (h4 : M1.1 2 4 = nI s) (hF : tkF M M1) (e2 : M1.2.2 = M.2.2) : fcI M (RN r s M) (.inl (some (.int y))) SHF M1 := by
  subst hr
  refine ⟨rfl, e2, _, rfl, rfF_of hF, fun f hf => ?_, fun b hb => ?_⟩
  · cases hf
  · cases hb
    exact ⟨hy, h5, h4, hF⟩
theorem rk_rt {M M1 : aM} (hJ : ∀ e ∈ RK, M.2.2 e.1 e.2.1 = e.2.2) (e2 : M1.2.2 = M.2.2) : ∀ e ∈ RT2, M1.2.2 e.1 e.2.1 = e.2.2 := fun e he => by
  rw [e2]
  refine hJ e ?_
  simp only [RT2, List.mem_cons, List.not_mem_nil, or_false] at he
  subst he
  decide
section RD
variable {l : aL} {M : aM} {n p : Nat} {u : Nat → Nat}
theorem num_c (hl0 : l.1.stackTraces = false) (hJ : ∀ e ∈ RK, M.2.2 e.1 e.2.1 = e.2.2) (hB : CB n u M) (hp : p ≤ n) (h5 : M.1 2 5 = nI p) {lo hi : Nat} (hlo : lo ≤ 9999) (hhi : hi ≤ 9999) {x y : Int32} (hx : x = nI lo) (hy : y = nI hi) : AC l (pI pg 67) (fcI M (RN (numS u n lo hi p) (tS u n p) M)) 0 0 [.ref 1, .int x, .int y] SHF M := by
  subst hx
  subst hy
  refine fw_of hl0 ⟨by decide +kernel, by decide +kernel, by decide +kernel⟩ rfl ?_
  have n8 := hB.1
  have b1 : tS u n p ≤ tEe u n p := tkE_ge
  have b2 : tEe u n p ≤ n := tE_le' hp
  have kk : ∀ {M1 : aM}, QA u n p M M1 → M1.1 2 3 = Int32.ofInt 2 → tK u n p = 2 := fun {M1} q h => by
    rw [q.1.2.1] at h
    have h4 : tK u n p ≤ 4 := tkK_le
    exact nI_injN (b := 2) (by omega) (by decide) h
  have l4 : nI (tEe u n p - tS u n p) ≤ Int32.ofInt 4 → tEe u n p - tS u n p ≤ 4 := fun h => by
    rw [show (Int32.ofInt 4 : Int32) = nI 4 by decide, nI_leI (by omega) (by decide)] at h
    exact h
  have lt : ∀ {a b : Nat}, a < 2 ^ 31 → b < 2 ^ 31 → (nI a < nI b ↔ a < b) := fun h1 h2 => nI_ltI h1 h2
  refine num_0 hJ hl0 (QA u n p M) (adv_c hl0 (rk_rt hJ rfl) hB hp h5) (fun M1 y M' => nI (tEe u n p - tS u n p) = y ∧ M1 = M') (fun M1 e1 q1 h3 => ?_) (fun M1 y4 M4 y M' => nI (vlF u (tS u n p) (tEe u n p - tS u n p)) = y ∧ M4 = M') (fun M1 e1 q1 h3 y4 M4 e4 q4 h6 => ?_) (fun M1 e1 q1 h3 y4 M4 e4 q4 h6 y7 M7 e7 q7 h9 => ?_) (fun M1 e1 q1 h3 y4 M4 e4 q4 h6 y7 M7 e7 q7 h9 h12 => ?_) (fun M1 e1 q1 h3 y4 M4 e4 q4 h6 y7 M7 e7 q7 h9 h12 => ?_) (fun M1 e1 q1 h3 y4 M4 e4 q4 h6 => ?_) (fun M1 e1 q1 h3 => ?_)
  · exact dig_c hl0 (rk_rt hJ e1) h3 q1.1.1 q1.1.2.2 b1 (by omega)
  · obtain ⟨rfl, rfl⟩ := q4
    exact val_c hl0 (rk_rt hJ e1) (CB_F hB q1.2) q1.1.1 q1.1.2.2 b1 b2 (tk_dig (kk q1 h3))
  · obtain ⟨rfl, rfl⟩ := q4
    obtain ⟨rfl, rfl⟩ := q7
    have k2 := kk q1 h3
    have k4 := l4 h6
    have kv := vl_lt k2 k4
    rw [lt (by omega) (by omega)] at h9
    refine RN_bad (p := p) (k := 2) ?_ (by decide) q1.1.1 (rfF_of q1.2) e1
    rw [numS, if_pos k2, if_pos k4, if_neg (by omega)]
  · obtain ⟨rfl, rfl⟩ := q4
    obtain ⟨rfl, rfl⟩ := q7
    have k2 := kk q1 h3
    have k4 := l4 h6
    have kv := vl_lt k2 k4
    rw [lt (by omega) (by omega)] at h12
    refine RN_bad (p := p) (k := 2) ?_ (by decide) q1.1.1 (rfF_of q1.2) e1
    rw [numS, if_pos k2, if_pos k4, if_neg (by omega)]
  · obtain ⟨rfl, rfl⟩ := q4
    obtain ⟨rfl, rfl⟩ := q7
    have k2 := kk q1 h3
    have k4 := l4 h6
    have kv := vl_lt k2 k4
    rw [lt (by omega) (by omega)] at h9 h12
    refine RN_ok (a := (vlF u (tS u n p) (tEe u n p - tS u n p), tEe u n p)) ?_ rfl q1.1.2.2 q1.1.1 q1.2 e1
    rw [numS, if_pos k2, if_pos k4, if_pos (by omega)]
  · obtain ⟨rfl, rfl⟩ := q4
    have k2 := kk q1 h3
    have k4 : ¬ tEe u n p - tS u n p ≤ 4 := fun h => h6 (by
      rw [show (Int32.ofInt 4 : Int32) = nI 4 by decide, nI_leI (by omega) (by decide)]
      exact h)
    refine RN_bad (p := p) (k := 2) ?_ (by decide) q1.1.1 (rfF_of q1.2) e1
    rw [numS, if_pos k2, if_neg k4]
  · have k2 : ¬ tK u n p = 2 := fun h => h3 (by
      rw [q1.1.2.1]
      show nI (tK u n p) = _
      rw [h]
      rfl)
    refine RN_bad (p := p) (k := 1) ?_ (by decide) q1.1.1 (rfF_of q1.2) e1
    rw [numS, if_neg k2]
theorem k3_iff {M1 : aM} (h : tkAt u n p M1) : M1.1 2 3 = Int32.ofInt 3 ↔ tK u n p = 3 := by
  have h4 : tK u n p ≤ 4 := tkK_le
  rw [h.2.1]
  exact ⟨fun e => nI_injN (b := 3) (by omega) (by decide) e, fun e => by show nI (tK u n p) = _; rw [e]; rfl⟩
theorem ile_c (hl0 : l.1.stackTraces = false) (hJ : ∀ e ∈ RK, M.2.2 e.1 e.2.1 = e.2.2) (hT : tkAt u n p M) : AC l (pI pg 72) (fcI M (QE (endS u n p) M)) 0 0 [.ref 1] SHF M := by
  refine fw_of hl0 ⟨by decide +kernel, by decide +kernel, by decide +kernel⟩ rfl ?_
  refine ile_0 hJ hl0 (fun h => ?_) (fun h => ?_)
  · have hr : endS u n p = .inl (1, tS u n p) := by rw [endS, if_neg (fun e => h ((k3_iff hT).mpr e))]
    rw [hr]
    refine ⟨rfl, rfl, _, rfl, rfM_F rfF_rfl, fun f hf => ?_, fun a ha => ?_⟩
    · cases hf
      exact ⟨rfl, rfl, hT.1⟩
    · cases ha
  · have hr : endS u n p = .inr (tEe u n p) := by rw [endS, if_pos ((k3_iff hT).mp h)]
    rw [hr]
    refine ⟨rfl, rfl, _, rfl, rfF_rfl, fun f hf => ?_, fun a ha => ?_⟩
    · cases hf
    · cases ha
      exact ⟨rfl, hT.2.2, tkF_rfl⟩
theorem QE_y {r : Flt ⊕ Nat} {M M1 : aM} {y : Int32} (q : QE r M y M1) : y = Int32.ofInt 0 ∨ y = Int32.ofInt 1 := by
  cases r with
  | inl f => exact Or.inl (q.2.1 f rfl).1
  | inr a => exact Or.inr (q.2.2 a rfl).1
theorem rle_c (hl0 : l.1.stackTraces = false) (hJ : ∀ e ∈ RK, M.2.2 e.1 e.2.1 = e.2.2) (hB : CB n u M) (hp : p ≤ n) (h5 : M.1 2 5 = nI p) : AC l (pI pg 76) (fcI M (QE (endS u n p) M)) 0 0 [.ref 1] SHF M := by
  refine fw_of hl0 ⟨by decide +kernel, by decide +kernel, by decide +kernel⟩ rfl ?_
  refine rle_0 hJ hl0 (QA u n p M) (adv_c hl0 (rk_rt hJ rfl) hB hp h5) (fun M1 => QE (endS u n p) M1) (fun M1 e1 q1 => ile_c hl0 (by rw [e1]; exact hJ) q1.1) (fun M1 e1 q1 y3 M3 e3 q3 => ?_) (fun M1 e1 q1 y3 M3 e3 q3 => ?_)
  · rcases QE_y q3 with e | e
    · rw [e]
      decide
    · rw [e]
      decide
  · refine ⟨rfl, e3.trans e1, _, rfl, rfF_trans (rfF_of q1.2) q3.1, q3.2.1, fun a ha => ?_⟩
    have h := q3.2.2 a ha
    exact ⟨h.1, h.2.1, tkF_trans q1.2 h.2.2⟩
/-- what was a fault of the number is one of what hangs on it -/
theorem RN_pass {r r' : Flt ⊕ (Nat × Nat)} {f : Flt} {s : Nat} {M M1 : aM} {y : Int32} (hr : r = .inl f) (hr' : r' = .inl f) (e2 : M1.2.2 = M.2.2) (q : RN r s M y M1) : fcI M (RN r' s M) (.inl (some (.int y))) SHF M1 := by
  refine ⟨rfl, e2, _, rfl, q.1, fun g hg => ?_, fun a ha => ?_⟩
  · rw [hr'] at hg
    cases hg
    exact q.2.1 f hr
  · rw [hr'] at ha
    cases ha
theorem numS_id0 {m : Nat} {f : Flt} (h : numS u n 0 9999 p = .inl f) : idS u n m p = .inl f := by
  unfold numS at h
  unfold idS
  split at h
  · rename_i h1
    rw [if_pos h1]
    split at h
    · rename_i h2
      have h3 := vl_lt h1 h2
      rw [if_pos ⟨Nat.zero_le _, h3⟩] at h
      cases h
    · rename_i h2
      rw [if_neg h2]
      exact h
  · rename_i h1
    rw [if_neg h1]
    exact h
theorem numS_id1 {m : Nat} {a : Nat × Nat} (h : numS u n 0 9999 p = .inr a) : idS u n m p = if a.1 < m then .inr a else .inl (3, tS u n p) := by
  unfold numS at h
  unfold idS
  split at h
  · rename_i h1
    rw [if_pos h1]
    split at h
    · rename_i h2
      rw [if_pos h2]
      split at h
      · cases h
        rfl
      · cases h
    · cases h
  · cases h
theorem hpV_0 {m v : Nat} (hm : m < 2 ^ 31) (hv : v < 2 ^ 31) : hpV (nI m) (nI v) = 0 ↔ ¬ v < m := by
  have h0 : ¬ nI v < 0 := fun h => by
    have h2 : nI v < nI 0 := h
    rw [nI_ltI hv (by decide)] at h2
    omega
  unfold hpV
  rw [if_neg h0]
  by_cases e : v < m
  · rw [if_neg (by rw [nI_leI hm hv]; omega)]
    exact ⟨fun h => absurd h (by decide), fun h => absurd e h⟩
  · rw [if_pos (by rw [nI_leI hm hv]; omega)]
    exact ⟨fun _ => e, fun _ => rfl⟩
end RD
