/-! feed and house: what becomes of the tape's size -/
theorem shI_ge : ∀ i, i < 4 → ¬ shI i < 0 := by decide
theorem shI_4 : shI 4 < 0 := by decide
theorem z_800 : (Int16.ofInt 800).toInt32 = nI 800 := by decide
theorem z_780 : (Int16.ofInt 780).toInt32 = nI 780 := by decide
theorem z_20 : (Int8.ofInt 20).toInt32 = nI 20 := by decide
def tbB (v : Int32) (i : Nat) : Int32 := vp_nar .byte ((v >>> (shI i &&& 31)).toInt8.toInt32)
def tbI (v : Int32) (i : Nat) : Int32 := (v >>> (shI i &&& 31)) &&& (Int16.ofInt 255).toInt32
def Q25 (s : Nat) (v : Int32) (M : aM) : aM → Prop := fun M' => M'.1 2 1 = nI (s + 4) ∧ (∀ i, i < 4 → M'.1 3 (s + i) = tbB v i) ∧ (∀ k, k < s ∨ s + 4 ≤ k → M'.1 3 k = M.1 3 k) ∧ ∀ a k, a ≠ 3 → (a = 2 → k ≠ 1) → M'.1 a k = M.1 a k
theorem c25 {l : aL} (hl0 : l.1.stackTraces = false) {M : aM} (hJ : ∀ e ∈ RT2, M.2.2 e.1 e.2.1 = e.2.2) {s : Nat} {v : Int32} (hs : s + 4 ≤ 800) (h : M.1 2 1 = nI s) : AC l (pI pg 25) (fcV M (Q25 s v M)) 0 0 [.ref 2, .int v] SHF M := by
  refine fw_of hl0 ⟨by decide +kernel, by decide +kernel, by decide +kernel⟩ rfl ?_
  refine s25_0 hJ ?_
  have loop : ∀ (d i : Nat) (M1 : aM), i + d = 4 → M1.2.2 = M.2.2 → M1.1 2 1 = nI (s + i) → (∀ j, j < i → M1.1 3 (s + j) = tbB v j) → (∀ k, k < s ∨ s + i ≤ k → M1.1 3 k = M.1 3 k) → (∀ a k, a ≠ 3 → (a = 2 → k ≠ 1) → M1.1 a k = M.1 a k) → AW l (pI pg 25) (fcV M (Q25 s v M)) 0 0 3 [(2, .int (shI i)), (0, .ref 2), (1, .int v)] [] SHF M1 := by
    intro d
    induction d with
    | zero =>
      intro i M1 hi h2 h3 h4 h5 h6
      have e : i = 4 := by omega
      subst e
      have no : ¬ ¬ (shI 4 < 0) := fun h => h shI_4
      exact s25_3 (by rw [h2]; exact hJ) (fun _ => ⟨rfl, h2, rfl, h3, h4, h5, h6⟩) (fun h => absurd h no) (fun h => absurd h no) (fun h => absurd h no)
    | succ d ih =>
      intro i M1 hi h2 h3 h4 h5 h6
      have hc : (nI (s + i)).toNatClampNeg = s + i := nI_clamp (by omega)
      refine s25_3 (by rw [h2]; exact hJ) (fun h => absurd h (shI_ge i (by omega))) (fun _ h => ?_) (fun _ _ => ?_) (fun _ _ => ?_)
      · rw [h3, z_800] at h
        exact ge_no (by omega) (by omega) h
      · rw [h3]
        exact vp_in_nI (by omega) (by decide)
      · show AW l (pI pg 25) (fcV M (Q25 s v M)) 0 0 3 [(2, .int (shI (i + 1))), (0, .ref 2), (1, .int v)] [] SHF _
        rw [h3, hc]
        refine ih (i + 1) _ (by omega) h2 ?_ (fun j hj => ?_) (fun k hk => ?_) (fun a k ha hk => ?_)
        · rw [set_1, if_pos rfl, if_pos rfl, set_1, if_neg (by decide), h3]
          exact nI_1 _
        · rw [set_1, if_neg (by decide), set_1, if_pos rfl]
          by_cases e : j = i
          · rw [if_pos (by omega), e]
            rfl
          · rw [if_neg (by omega)]
            exact h4 j (by omega)
        · rw [set_1, if_neg (by decide), set_1, if_pos rfl, if_neg (by omega)]
          exact h5 k (by omega)
        · rw [set_1]
          by_cases e : a = 2
          · rw [if_pos e, if_neg (hk e), set_1, if_neg ha]
            exact h6 a k ha hk
          · rw [if_neg e, set_1, if_neg ha]
            exact h6 a k ha hk
  exact loop 4 0 M rfl rfl h (fun j hj => absurd hj (Nat.not_lt_zero _)) (fun _ _ => rfl) (fun _ _ _ _ => rfl)
def Q172 (s : Nat) (v : Int32) (M : aM) : aM → Prop := fun M' => M'.1 58 12 = nI (s + 4) ∧ (∀ i, i < 4 → M'.1 65 (s + i) = tbI v i) ∧ (∀ k, k < s ∨ s + 4 ≤ k → M'.1 65 k = M.1 65 k) ∧ ∀ a k, a ≠ 65 → (a = 58 → k ≠ 12) → M'.1 a k = M.1 a k
theorem c172 {l : aL} (hl0 : l.1.stackTraces = false) {M : aM} (hJ : ∀ e ∈ RM, M.2.2 e.1 e.2.1 = e.2.2) {s : Nat} {v : Int32} (hs : s + 4 ≤ 800) (h : M.1 58 12 = nI s) : AC l (pI pg 173) (fcV M (Q172 s v M)) 0 0 [.ref 58, .int v] SHF M := by
  refine fw_of hl0 ⟨by decide +kernel, by decide +kernel, by decide +kernel⟩ rfl ?_
  refine s172_0 hJ ?_
  have loop : ∀ (d i : Nat) (M1 : aM), i + d = 4 → M1.2.2 = M.2.2 → M1.1 58 12 = nI (s + i) → (∀ j, j < i → M1.1 65 (s + j) = tbI v j) → (∀ k, k < s ∨ s + i ≤ k → M1.1 65 k = M.1 65 k) → (∀ a k, a ≠ 65 → (a = 58 → k ≠ 12) → M1.1 a k = M.1 a k) → AW l (pI pg 173) (fcV M (Q172 s v M)) 0 0 3 [(2, .int (shI i)), (0, .ref 58), (1, .int v)] [] SHF M1 := by
    intro d
    induction d with
    | zero =>
      intro i M1 hi h2 h3 h4 h5 h6
      have e : i = 4 := by omega
      subst e
      have no : ¬ ¬ (shI 4 < 0) := fun h => h shI_4
      exact s172_3 (by rw [h2]; exact hJ) (fun _ => ⟨rfl, h2, rfl, h3, h4, h5, h6⟩) (fun h => absurd h no) (fun h => absurd h no)
    | succ d ih =>
      intro i M1 hi h2 h3 h4 h5 h6
      have hc : (nI (s + i)).toNatClampNeg = s + i := nI_clamp (by omega)
      refine s172_3 (by rw [h2]; exact hJ) (fun h => absurd h (shI_ge i (by omega))) (fun _ => ?_) (fun _ => ?_)
      · rw [h3]
        exact vp_in_nI (by omega) (by decide)
      · show AW l (pI pg 173) (fcV M (Q172 s v M)) 0 0 3 [(2, .int (shI (i + 1))), (0, .ref 58), (1, .int v)] [] SHF _
        rw [h3, hc]
        refine ih (i + 1) _ (by omega) h2 ?_ (fun j hj => ?_) (fun k hk => ?_) (fun a k ha hk => ?_)
        · rw [set_1, if_pos rfl, if_pos rfl, set_1, if_neg (by decide), h3]
          exact nI_1 _
        · rw [set_1, if_neg (by decide), set_1, if_pos rfl]
          by_cases e : j = i
          · rw [if_pos (by omega), e]
            rfl
          · rw [if_neg (by omega)]
            exact h4 j (by omega)
        · rw [set_1, if_neg (by decide), set_1, if_pos rfl, if_neg (by omega)]
          exact h5 k (by omega)
        · rw [set_1]
          by_cases e : a = 58
          · rw [if_pos e, if_neg (hk e), set_1, if_neg ha]
            exact h6 a k ha hk
          · rw [if_neg e, set_1, if_neg ha]
            exact h6 a k ha hk
  exact loop 4 0 M rfl rfl h (fun j hj => absurd hj (Nat.not_lt_zero _)) (fun _ _ => rfl) (fun _ _ _ _ => rfl)
/-- the bytes that a feed lays: the k-th of them -/
def fdV (v1 v2 v3 v4 v5 : Int32) (k : Nat) : Int32 := match k / 4 with
  | 0 => v1
  | 1 => v2
  | 2 => v3
  | 3 => v4
  | _ => v5
/-- feed: the size, the bytes, nothing else -/
def Q24 (s : Nat) (f : Nat → Int32) (M : aM) : Int32 → aM → Prop := fun y M' => (s ≤ 780 ∧ y = nI (s + 20) ∧ M'.1 2 1 = nI (s + 20) ∧ (∀ k, k < 20 → M'.1 3 (s + k) = tbB (f k) (k % 4)) ∧ (∀ k, k < s ∨ s + 20 ≤ k → M'.1 3 k = M.1 3 k) ∧ ∀ a k, a ≠ 3 → (a = 2 → k ≠ 1) → M'.1 a k = M.1 a k) ∨ (780 < s ∧ y = Int32.ofInt (-1) ∧ M' = M)
theorem c24 {l : aL} (hl0 : l.1.stackTraces = false) {M : aM} {kc ks : Nat} (hJ : ∀ e ∈ RC, M.2.2 e.1 e.2.1 = e.2.2) {s : Nat} (hs : s ≤ 800) (h : M.1 2 1 = nI s) {v1 v2 v3 v4 v5 : Int32} : AC l (pI pg 24) (fcI M (Q24 s (fdV v1 v2 v3 v4 v5) M)) kc ks [.ref 0, .int v1, .int v2, .int v3, .int v4, .int v5] SHF M := by
  refine fw_of hl0 ⟨by decide +kernel, by decide +kernel, by decide +kernel⟩ rfl ?_
  have rt : ∀ M1 : aM, M1.2.2 = M.2.2 → ∀ e ∈ RT2, M1.2.2 e.1 e.2.1 = e.2.2 := fun M1 e1 e he => by
    rw [e1]
    refine hJ e ?_
    simp only [RT2, List.mem_cons, List.not_mem_nil, or_false] at he
    subst he
    decide
  have le : M.1 2 1 ≤ (Int16.ofInt 780).toInt32 → s ≤ 780 := fun h1 => by
    rw [h, z_780, nI_leI (by omega) (by omega)] at h1
    exact h1
  refine s24_0 hJ (Q25 s v1 M) (fun h1 => c25 hl0 (rt M rfl) (by have := le h1; omega) h) (fun M2 => Q25 (s + 4) v2 M2) (fun h1 M2 e2 q2 => c25 hl0 (rt M2 e2) (by have := le h1; omega) q2.1) (fun _ M4 => Q25 (s + 8) v3 M4) (fun h1 M2 e2 q2 M4 e4 q4 => c25 hl0 (rt M4 (e4.trans e2)) (by have := le h1; omega) q4.1) (fun _ _ M6 => Q25 (s + 12) v4 M6) (fun h1 M2 e2 q2 M4 e4 q4 M6 e6 q6 => c25 hl0 (rt M6 (e6.trans (e4.trans e2))) (by have := le h1; omega) q6.1) (fun _ _ _ M8 => Q25 (s + 16) v5 M8) (fun h1 M2 e2 q2 M4 e4 q4 M6 e6 q6 M8 e8 q8 => c25 hl0 (rt M8 (e8.trans (e6.trans (e4.trans e2)))) (by have := le h1; omega) q8.1) (fun h1 M2 e2 q2 M4 e4 q4 M6 e6 q6 M8 e8 q8 M10 e10 q10 => ?_) (fun h1 => ?_)
  · refine ⟨rfl, e10.trans (e8.trans (e6.trans (e4.trans e2))), _, rfl, Or.inl ⟨le h1, q10.1, q10.1, fun k hk => ?_, fun k hk => ?_, fun a k ha hk => ?_⟩⟩
    · have hm : k % 4 < 4 := Nat.mod_lt _ (by decide)
      have hd : k = 4 * (k / 4) + k % 4 := by omega
      have hq : k / 4 = 0 ∨ k / 4 = 1 ∨ k / 4 = 2 ∨ k / 4 = 3 ∨ k / 4 = 4 := by omega
      rcases hq with e | e | e | e | e
      · rw [q10.2.2.1 _ (by omega), q8.2.2.1 _ (by omega), q6.2.2.1 _ (by omega), q4.2.2.1 _ (by omega), show s + k = s + k % 4 by omega, q2.2.1 _ hm]
        simp only [fdV, e]
      · rw [q10.2.2.1 _ (by omega), q8.2.2.1 _ (by omega), q6.2.2.1 _ (by omega), show s + k = s + 4 + k % 4 by omega, q4.2.1 _ hm]
        simp only [fdV, e]
      · rw [q10.2.2.1 _ (by omega), q8.2.2.1 _ (by omega), show s + k = s + 8 + k % 4 by omega, q6.2.1 _ hm]
        simp only [fdV, e]
      · rw [q10.2.2.1 _ (by omega), show s + k = s + 12 + k % 4 by omega, q8.2.1 _ hm]
        simp only [fdV, e]
      · rw [show s + k = s + 16 + k % 4 by omega, q10.2.1 _ hm]
        simp only [fdV, e]
    · rw [q10.2.2.1 _ (by omega), q8.2.2.1 _ (by omega), q6.2.2.1 _ (by omega), q4.2.2.1 _ (by omega), q2.2.2.1 _ (by omega)]
    · rw [q10.2.2.2 a k ha hk, q8.2.2.2 a k ha hk, q6.2.2.2 a k ha hk, q4.2.2.2 a k ha hk, q2.2.2.2 a k ha hk]
  · refine ⟨rfl, rfl, _, rfl, Or.inr ⟨?_, rfl, rfl⟩⟩
    rw [h, z_780, nI_leI (by omega) (by omega)] at h1
    omega
def Q171 (s : Nat) (f : Nat → Int32) (M : aM) : Int32 → aM → Prop := fun y M' => (∀ a k, a ≠ 65 → (a = 58 → k ≠ 12 ∧ k ≠ 0) → M'.1 a k = M.1 a k) ∧ M'.1 58 0 = 0 ∧ ((s ≤ 780 ∧ y = nI (s + 20) ∧ M'.1 58 12 = nI (s + 20) ∧ (∀ k, k < 20 → M'.1 65 (s + k) = tbI (f k) (k % 4)) ∧ ∀ k, k < s ∨ s + 20 ≤ k → M'.1 65 k = M.1 65 k) ∨ (780 < s ∧ y = Int32.ofInt (-1) ∧ M'.1 58 12 = nI s ∧ ∀ k, M'.1 65 k = M.1 65 k))
theorem c171 {l : aL} (hl0 : l.1.stackTraces = false) {M : aM} {kc ks : Nat} (hJ : ∀ e ∈ RM, M.2.2 e.1 e.2.1 = e.2.2) {s : Nat} (hs : s ≤ 800) (h : M.1 58 12 = nI s) {v1 v2 v3 v4 v5 : Int32} : AC l (pI pg 172) (fcI M (Q171 s (fdV v1 v2 v3 v4 v5) M)) kc ks [.ref 58, .int v1, .int v2, .int v3, .int v4, .int v5] SHF M := by
  refine fw_of hl0 ⟨by decide +kernel, by decide +kernel, by decide +kernel⟩ rfl ?_
  have e0 : (aset M 58 0 (.int (Int32.ofInt 0))).1 58 12 = nI s := by rw [set_1, if_pos rfl, if_neg (by decide)]; exact h
  have rt : ∀ M1 : aM, M1.2.2 = (aset M 58 0 (.int (Int32.ofInt 0))).2.2 → ∀ e ∈ RM, M1.2.2 e.1 e.2.1 = e.2.2 := fun M1 e1 e he => by
    rw [e1]
    exact hJ e he
  have sm : nI s + (Int8.ofInt 20).toInt32 = nI (s + 20) := by rw [z_20, nI_add]
  have le : (aset M 58 0 (.int (Int32.ofInt 0))).1 58 12 + (Int8.ofInt 20).toInt32 ≤ (Int16.ofInt 800).toInt32 → s ≤ 780 := fun h1 => by
    rw [e0, sm, z_800, nI_leI (by omega) (by omega)] at h1
    omega
  have f0 : ∀ a k, (a = 58 → k ≠ 0) → (aset M 58 0 (.int (Int32.ofInt 0))).1 a k = M.1 a k := fun a k hk => by
    rw [set_1]
    by_cases e : a = 58
    · rw [if_pos e, if_neg (hk e)]
    · rw [if_neg e]
  refine s171_0 hJ (Q172 s v1 (aset M 58 0 (.int (Int32.ofInt 0)))) (fun h1 => c172 hl0 (rt _ rfl) (by have := le h1; omega) e0) (fun M2 => Q172 (s + 4) v2 M2) (fun h1 M2 e2 q2 => c172 hl0 (rt M2 e2) (by have := le h1; omega) q2.1) (fun _ M4 => Q172 (s + 8) v3 M4) (fun h1 M2 e2 q2 M4 e4 q4 => c172 hl0 (rt M4 (e4.trans e2)) (by have := le h1; omega) q4.1) (fun _ _ M6 => Q172 (s + 12) v4 M6) (fun h1 M2 e2 q2 M4 e4 q4 M6 e6 q6 => c172 hl0 (rt M6 (e6.trans (e4.trans e2))) (by have := le h1; omega) q6.1) (fun _ _ _ M8 => Q172 (s + 16) v5 M8) (fun h1 M2 e2 q2 M4 e4 q4 M6 e6 q6 M8 e8 q8 => c172 hl0 (rt M8 (e8.trans (e6.trans (e4.trans e2)))) (by have := le h1; omega) q8.1) (fun h1 M2 e2 q2 M4 e4 q4 M6 e6 q6 M8 e8 q8 M10 e10 q10 => ?_) (fun h1 => ?_)
  · refine ⟨rfl, e10.trans (e8.trans (e6.trans (e4.trans e2))), _, rfl, fun a k ha hk => ?_, ?_, Or.inl ⟨le h1, q10.1, q10.1, fun k hk => ?_, fun k hk => ?_⟩⟩
    · rw [q10.2.2.2 a k ha (fun e => (hk e).1), q8.2.2.2 a k ha (fun e => (hk e).1), q6.2.2.2 a k ha (fun e => (hk e).1), q4.2.2.2 a k ha (fun e => (hk e).1), q2.2.2.2 a k ha (fun e => (hk e).1)]
      exact f0 a k (fun e => (hk e).2)
    · rw [q10.2.2.2 58 0 (by decide) (by decide), q8.2.2.2 58 0 (by decide) (by decide), q6.2.2.2 58 0 (by decide) (by decide), q4.2.2.2 58 0 (by decide) (by decide), q2.2.2.2 58 0 (by decide) (by decide), set_1, if_pos rfl, if_pos rfl]
      rfl
    · have hm : k % 4 < 4 := Nat.mod_lt _ (by decide)
      have hd : k = 4 * (k / 4) + k % 4 := by omega
      have hq : k / 4 = 0 ∨ k / 4 = 1 ∨ k / 4 = 2 ∨ k / 4 = 3 ∨ k / 4 = 4 := by omega
      rcases hq with e | e | e | e | e
      · rw [q10.2.2.1 _ (by omega), q8.2.2.1 _ (by omega), q6.2.2.1 _ (by omega), q4.2.2.1 _ (by omega), show s + k = s + k % 4 by omega, q2.2.1 _ hm]
        simp only [fdV, e]
      · rw [q10.2.2.1 _ (by omega), q8.2.2.1 _ (by omega), q6.2.2.1 _ (by omega), show s + k = s + 4 + k % 4 by omega, q4.2.1 _ hm]
        simp only [fdV, e]
      · rw [q10.2.2.1 _ (by omega), q8.2.2.1 _ (by omega), show s + k = s + 8 + k % 4 by omega, q6.2.1 _ hm]
        simp only [fdV, e]
      · rw [q10.2.2.1 _ (by omega), show s + k = s + 12 + k % 4 by omega, q8.2.1 _ hm]
        simp only [fdV, e]
      · rw [show s + k = s + 16 + k % 4 by omega, q10.2.1 _ hm]
        simp only [fdV, e]
    · rw [q10.2.2.1 _ (by omega), q8.2.2.1 _ (by omega), q6.2.2.1 _ (by omega), q4.2.2.1 _ (by omega), q2.2.2.1 _ (by omega)]
      exact f0 _ _ (fun e => absurd e (by decide))
  · refine ⟨rfl, rfl, _, rfl, fun a k ha hk => f0 a k (fun e => (hk e).2), ?_, Or.inr ⟨?_, rfl, e0, fun k => f0 _ _ (fun e => absurd e (by decide))⟩⟩
    · rw [set_1, if_pos rfl, if_pos rfl]
      rfl
    · rw [e0, sm, z_800, nI_leI (by omega) (by omega)] at h1
      omega
/-- 'right' of the reference, with nothing thrown yet -/
theorem c174 {l : aL} (hl0 : l.1.stackTraces = false) {M : aM} (hJ : ∀ e ∈ RM, M.2.2 e.1 e.2.1 = e.2.2) (h0 : M.1 58 0 = 0) {b w : Int32} (hw : ¬ w = 0) : AC l (pI pg 175) (fcI M (fun y M' => (¬ b = 0 ∧ y = 1 ∧ M' = M) ∨ (b = 0 ∧ y = 0 ∧ M' = aset M 58 0 (.int w)))) 0 0 [.ref 58, .int b, .int w] SHF M := by
  refine fw_of hl0 ⟨by decide +kernel, by decide +kernel, by decide +kernel⟩ rfl ?_
  refine s174_0 hJ (fun h => absurd h0 h) (fun h => absurd h0 h) (fun _ _ h => absurd h0 h) (fun _ hb _ => ⟨rfl, rfl, _, rfl, Or.inl ⟨hb, rfl, rfl⟩⟩) (fun _ hb _ => ⟨rfl, rfl, _, rfl, Or.inr ⟨hb, rfl, rfl⟩⟩) (fun _ _ h => ?_)
  rw [set_1, if_pos rfl, if_pos rfl] at h
  exact absurd h hw
def en_houseT : cE := (174, [some (.inl (.ref 58)), some (.inr ((-2147483648), 2147483647))], [], ([59, 60, 61, 62, 63, 64, 66, 67, 68, 69, 70, 71, 72, 81], [(58, 1), (58, 2), (58, 3), (58, 4), (58, 13), (58, 14), (58, 16), (58, 17), (58, 18), (58, 19), (58, 20), (58, 21), (58, 23), (58, 24), (58, 25), (58, 26), (58, 27), (58, 28), (58, 35), (58, 36), (58, 45), (58, 51), (58, 57)]), [(some (some (.inr (0, 5))), [])], [], 0, 0)
theorem houseR_by {l : aL} {R : sR} {ct : List cE} {hs : List hdE} {ys : List sKy} {n : Nat} (hl0 : l.1.stackTraces = false) (hR : okR R) (h12 : rgF R.1 58 12 = some (0, 800)) (hct : ∀ e ∈ ct, cOk l pg R SHF e) (hA : mCF pg R SHF mtL ct en_houseT hs [] ys n 37 [(0, some (.inl (.ref 58))), (1, some (.inr (0, 800)))] = true) (w0 : wcF R.1 58 0 (0, 2) = true) (w12 : wcF R.1 58 12 (0, 800) = true) {M : aM} (hJ : JR R M) {x : Int32} : AC l (pI pg 174) (fcI M (fun _ M' => JR R M' ∧ (∀ k, M'.1 2 k = M.1 2 k) ∧ ((¬ x < 0 ∧ ¬ M.1 58 12 < x ∧ M'.1 58 12 = 0) ∨ ((x < 0 ∨ M.1 58 12 < x) ∧ M'.1 58 12 = M.1 58 12)))) 0 0 [.ref 58, .int x] SHF M := by
  refine fw_of hl0 ⟨by decide +kernel, by decide +kernel, by decide +kernel⟩ rfl ?_
  have hRM : ∀ e ∈ RM, M.2.2 e.1 e.2.1 = e.2.2 := fun e he => rgR_ok hJ.2 (hR.1 e he)
  have hz0 : (aset M 58 0 (.int (Int32.ofInt 0))).1 58 0 = 0 := by rw [set_1, if_pos rfl, if_pos rfl]; rfl
  have hz12 : (aset M 58 0 (.int (Int32.ofInt 0))).1 58 12 = M.1 58 12 := by rw [set_1, if_pos rfl, if_neg (by decide)]
  have J1 : ∀ (w : Int32), inI w (0, 2) → ∀ M1 : aM, JR R M1 → JR R (aset M1 58 0 (.int w)) := fun w hw M1 h1 => by
    have := J_setF (R := R) (W := ([], [(58, 0)])) (M0 := M1) (a := 58) (k := 0) ⟨h1.1, h1.2, fun _ _ _ => rfl, rfl⟩ w0 rfl hw
    exact ⟨this.1, this.2.1⟩
  have Ja := J1 (Int32.ofInt 0) ⟨by decide, by decide⟩ M hJ
  have bad : (x < 0 ∨ M.1 58 12 < x) → fcI M (fun _ M' => JR R M' ∧ (∀ k, M'.1 2 k = M.1 2 k) ∧ ((¬ x < 0 ∧ ¬ M.1 58 12 < x ∧ M'.1 58 12 = 0) ∨ ((x < 0 ∨ M.1 58 12 < x) ∧ M'.1 58 12 = M.1 58 12))) (.inl (some (.int (Int32.ofInt 0)))) SHF (aset (aset M 58 0 (.int (Int32.ofInt 0))) 58 0 (.int (Int32.ofInt 1))) := fun hx => ⟨rfl, rfl, _, rfl, J1 (Int32.ofInt 1) ⟨by decide, by decide⟩ _ Ja, fun k => rfl, Or.inr ⟨hx, rfl⟩⟩
  have c0 : AC l (pI pg 175) (fcI (aset M 58 0 (.int (Int32.ofInt 0))) (fun y M' => (¬ (Int32.ofInt 0 = 0) ∧ y = 1 ∧ M' = aset M 58 0 (.int (Int32.ofInt 0))) ∨ (Int32.ofInt 0 = 0 ∧ y = 0 ∧ M' = aset (aset M 58 0 (.int (Int32.ofInt 0))) 58 0 (.int (Int32.ofInt 1))))) 0 0 [.ref 58, .int (Int32.ofInt 0), .int (Int32.ofInt 1)] SHF (aset M 58 0 (.int (Int32.ofInt 0))) := c174 (M := aset M 58 0 (.int (Int32.ofInt 0))) (w := Int32.ofInt 1) hl0 hRM hz0 (by decide)
  have n0 : ¬ ¬ (Int32.ofInt 0 = 0) := fun h => h (by decide)
  refine s173_0 hRM _ (fun _ => c0) (fun h1 y M2 e2 q2 h4 => ?_) (fun h1 y M2 e2 q2 h4 => ?_) _ (fun _ _ => c0) (fun h1 h7 y M2 e2 q2 h4 => ?_) (fun h1 h7 y M2 e2 q2 h4 => ?_) (fun y M' => (¬ (Int32.ofInt 1 = 0) ∧ y = 1 ∧ M' = aset M 58 0 (.int (Int32.ofInt 0))) ∨ (Int32.ofInt 1 = 0 ∧ y = 0 ∧ M' = aset (aset M 58 0 (.int (Int32.ofInt 0))) 58 0 (.int (Int32.ofInt 1)))) (fun _ _ => c174 (M := aset M 58 0 (.int (Int32.ofInt 0))) (w := Int32.ofInt 1) hl0 hRM hz0 (by decide)) (fun h1 h7 y M2 e2 q2 h4 => ?_) (fun h1 h7 y M2 e2 q2 h4 => ?_)
  · rcases q2 with ⟨q, -⟩ | ⟨-, q, -⟩
    · exact absurd q n0
    · exact absurd q h4
  · rcases q2 with ⟨q, -⟩ | ⟨-, -, rfl⟩
    · exact absurd q n0
    · exact bad (Or.inl h1)
  · rcases q2 with ⟨q, -⟩ | ⟨-, q, -⟩
    · exact absurd q n0
    · exact absurd q h4
  · rcases q2 with ⟨q, -⟩ | ⟨-, -, rfl⟩
    · exact absurd q n0
    · rw [hz12] at h7
      exact bad (Or.inr h7)
  · rcases q2 with ⟨-, -, rfl⟩ | ⟨q, -⟩
    · rw [hz12] at h7
      have g := rgF_ok hJ.1 h12
      have g2 := g.2
      simp only at g2
      have a1 : 0 ≤ x.toInt := by
        rw [Int32.lt_iff_toInt_lt] at h1
        have : (0 : Int32).toInt = 0 := by decide
        omega
      have a2 : x.toInt ≤ 800 := by
        rw [Int32.lt_iff_toInt_lt] at h7
        omega
      have Jb : JR R (aset (aset M 58 0 (.int (Int32.ofInt 0))) 58 12 (.int (Int32.ofInt 0))) := by
        have := J_setF (R := R) (W := ([], [(58, 12)])) (M0 := aset M 58 0 (.int (Int32.ofInt 0))) (a := 58) (k := 12) (x := Int32.ofInt 0) ⟨Ja.1, Ja.2, fun _ _ _ => rfl, rfl⟩ w12 rfl ⟨by decide, by decide⟩
        exact ⟨this.1, this.2.1⟩
      refine (from_ok (e := en_houseT) (L0 := [(0, .ref 58), (1, .int x)]) pg_ok mtL_ok hl0 hct hA (fun _ h => absurd h List.not_mem_nil) (List.forall_mem_cons.mpr ⟨⟨_, rfl, rfl⟩, List.forall_mem_cons.mpr ⟨⟨_, rfl, x, rfl, a1, a2⟩, fun _ h => absurd h List.not_mem_nil⟩⟩) Jb (fun _ h => absurd h List.not_mem_nil)).post (fun r sh' M' hp => ?_)
      obtain ⟨p1, p2, p3⟩ := hp
      cases r with
      | inr X => exact absurd p3 List.not_mem_nil
      | inl v =>
        obtain ⟨c, c1, c2, -⟩ := p3
        have hc : c = (some (some (.inr (0, 5))), []) := by simpa [en_houseT, eC] using c1
        subst hc
        cases v with
        | none => cases c2
        | some v =>
          obtain ⟨y, rfl, -⟩ := c2
          refine ⟨p1, p2.2.2.2, y, rfl, ⟨p2.1, p2.2.1⟩, fun k => ?_, Or.inl ⟨h1, h7, ?_⟩⟩
          · rw [p2.2.2.1 2 k rfl]
            rfl
          · rw [p2.2.2.1 58 12 rfl, set_1, if_pos rfl, if_pos rfl]
            rfl
    · exact absurd q (by decide)
  · rcases q2 with ⟨-, q, -⟩ | ⟨q, -⟩
    · rw [q] at h4
      exact absurd h4 (by decide)
    · exact absurd q (by decide)
set_option maxRecDepth 100000 in
theorem cka_H : mCF pg RR SHF mtL ct_166 en_houseT [(91, [(0, some (.inl (.ref 58))), (1, some (.inr (0, 800)))], [(58, 13, (0, 0), none), (58, 17, (0, 800), none), (58, 18, (0, 4), none)], 1610, [0, (-2)], []), (91, [(0, some (.inl (.ref 58))), (1, some (.inr (0, 800)))], [(58, 13, (1, 5), none), (58, 17, (0, 800), none), (58, 18, (0, 4), none)], 1609, [0, (-2)], []), (240, [(0, some (.inl (.ref 58))), (1, some (.inr (0, 800))), (2, some (.inr (0, 8)))], [(58, 13, (0, 0), none), (58, 17, (0, 800), none), (58, 18, (0, 0), none)], 8, [(-1), 0], [])] [] [(0, 2, 0), (1, 58, 17)] 68 37 [(0, some (.inl (.ref 58))), (1, some (.inr (0, 800)))] = true := by decide +kernel
set_option maxRecDepth 100000 in
theorem ckb_H : mCF pg RRS SHF mtL cts_166 en_houseT [(91, [(0, some (.inl (.ref 58))), (1, some (.inr (0, 800)))], [(58, 13, (0, 0), none), (58, 17, (0, 800), none), (58, 18, (0, 4), none)], 1610, [0, (-2)], []), (91, [(0, some (.inl (.ref 58))), (1, some (.inr (0, 800)))], [(58, 13, (1, 5), none), (58, 17, (0, 800), none), (58, 18, (0, 4), none)], 1609, [0, (-2)], []), (240, [(0, some (.inl (.ref 58))), (1, some (.inr (0, 800))), (2, some (.inr (0, 8)))], [(58, 13, (0, 0), none), (58, 17, (0, 800), none), (58, 18, (0, 0), none)], 8, [(-1), 0], [])] [] [(0, 2, 0), (1, 58, 17)] 68 37 [(0, some (.inl (.ref 58))), (1, some (.inr (0, 800)))] = true := by decide +kernel
/-- how a memory stands: house at 4 or at 17 -/
def JX (M : aM) : Prop := JR RR M ∨ JR RRS M
theorem houseR {l : aL} (hl0 : l.1.stackTraces = false) {M : aM} (hJ : JX M) {x : Int32} : AC l (pI pg 174) (fcI M (fun _ M' => JX M' ∧ (∀ k, M'.1 2 k = M.1 2 k) ∧ ((¬ x < 0 ∧ ¬ M.1 58 12 < x ∧ M'.1 58 12 = 0) ∨ ((x < 0 ∨ M.1 58 12 < x) ∧ M'.1 58 12 = M.1 58 12)))) 0 0 [.ref 58, .int x] SHF M := by
  rcases hJ with hJ | hJ
  · refine (houseR_by hl0 okR_RR (by decide +kernel) (all_RR hl0) cka_H (by decide +kernel) (by decide +kernel) hJ).post hl0 (fun r sh' M' hp => ?_)
    obtain ⟨p1, p2, y, p3, p4, p5⟩ := hp
    exact ⟨p1, p2, y, p3, Or.inl p4, p5⟩
  · refine (houseR_by hl0 okR_RRS (by decide +kernel) (all_RRS hl0) ckb_H (by decide +kernel) (by decide +kernel) hJ).post hl0 (fun r sh' M' hp => ?_)
    obtain ⟨p1, p2, y, p3, p4, p5⟩ := hp
    exact ⟨p1, p2, y, p3, Or.inr p4, p5⟩
theorem fcV_of {l : aL} {R : sR} {e : cE} {M : aM} {av : List Value} (hl0 : l.1.stackTraces = false) (h : cOk l pg R SHF e) (hC : eC e = [(none, [])]) (hX : eX e = []) (hk : eKc e = 0) (hs : eKs e = 0) (hA : mL2 av (eA e)) (hJ : JR R M) (hB : ∀ q ∈ eB e, inI (M.1 q.1 q.2.1) q.2.2) : AC l (pI pg (eJ e)) (fcV M (fun M' => Jm R (eW e) M M')) 0 0 av SHF M := by
  have h1 := h M av hA hJ hB
  rw [hk, hs] at h1
  refine AC.post hl0 (fun r sh' M' hp => ?_) h1
  obtain ⟨p1, p2, p3⟩ := hp
  cases r with
  | inr X =>
    have p3 : X ∈ eX e := p3
    rw [hX] at p3
    exact absurd p3 List.not_mem_nil
  | inl v =>
    obtain ⟨c, c1, c2, -⟩ := p3
    rw [hC] at c1
    have c1 : c = (none, []) := by simpa using c1
    subst c1
    cases v with
    | none => exact ⟨p1, p2.2.2.2, rfl, p2⟩
    | some v => cases c2
/-- house and draft change places -/
theorem JR_swap {R S : sR} {M M' : aM} (h1 : S.1 = R.1) (hs : ∀ e ∈ S.2, ¬ (e.1 = 0 ∧ (e.2.1 = 1 ∨ e.2.1 = 2)) → e ∈ R.2) {p q : Nat} (hp : ∀ e ∈ S.2, e.1 = 0 → e.2.1 = 1 → e.2.2 = p) (hq : ∀ e ∈ S.2, e.1 = 0 → e.2.1 = 2 → e.2.2 = q) (hJ : JR R M) (hm : M'.1 = M.1) (h2 : M'.2.2 = upd2 (upd2 M.2.2 0 1 p) 0 2 q) : JR S M' := by
  refine ⟨fun e he => ?_, fun e he => ?_⟩
  · rw [h1] at he
    have := hJ.1 e he
    unfold rgOk at this ⊢
    rw [hm]
    exact this
  · rw [h2]
    simp only [upd2]
    by_cases e0 : e.1 = 0
    · rw [if_pos e0]
      by_cases e2 : e.2.1 = 2
      · rw [if_pos e2]
        exact (hq e he e0 e2).symm
      · rw [if_neg e2]
        by_cases e1 : e.2.1 = 1
        · rw [if_pos e0, if_pos e1]
          exact (hp e he e0 e1).symm
        · rw [if_pos e0, if_neg e1]
          exact hJ.2 e (hs e he (fun h => h.2.elim e1 e2))
    · rw [if_neg e0, if_neg e0]
      exact hJ.2 e (hs e he (fun h => e0 h.1))
/-- what house of the class does -/
def P39 (x : Int32) (M : aM) : aP := fun r sh' M' => sh' = SHF ∧ ((r = .inr "java/lang/IllegalArgumentException" ∧ M' = M ∧ (x < 0 ∨ ¬ x ≤ M.1 2 1)) ∨ ∃ y : Int32, r = .inl (some (.int y)) ∧ ¬ x < 0 ∧ x ≤ M.1 2 1 ∧ M'.1 2 1 = 0 ∧ M'.1 58 12 = M.1 58 12 ∧ JX M')
theorem c39a {l : aL} (hl0 : l.1.stackTraces = false) {M : aM} (hJ : JR RR M) {x : Int32} : AC l (pI pg 39) (P39 x M) 2 12 [.ref 0, .int x] SHF M := by
  refine fw_of hl0 ⟨by decide +kernel, by decide +kernel, by decide +kernel⟩ rfl ?_
  have hz : (Int32.ofInt 0).toNatClampNeg = 0 := by decide
  have r21 := rgF_ok hJ.1 (show rgF RR.1 2 1 = some (0, 800) by decide +kernel)
  have g2 := r21.2
  simp only at g2
  have rd : ¬ x < 0 → x ≤ M.1 2 1 → AC l (pI pg 45) (fcI M (fun y M' => inI y (0, 5) ∧ Jm RR (eW en_166) M M')) 0 0 [.ref 1, .ref 17, .int x] SHF M := by
    intro h1 h3
    rw [Int32.lt_iff_toInt_lt] at h1
    rw [Int32.le_iff_toInt_le] at h3
    have : (0 : Int32).toInt = 0 := by decide
    exact fcI_of (e := en_166) hl0 (all_RR hl0 _ List.mem_cons_self) rfl rfl rfl rfl ⟨rfl, rfl, ⟨x, rfl, by show (0 : Int) ≤ _; omega, by show _ ≤ (800 : Int); omega⟩, trivial⟩ hJ (fun _ h => absurd h List.not_mem_nil)
  have two : ∀ (y : Int32) (M4 : aM), Jm RR (eW en_166) M M4 → JR RR (aset (aset M4 2 1 (.int (Int32.ofInt 0))) 0 13 (.int ((aset M4 2 1 (.int (Int32.ofInt 0))).1 1 2))) := by
    intro y M4 q4
    have j1 := J_setF (R := RR) (W := ([], [(2, 1)])) (M0 := M4) (a := 2) (k := 1) (q := (0, 800)) (x := Int32.ofInt 0) ⟨q4.1, q4.2.1, fun _ _ _ => rfl, rfl⟩ (by decide +kernel) rfl ⟨by decide, by decide⟩
    have r12 := rgF_ok q4.1 (show rgF RR.1 1 2 = some ((-1), 800) by decide +kernel)
    have j2 := J_setF (R := RR) (W := ([], [(0, 13)])) (M0 := aset M4 2 1 (.int (Int32.ofInt 0))) (a := 0) (k := 13) (q := ((-1), 800)) (x := (aset M4 2 1 (.int (Int32.ofInt 0))).1 1 2) ⟨j1.1, j1.2.1, fun _ _ _ => rfl, rfl⟩ (by decide +kernel) rfl r12
    exact ⟨j2.1, j2.2.1⟩
  have sw : ∀ (M5 : aM), JR RR M5 → JR RRS (aset (aset M5 0 1 (.ref 17)) 0 2 (.ref 4)) := fun M5 h5 => JR_swap (R := RR) (S := RRS) (p := 17 + 1) (q := 4 + 1) rfl (by decide +kernel) (by decide +kernel) (by decide +kernel) h5 rfl rfl
  refine s39a_0 (kc := 1) (ks := 6) hJ.2 (fun h => ⟨rfl, Or.inl ⟨rfl, rfl, Or.inl h⟩⟩) (fun y M' => inI y (0, 5) ∧ Jm RR (eW en_166) M M') (fun h1 h3 => rd h1 h3) (fun y M4 M' => Jm RRS (eW ens_77) (aset (aset (aset (aset M4 2 1 (.int (Int32.ofInt 0))) 0 13 (.int ((aset M4 2 1 (.int (Int32.ofInt 0))).1 1 2))) 0 1 (.ref 17)) 0 2 (.ref 4)) M') (fun h1 h3 y M4 e4 q4 h6 => ?_) (fun h1 h3 y M4 e4 q4 h6 M7 e7 q7 => ?_) (fun h1 h3 y M4 e4 q4 h6 => ?_) (fun h1 h3 y M4 e4 q4 h6 => ?_) (fun h1 h3 => ⟨rfl, Or.inl ⟨rfl, rfl, Or.inr h3⟩⟩)
  · exact fcV_of (e := ens_77) hl0 (oks_77 hl0 (ctA_RRS hl0) _ List.mem_cons_self) rfl rfl rfl rfl ⟨rfl, trivial⟩ (sw _ (two y M4 q4.2)) (fun _ h => absurd h List.not_mem_nil)
  · refine ⟨rfl, Or.inr ⟨_, rfl, h1, h3, ?_, ?_, Or.inr ⟨q7.1, q7.2.1⟩⟩⟩
    · rw [q7.2.2.1 2 1 rfl]
      rfl
    · rw [q7.2.2.1 58 12 rfl]
      show M4.1 58 12 = M.1 58 12
      exact q4.2.2.2.1 58 12 rfl
  · exact vp_in_nI (n := 0) (by omega) (by decide)
  · rw [hz]
    have j3 := J_setA (R := RR) (W := ([57], [])) (M0 := aset (aset M4 2 1 (.int (Int32.ofInt 0))) 0 13 (.int ((aset M4 2 1 (.int (Int32.ofInt 0))).1 1 2))) (a := 57) (k := 0) (q := fullI) (x := (aset (aset M4 2 1 (.int (Int32.ofInt 0))) 0 13 (.int ((aset M4 2 1 (.int (Int32.ofInt 0))).1 1 2))).1 57 0 + Int32.ofInt 1) ⟨(two y M4 q4.2).1, (two y M4 q4.2).2, fun _ _ _ => rfl, rfl⟩ (by decide +kernel) rfl (in_full _)
    refine ⟨rfl, Or.inr ⟨_, rfl, h1, h3, rfl, ?_, Or.inl ⟨j3.1, j3.2.1⟩⟩⟩
    show M4.1 58 12 = M.1 58 12
    exact q4.2.2.2.1 58 12 rfl
theorem c39b {l : aL} (hl0 : l.1.stackTraces = false) {M : aM} (hJ : JR RRS M) {x : Int32} : AC l (pI pg 39) (P39 x M) 2 12 [.ref 0, .int x] SHF M := by
  refine fw_of hl0 ⟨by decide +kernel, by decide +kernel, by decide +kernel⟩ rfl ?_
  have hz : (Int32.ofInt 0).toNatClampNeg = 0 := by decide
  have r21 := rgF_ok hJ.1 (show rgF RRS.1 2 1 = some (0, 800) by decide +kernel)
  have g2 := r21.2
  simp only at g2
  have rd : ¬ x < 0 → x ≤ M.1 2 1 → AC l (pI pg 45) (fcI M (fun y M' => inI y (0, 5) ∧ Jm RRS (eW ens_166) M M')) 0 0 [.ref 1, .ref 4, .int x] SHF M := by
    intro h1 h3
    rw [Int32.lt_iff_toInt_lt] at h1
    rw [Int32.le_iff_toInt_le] at h3
    have : (0 : Int32).toInt = 0 := by decide
    exact fcI_of (e := ens_166) hl0 (all_RRS hl0 _ List.mem_cons_self) rfl rfl rfl rfl ⟨rfl, rfl, ⟨x, rfl, by show (0 : Int) ≤ _; omega, by show _ ≤ (800 : Int); omega⟩, trivial⟩ hJ (fun _ h => absurd h List.not_mem_nil)
  have two : ∀ (y : Int32) (M4 : aM), Jm RRS (eW ens_166) M M4 → JR RRS (aset (aset M4 2 1 (.int (Int32.ofInt 0))) 0 13 (.int ((aset M4 2 1 (.int (Int32.ofInt 0))).1 1 2))) := by
    intro y M4 q4
    have j1 := J_setF (R := RRS) (W := ([], [(2, 1)])) (M0 := M4) (a := 2) (k := 1) (q := (0, 800)) (x := Int32.ofInt 0) ⟨q4.1, q4.2.1, fun _ _ _ => rfl, rfl⟩ (by decide +kernel) rfl ⟨by decide, by decide⟩
    have r12 := rgF_ok q4.1 (show rgF RRS.1 1 2 = some ((-1), 800) by decide +kernel)
    have j2 := J_setF (R := RRS) (W := ([], [(0, 13)])) (M0 := aset M4 2 1 (.int (Int32.ofInt 0))) (a := 0) (k := 13) (q := ((-1), 800)) (x := (aset M4 2 1 (.int (Int32.ofInt 0))).1 1 2) ⟨j1.1, j1.2.1, fun _ _ _ => rfl, rfl⟩ (by decide +kernel) rfl r12
    exact ⟨j2.1, j2.2.1⟩
  have sw : ∀ (M5 : aM), JR RRS M5 → JR RR (aset (aset M5 0 1 (.ref 4)) 0 2 (.ref 17)) := fun M5 h5 => JR_swap (R := RRS) (S := RR) (p := 4 + 1) (q := 17 + 1) rfl (by decide +kernel) (by decide +kernel) (by decide +kernel) h5 rfl rfl
  refine s39b_0 (kc := 1) (ks := 6) hJ.2 (fun h => ⟨rfl, Or.inl ⟨rfl, rfl, Or.inl h⟩⟩) (fun y M' => inI y (0, 5) ∧ Jm RRS (eW ens_166) M M') (fun h1 h3 => rd h1 h3) (fun y M4 M' => Jm RR (eW en_77) (aset (aset (aset (aset M4 2 1 (.int (Int32.ofInt 0))) 0 13 (.int ((aset M4 2 1 (.int (Int32.ofInt 0))).1 1 2))) 0 1 (.ref 4)) 0 2 (.ref 17)) M') (fun h1 h3 y M4 e4 q4 h6 => ?_) (fun h1 h3 y M4 e4 q4 h6 M7 e7 q7 => ?_) (fun h1 h3 y M4 e4 q4 h6 => ?_) (fun h1 h3 y M4 e4 q4 h6 => ?_) (fun h1 h3 => ⟨rfl, Or.inl ⟨rfl, rfl, Or.inr h3⟩⟩)
  · exact fcV_of (e := en_77) hl0 (ok_77 hl0 (ctA_RR hl0) _ List.mem_cons_self) rfl rfl rfl rfl ⟨rfl, trivial⟩ (sw _ (two y M4 q4.2)) (fun _ h => absurd h List.not_mem_nil)
  · refine ⟨rfl, Or.inr ⟨_, rfl, h1, h3, ?_, ?_, Or.inl ⟨q7.1, q7.2.1⟩⟩⟩
    · rw [q7.2.2.1 2 1 rfl]
      rfl
    · rw [q7.2.2.1 58 12 rfl]
      show M4.1 58 12 = M.1 58 12
      exact q4.2.2.2.1 58 12 rfl
  · exact vp_in_nI (n := 0) (by omega) (by decide)
  · rw [hz]
    have j3 := J_setA (R := RRS) (W := ([57], [])) (M0 := aset (aset M4 2 1 (.int (Int32.ofInt 0))) 0 13 (.int ((aset M4 2 1 (.int (Int32.ofInt 0))).1 1 2))) (a := 57) (k := 0) (q := fullI) (x := (aset (aset M4 2 1 (.int (Int32.ofInt 0))) 0 13 (.int ((aset M4 2 1 (.int (Int32.ofInt 0))).1 1 2))).1 57 0 + Int32.ofInt 1) ⟨(two y M4 q4.2).1, (two y M4 q4.2).2, fun _ _ _ => rfl, rfl⟩ (by decide +kernel) rfl (in_full _)
    refine ⟨rfl, Or.inr ⟨_, rfl, h1, h3, rfl, ?_, Or.inr ⟨j3.1, j3.2.1⟩⟩⟩
    show M4.1 58 12 = M.1 58 12
    exact q4.2.2.2.1 58 12 rfl
theorem houseC {l : aL} (hl0 : l.1.stackTraces = false) {M : aM} (hJ : JX M) {x : Int32} : AC l (pI pg 39) (P39 x M) 2 12 [.ref 0, .int x] SHF M := hJ.elim (fun h => c39a hl0 h) (fun h => c39b hl0 h)
