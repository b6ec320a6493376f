/-! TOKENS of the class -/
/-- a byte as the tape holds it -/
def sB (b : Nat) : Int32 := if b < 128 then nI b else Int32.ofInt ((b : Int) - 256)
theorem sB_bl : ∀ u, u < 256 → (blV (sB u) = 0 ↔ isB u = false) := by decide +kernel
theorem sB_le : ∀ u, u < 256 → (leV (sB u) = 0 ↔ isLt u = false) := by decide +kernel
theorem sB_di : ∀ u, u < 256 → (diV (sB u) = 0 ↔ isDg u = false) := by decide +kernel
theorem sB_59 : ∀ u, u < 256 → (sB u = (Int8.ofInt 59).toInt32 ↔ u = 59) := by decide +kernel
theorem sB_dg : ∀ u, u < 256 → isDg u = true → sB u = nI u ∧ 48 ≤ u ∧ u ≤ 57 := by decide +kernel
theorem sB_lt : ∀ u, u < 256 → u < 128 → sB u = nI u := fun u _ h => by unfold sB; rw [if_pos h]
theorem nI_mulN (a b : Nat) : nI a * nI b = nI (a * b) := (Int32.ofNat_mul a b).symm
theorem nI_subN {a b : Nat} (h : b ≤ a) (ha : a < 2 ^ 31) : nI a - nI b = nI (a - b) := by
  rw [i_nI (by omega), Int32.toInt_sub, nI_toInt ha, nI_toInt (by omega), bm32 (by omega) (by omega)]
  omega
/-- the tape in the class: n bytes of it are read, u are they -/
def CB (n : Nat) (u : Nat → Nat) (M : aM) : Prop := n ≤ 800 ∧ (∀ i, u i < 256) ∧ M.1 2 2 = nI n ∧ ∀ i, i < n → M.1 3 i = sB (u i)
/-- all but the token at hand is as it was -/
def tkF (M M' : aM) : Prop := (∀ a k, (a = 2 → k ≠ 3 ∧ k ≠ 4 ∧ k ≠ 5) → M'.1 a k = M.1 a k) ∧ M'.2.1 = M.2.1
/-- the token at hand is the one from p on -/
def tkAt (u : Nat → Nat) (n p : Nat) (M : aM) : Prop := M.1 2 4 = nI (tkS u n p) ∧ M.1 2 3 = nI (tkK u n (tkS u n p)) ∧ M.1 2 5 = nI (tkE u n (tkS u n p))
theorem tkF_rfl {M : aM} : tkF M M := ⟨fun _ _ _ => rfl, rfl⟩
theorem tkF_trans {M M1 M2 : aM} (h1 : tkF M M1) (h2 : tkF M1 M2) : tkF M M2 := ⟨fun a k hk => (h2.1 a k hk).trans (h1.1 a k hk), h2.2.trans h1.2⟩
theorem tkF_set {M M1 : aM} {k0 : Nat} {x : Int32} (h : tkF M M1) (h0 : k0 = 3 ∨ k0 = 4 ∨ k0 = 5) : tkF M (aset M1 2 k0 (.int x)) := ⟨fun a k hk => by
  rw [set_1]
  by_cases e : a = 2
  · have h3 := hk e
    rw [if_pos e, if_neg (by omega)]
    exact h.1 a k hk
  · rw [if_neg e]
    exact h.1 a k hk, h.2⟩
theorem CB_F {n : Nat} {u : Nat → Nat} {M M1 : aM} (h : CB n u M) (hF : tkF M M1) : CB n u M1 := ⟨h.1, h.2.1, (hF.1 2 2 (fun _ => by decide)).trans h.2.2.1, fun i hi => (hF.1 3 i (fun e => absurd e (by decide))).trans (h.2.2.2 i hi)⟩
def QA (u : Nat → Nat) (n p : Nat) (M : aM) : aM → Prop := fun M' => tkAt u n p M' ∧ tkF M M'
section TK
variable {l : aL} {M : aM} {n p : Nat} {u : Nat → Nat}
theorem adv_wL (hl0 : l.1.stackTraces = false) (hJ : ∀ e ∈ RT2, M.2.2 e.1 e.2.1 = e.2.2) (hB : CB n u M) {s kk : Nat} (hs : s = tkS u n p) (hk : kk = tkK u n s) : ∀ q (M1 : aM), q ≤ n → M1.1 2 5 = nI q → M1.1 2 4 = nI s → M1.1 2 3 = nI kk → tkF M M1 → M1.2.2 = M.2.2 → scn (fun i => isLt (u i)) n q = tkE u n s → AW l (pI pg 48) (fcV M (QA u n p M)) 0 0 94 [(0, .ref 2)] [] SHF M1 := by
  refine scn_ind (f := fun i => isLt (u i)) (n := n) (fun q hq hf ih => ?_) (fun q hq => ?_)
  · intro M1 hn h5 h4 h3 hF e2 hE
    have hb := CB_F hB hF
    have a2 : M1.1 2 2 = nI n := hb.2.2.1
    have n8 := hb.1
    refine adv_94 (by rw [e2]; exact hJ) hl0 (fun h => ?_) (fun _ => ?_) (fun _ h => ?_) (fun _ _ => ?_)
    · rw [a2, h5] at h
      exact ge_no hq (by omega) h
    · rw [h5]
      exact vp_in_nI (by omega) (by decide)
    · rw [h5, nI_clamp (by omega), hb.2.2.2 q hq, sB_le _ (hb.2.1 q)] at h
      rw [h] at hf
      cases hf
    · refine ih _ (by omega) ?_ h4 h3 (tkF_set hF (by decide)) e2 (by rw [← hE, ← scn_go hq hf])
      show M1.1 2 5 + Int32.ofInt 1 = nI (q + 1)
      rw [h5]
      exact nI_1 _
  · intro M1 hn h5 h4 h3 hF e2 hE
    have hb := CB_F hB hF
    have a2 : M1.1 2 2 = nI n := hb.2.2.1
    have n8 := hb.1
    rw [scn_no hq] at hE
    have fin : fcV M (QA u n p M) (.inl none) SHF M1 := ⟨rfl, e2, rfl, ⟨by rw [h4, hs], by rw [h3, hk, hs], by rw [h5, hE, hs]⟩, hF⟩
    refine adv_94 (by rw [e2]; exact hJ) hl0 (fun _ => fin) (fun h => ?_) (fun _ _ => fin) (fun h1 h => ?_)
    · rw [a2, h5, nI_leI (by omega) (by omega)] at h
      rw [h5]
      exact vp_in_nI (by omega) (by decide)
    · rw [a2, h5, nI_leI (by omega) (by omega)] at h1
      rw [h5, nI_clamp (by omega), hb.2.2.2 q (by omega), sB_le _ (hb.2.1 q)] at h
      exact absurd ⟨by omega, by cases e : isLt (u q) with | true => rfl | false => exact absurd e h⟩ hq
theorem adv_wD (hl0 : l.1.stackTraces = false) (hJ : ∀ e ∈ RT2, M.2.2 e.1 e.2.1 = e.2.2) (hB : CB n u M) {s kk : Nat} (hs : s = tkS u n p) (hk : kk = tkK u n s) : ∀ q (M1 : aM), q ≤ n → M1.1 2 5 = nI q → M1.1 2 4 = nI s → M1.1 2 3 = nI kk → tkF M M1 → M1.2.2 = M.2.2 → scn (fun i => isDg (u i)) n q = tkE u n s → AW l (pI pg 48) (fcV M (QA u n p M)) 0 0 153 [(0, .ref 2)] [] SHF M1 := by
  refine scn_ind (f := fun i => isDg (u i)) (n := n) (fun q hq hf ih => ?_) (fun q hq => ?_)
  · intro M1 hn h5 h4 h3 hF e2 hE
    have hb := CB_F hB hF
    have a2 : M1.1 2 2 = nI n := hb.2.2.1
    have n8 := hb.1
    refine adv_153 (by rw [e2]; exact hJ) hl0 (fun h => ?_) (fun _ => ?_) (fun _ h => ?_) (fun _ _ => ?_)
    · rw [a2, h5] at h
      exact ge_no hq (by omega) h
    · rw [h5]
      exact vp_in_nI (by omega) (by decide)
    · rw [h5, nI_clamp (by omega), hb.2.2.2 q hq, sB_di _ (hb.2.1 q)] at h
      rw [h] at hf
      cases hf
    · refine ih _ (by omega) ?_ h4 h3 (tkF_set hF (by decide)) e2 (by rw [← hE, ← scn_go hq hf])
      show M1.1 2 5 + Int32.ofInt 1 = nI (q + 1)
      rw [h5]
      exact nI_1 _
  · intro M1 hn h5 h4 h3 hF e2 hE
    have hb := CB_F hB hF
    have a2 : M1.1 2 2 = nI n := hb.2.2.1
    have n8 := hb.1
    rw [scn_no hq] at hE
    have fin : fcV M (QA u n p M) (.inl none) SHF M1 := ⟨rfl, e2, rfl, ⟨by rw [h4, hs], by rw [h3, hk, hs], by rw [h5, hE, hs]⟩, hF⟩
    refine adv_153 (by rw [e2]; exact hJ) hl0 (fun _ => fin) (fun h => ?_) (fun _ _ => fin) (fun h1 h => ?_)
    · rw [a2, h5, nI_leI (by omega) (by omega)] at h
      rw [h5]
      exact vp_in_nI (by omega) (by decide)
    · rw [a2, h5, nI_leI (by omega) (by omega)] at h1
      rw [h5, nI_clamp (by omega), hb.2.2.2 q (by omega), sB_di _ (hb.2.1 q)] at h
      exact absurd ⟨by omega, by cases e : isDg (u q) with | true => rfl | false => exact absurd e h⟩ hq
theorem adv_c (hl0 : l.1.stackTraces = false) (hJ : ∀ e ∈ RT2, M.2.2 e.1 e.2.1 = e.2.2) (hB : CB n u M) (hp : p ≤ n) (h5 : M.1 2 5 = nI p) : AC l (pI pg 48) (fcV M (QA u n p M)) 0 0 [.ref 2] SHF M := by
  refine fw_of hl0 ⟨by decide +kernel, by decide +kernel, by decide +kernel⟩ rfl ?_
  refine adv_0 hJ hl0 ?_
  have fin : ∀ (q : Nat) (M1 : aM), q ≤ n → M1.1 2 4 = nI q → tkF M M1 → M1.2.2 = M.2.2 → q = tkS u n p → AW l (pI pg 48) (fcV M (QA u n p M)) 0 0 47 [(0, .ref 2)] [] SHF M1 := by
    intro q M1 hn h4 hF e2 hE
    have hb := CB_F hB hF
    have a2 : M1.1 2 2 = nI n := hb.2.2.1
    have n8 := hb.1
    have lt : M1.1 2 4 < M1.1 2 2 → q < n := fun h => by
      rw [a2, h4, nI_ltI (by omega) (by omega)] at h
      exact h
    have by_ : q < n → M1.1 3 (M1.1 2 4).toNatClampNeg = sB (u q) := fun h => by rw [h4, nI_clamp (by omega), hb.2.2.2 q h]
    have le0 : q < n → leV (M1.1 3 (M1.1 2 4).toNatClampNeg) = 0 → isLt (u q) = false := fun h h2 => by
      rw [by_ h, sB_le _ (hb.2.1 q)] at h2
      exact h2
    have le1 : q < n → ¬ leV (M1.1 3 (M1.1 2 4).toNatClampNeg) = 0 → isLt (u q) = true := fun h h2 => by
      rw [by_ h, sB_le _ (hb.2.1 q)] at h2
      cases e : isLt (u q) with
      | true => rfl
      | false => exact absurd e h2
    have di0 : q < n → diV (M1.1 3 (M1.1 2 4).toNatClampNeg) = 0 → isDg (u q) = false := fun h h2 => by
      rw [by_ h, sB_di _ (hb.2.1 q)] at h2
      exact h2
    have di1 : q < n → ¬ diV (M1.1 3 (M1.1 2 4).toNatClampNeg) = 0 → isDg (u q) = true := fun h h2 => by
      rw [by_ h, sB_di _ (hb.2.1 q)] at h2
      cases e : isDg (u q) with
      | true => rfl
      | false => exact absurd e h2
    have F : false ≠ true := by decide
    refine adv_47 (by rw [e2]; exact hJ) hl0 (fun h => ?_) (fun h h1 h2 h3 => ?_) (fun h h1 h2 h3 => ?_) (fun h h1 h2 => ?_) (fun h h1 => ?_) (fun h => ?_)
    · show vp_in (M1.1 2 4) 800
      have := lt h
      rw [h4]
      exact vp_in_nI (by omega) (by decide)
    · have g := lt h
      have g1 := le0 g h1
      have g2 := di0 g h2
      have g3 : ¬ u q = 59 := fun e => h3 (by
        show M1.1 3 (M1.1 2 4).toNatClampNeg = _
        rw [by_ g, sB_59 _ (hb.2.1 q)]
        exact e)
      refine ⟨rfl, e2, rfl, ⟨h4.trans (by rw [← hE]), ?_, ?_⟩, tkF_set (tkF_set (tkF_set hF (by decide)) (by decide)) (by decide)⟩
      · rw [← hE, tkK, if_pos g, if_neg (by rw [g1]; exact F), if_neg (by rw [g2]; exact F), if_neg g3]
        rfl
      · rw [← hE, tkE, if_pos g, if_neg (by rw [g1]; exact F), if_neg (by rw [g2]; exact F)]
        show M1.1 2 4 + Int32.ofInt 1 = nI (q + 1)
        rw [h4]
        exact nI_1 _
    · have g := lt h
      have g1 := le0 g h1
      have g2 := di0 g h2
      have g3 : u q = 59 := by
        have h4 : M1.1 3 (M1.1 2 4).toNatClampNeg = _ := h3
        rw [by_ g, sB_59 _ (hb.2.1 q)] at h4
        exact h4
      refine ⟨rfl, e2, rfl, ⟨h4.trans (by rw [← hE]), ?_, ?_⟩, tkF_set (tkF_set (tkF_set hF (by decide)) (by decide)) (by decide)⟩
      · rw [← hE, tkK, if_pos g, if_neg (by rw [g1]; exact F), if_neg (by rw [g2]; exact F), if_pos g3]
        rfl
      · rw [← hE, tkE, if_pos g, if_neg (by rw [g1]; exact F), if_neg (by rw [g2]; exact F)]
        show M1.1 2 4 + Int32.ofInt 1 = nI (q + 1)
        rw [h4]
        exact nI_1 _
    · have g := lt h
      have g1 := le0 g h1
      have g2 := di1 g h2
      refine adv_wD hl0 hJ hB (s := q) (kk := 2) hE ?_ q _ hn h4 h4 rfl (tkF_set (tkF_set hF (by decide)) (by decide)) e2 ?_
      · rw [tkK, if_pos g, if_neg (by rw [g1]; exact F), if_pos g2]
      · rw [tkE, if_pos g, if_neg (by rw [g1]; exact F), if_pos g2]
    · have g := lt h
      have g1 := le1 g h1
      refine adv_wL hl0 hJ hB (s := q) (kk := 1) hE ?_ q _ hn h4 h4 rfl (tkF_set (tkF_set hF (by decide)) (by decide)) e2 ?_
      · rw [tkK, if_pos g, if_pos g1]
      · rw [tkE, if_pos g, if_pos g1]
    · have g : ¬ q < n := fun g => h (by
        show M1.1 2 4 < M1.1 2 2
        rw [a2, h4, nI_ltI (by omega) (by omega)]
        exact g)
      refine ⟨rfl, e2, rfl, ⟨h4.trans (by rw [← hE]), ?_, ?_⟩, tkF_set (tkF_set hF (by decide)) (by decide)⟩
      · rw [← hE, tkK, if_neg g]
        rfl
      · rw [← hE, tkE, if_neg g]
        exact h4
  have loop : ∀ q (M1 : aM), q ≤ n → M1.1 2 4 = nI q → tkF M M1 → M1.2.2 = M.2.2 → scn (fun i => isB (u i)) n q = tkS u n p → AW l (pI pg 48) (fcV M (QA u n p M)) 0 0 8 [(0, .ref 2)] [] SHF M1 := by
    refine scn_ind (f := fun i => isB (u i)) (n := n) (fun q hq hf ih => ?_) (fun q hq => ?_)
    · intro M1 hn h4 hF e2 hE
      have hb := CB_F hB hF
      have a2 : M1.1 2 2 = nI n := hb.2.2.1
      have n8 := hb.1
      refine adv_8 (by rw [e2]; exact hJ) hl0 (fun h => ?_) (fun _ => ?_) (fun _ h => ?_) (fun _ _ => ?_)
      · rw [a2, h4] at h
        exact ge_no hq (by omega) h
      · rw [h4]
        exact vp_in_nI (by omega) (by decide)
      · rw [h4, nI_clamp (by omega), hb.2.2.2 q hq, sB_bl _ (hb.2.1 q)] at h
        rw [h] at hf
        cases hf
      · refine ih _ (by omega) ?_ (tkF_set hF (by decide)) e2 (by rw [← hE, ← scn_go hq hf])
        show M1.1 2 4 + Int32.ofInt 1 = nI (q + 1)
        rw [h4]
        exact nI_1 _
    · intro M1 hn h4 hF e2 hE
      have hb := CB_F hB hF
      have a2 : M1.1 2 2 = nI n := hb.2.2.1
      have n8 := hb.1
      rw [scn_no hq] at hE
      have f1 := fin q M1 hn h4 hF e2 hE
      refine adv_8 (by rw [e2]; exact hJ) hl0 (fun _ => f1) (fun h => ?_) (fun _ _ => f1) (fun h1 h => ?_)
      · rw [a2, h4, nI_leI (by omega) (by omega)] at h
        rw [h4]
        exact vp_in_nI (by omega) (by decide)
      · rw [a2, h4, nI_leI (by omega) (by omega)] at h1
        rw [h4, nI_clamp (by omega), hb.2.2.2 q (by omega), sB_bl _ (hb.2.1 q)] at h
        exact absurd ⟨by omega, by cases e : isB (u q) with | true => rfl | false => exact absurd e h⟩ hq
  exact loop p _ hp h5 (tkF_set tkF_rfl (by decide)) rfl rfl
theorem dig_c (hl0 : l.1.stackTraces = false) (hJ : ∀ e ∈ RT2, M.2.2 e.1 e.2.1 = e.2.2) {s e : Nat} (h3 : M.1 2 3 = nI 2) (h4 : M.1 2 4 = nI s) (h5 : M.1 2 5 = nI e) (h : s ≤ e) (he : e < 2 ^ 31) : AC l (pI pg 68) (pvI M (nI (e - s))) 0 0 [.ref 2] SHF M := by
  refine fw_of hl0 ⟨by decide +kernel, by decide +kernel, by decide +kernel⟩ rfl ?_
  refine dig_0 hJ (fun h => absurd h3 h) (fun _ => ?_)
  rw [h5, h4, nI_subN h he]
  exact pvI_of
theorem val_c (hl0 : l.1.stackTraces = false) (hJ : ∀ e ∈ RT2, M.2.2 e.1 e.2.1 = e.2.2) (hB : CB n u M) {s e : Nat} (h4 : M.1 2 4 = nI s) (h5 : M.1 2 5 = nI e) (h : s ≤ e) (he : e ≤ n) (hd : ∀ i, s ≤ i → i < e → isDg (u i) = true) : AC l (pI pg 69) (pvI M (nI (vlF u s (e - s)))) 0 0 [.ref 2] SHF M := by
  have n8 := hB.1
  refine fw_of hl0 ⟨by decide +kernel, by decide +kernel, by decide +kernel⟩ rfl ?_
  refine val_0 hJ ?_
  rw [h4]
  have loop : ∀ (d j : Nat), s + j + d = e → AW l (pI pg 69) (pvI M (nI (vlF u s (e - s)))) 0 0 7 [(2, .int (nI (s + j))), (1, .int (nI (vlF u s j))), (0, .ref 2)] [] SHF M := by
    intro d
    induction d with
    | zero =>
      intro j hj
      refine val_7 hJ (fun _ => ?_) (fun h1 => ?_) (fun h1 => ?_)
      · rw [show e - s = j by omega]
        exact pvI_of
      · rw [h5, nI_leI (by omega) (by omega)] at h1
        omega
      · rw [h5, nI_leI (by omega) (by omega)] at h1
        omega
    | succ d ih =>
      intro j hj
      refine val_7 hJ (fun h1 => ?_) (fun h1 => ?_) (fun h1 => ?_)
      · rw [h5, nI_leI (by omega) (by omega)] at h1
        omega
      · exact vp_in_nI (by omega) (by decide)
      · have q := sB_dg _ (hB.2.1 (s + j)) (hd (s + j) (by omega) (by omega))
        have e1 : nI (s + j) + Int32.ofInt 1 = nI (s + (j + 1)) := nI_1 _
        have e2 : nI (vlF u s j) * (Int8.ofInt 10).toInt32 + (M.1 3 (nI (s + j)).toNatClampNeg - (Int8.ofInt 48).toInt32) = nI (vlF u s (j + 1)) := by
          rw [nI_clamp (by omega), hB.2.2.2 _ (by omega), q.1, show (Int8.ofInt 10).toInt32 = nI 10 by decide, show (Int8.ofInt 48).toInt32 = nI 48 by decide, nI_subN q.2.1 (by omega), nI_mulN, nI_add]
          rfl
        rw [e1, e2]
        exact ih (j + 1) (by omega)
  exact loop (e - s) 0 (by omega)
end TK
