/-! TOKENS of the reference -/
theorem set_L {M : aM} {a k : Nat} {x : Int64} (b c : Nat) : (aset M a k (.long x)).2.1 b c = if b = a then (if c = k then x else M.2.1 b c) else M.2.1 b c := rfl
theorem nU_le : ∀ u, u < 256 → (leV (nI u) = 0 ↔ isLt u = false) := by decide +kernel
theorem nU_di : ∀ u, u < 256 → (diV (nI u) = 0 ↔ isDg u = false) := by decide +kernel
theorem nU_59 : ∀ u, u < 256 → (nI u = (Int8.ofInt 59).toInt32 ↔ u = 59) := by decide +kernel
theorem nU_32 : ∀ u, u < 256 → (nI u = (Int8.ofInt 32).toInt32 ↔ u = 32) := by decide +kernel
theorem nU_10 : ∀ u, u < 256 → (nI u = (Int8.ofInt 10).toInt32 ↔ u = 10) := by decide +kernel
theorem dg_48 : ∀ u, u < 256 → isDg u = true → 48 ≤ u ∧ u ≤ 57 := by decide +kernel
theorem isB_iff (u : Nat) : isB u = true ↔ u = 32 ∨ u = 10 := by
  rw [isB, Bool.or_eq_true]
  exact or_congr ⟨Nat.eq_of_beq_eq_true, fun e => by rw [e]; rfl⟩ ⟨Nat.eq_of_beq_eq_true, fun e => by rw [e]; rfl⟩
/-- the tape in the reference -/
def RB (n : Nat) (u : Nat → Nat) (M : aM) : Prop := n ≤ 800 ∧ (∀ i, u i < 256) ∧ M.1 58 16 = nI n ∧ ∀ i, i < n → M.1 65 i = nI (u i)
theorem RB_by {n : Nat} {u : Nat → Nat} {M : aM} (h : RB n u M) {q : Nat} (hq : q < n) : byV M (nI q) = nI (u q) := by
  have n8 := h.1
  rw [byV, if_neg (by rw [h.2.2.1]; exact nI_ge hq (by omega)), nI_clamp (by omega), h.2.2.2 q hq]
theorem RB_by0 {n : Nat} {u : Nat → Nat} {M : aM} (h : RB n u M) {q : Nat} (hq : n ≤ q) (h2 : q < 2 ^ 31) : byV M (nI q) = nI 0 := by
  have n8 := h.1
  rw [byV, if_pos (by rw [h.2.2.1, nI_leI (by omega) h2]; exact hq)]
  rfl
theorem RB_vp {n : Nat} {u : Nat → Nat} {M : aM} (h : RB n u M) {q : Nat} (hq : q ≤ n) : ¬ M.1 58 16 ≤ nI q → vp_in (nI q) 800 := fun h1 => by
  have n8 := h.1
  rw [h.2.2.1, nI_leI (by omega) (by omega)] at h1
  exact vp_in_nI (by omega) (by decide)
/-- the letters of a word, five bits each, six at most -/
def wdF (u : Nat → Nat) (s : Nat) : Nat → Int64
  | 0 => 0
  | j + 1 => if j < 6 then (wdF u s j <<< ((Int32.ofInt 5).toInt64 &&& 63)) ||| (nI (u (s + j)) - (Int8.ofInt 96).toInt32).toInt64 else wdF u s j
def stF (M M' : aM) : Prop := (∀ a k, (a = 58 → k < 17 ∨ 21 < k) → M'.1 a k = M.1 a k) ∧ ∀ a k, (a = 58 → k ≠ 22) → M'.2.1 a k = M.2.1 a k
def stAt (u : Nat → Nat) (n p : Nat) (M : aM) : Prop := M.1 58 19 = nI (tkS u n p) ∧ M.1 58 18 = nI (tkK u n (tkS u n p)) ∧ M.1 58 17 = nI (tkE u n (tkS u n p)) ∧ M.1 58 20 = nI (tkE u n (tkS u n p) - tkS u n p) ∧ (tkK u n (tkS u n p) = 2 → M.1 58 21 = nI (vlF u (tkS u n p) (min (tkE u n (tkS u n p) - tkS u n p) 4))) ∧ (tkK u n (tkS u n p) = 1 → M.2.1 58 22 = wdF u (tkS u n p) (tkE u n (tkS u n p) - tkS u n p))
theorem stF_rfl {M : aM} : stF M M := ⟨fun _ _ _ => rfl, fun _ _ _ => rfl⟩
theorem stF_trans {M M1 M2 : aM} (h1 : stF M M1) (h2 : stF M1 M2) : stF M M2 := ⟨fun a k hk => (h2.1 a k hk).trans (h1.1 a k hk), fun a k hk => (h2.2 a k hk).trans (h1.2 a k hk)⟩
theorem stF_set {M M1 : aM} {k0 : Nat} {x : Int32} (h : stF M M1) (h0 : 17 ≤ k0 ∧ k0 ≤ 21) : stF M (aset M1 58 k0 (.int x)) := ⟨fun a k hk => by
  rw [set_1]
  by_cases e : a = 58
  · have h3 := hk e
    rw [if_pos e, if_neg (by omega)]
    exact h.1 a k hk
  · rw [if_neg e]
    exact h.1 a k hk, h.2⟩
theorem stF_setL {M M1 : aM} {x : Int64} (h : stF M M1) : stF M (aset M1 58 22 (.long x)) := ⟨h.1, fun a k hk => by
  rw [set_L]
  by_cases e : a = 58
  · rw [if_pos e, if_neg (hk e)]
    exact h.2 a k hk
  · rw [if_neg e]
    exact h.2 a k hk⟩
theorem RB_F {n : Nat} {u : Nat → Nat} {M M1 : aM} (h : RB n u M) (hF : stF M M1) : RB n u M1 := ⟨h.1, h.2.1, (hF.1 58 16 (fun _ => by decide)).trans h.2.2.1, fun i hi => (hF.1 65 i (fun e => absurd e (by decide))).trans (h.2.2.2 i hi)⟩
def QS (u : Nat → Nat) (n p : Nat) (M : aM) : aM → Prop := fun M' => stAt u n p M' ∧ stF M M'
section ST
variable {l : aL} {M : aM} {n p : Nat} {u : Nat → Nat}
theorem stp_end (hl0 : l.1.stackTraces = false) (hJ : ∀ e ∈ RM, M.2.2 e.1 e.2.1 = e.2.2) (hp : p ≤ n) (n8 : n ≤ 800) {M1 : aM} {s e : Nat} (hs : s = tkS u n p) (he : e = tkE u n s) (h19 : M1.1 58 19 = nI s) (h18 : M1.1 58 18 = nI (tkK u n s)) (h17 : M1.1 58 17 = nI e) (h21 : tkK u n s = 2 → M1.1 58 21 = nI (vlF u s (min (e - s) 4))) (h22 : tkK u n s = 1 → M1.2.1 58 22 = wdF u s (e - s)) (hF : stF M M1) (e2 : M1.2.2 = M.2.2) : AW l (pI pg 176) (fcV M (QS u n p M)) 0 0 278 [(0, .ref 58)] [] SHF M1 := by
  refine stp_278 (by rw [e2]; exact hJ) hl0 ?_
  subst he
  subst hs
  have g1 : tkS u n p ≤ tkE u n (tkS u n p) := tkE_ge
  have g2 : tkE u n (tkS u n p) ≤ n := tkE_le (tkS_le hp)
  refine ⟨rfl, e2, rfl, ⟨h19, h18, h17, ?_, h21, h22⟩, stF_set hF (by decide)⟩
  show M1.1 58 17 - M1.1 58 19 = _
  rw [h17, h19, nI_subN g1 (by omega)]
theorem stp_wL (hl0 : l.1.stackTraces = false) (hJ : ∀ e ∈ RM, M.2.2 e.1 e.2.1 = e.2.2) (hp : p ≤ n) (hB : RB n u M) {s : Nat} (hs : s = tkS u n p) (hk : tkK u n s = 1) (hE0 : tkE u n s = scn (fun i => isLt (u i)) n s) : ∀ q (M1 : aM), q ≤ n → s ≤ q → M1.1 58 17 = nI q → M1.1 58 19 = nI s → M1.2.1 58 22 = wdF u s (q - s) → stF M M1 → M1.2.2 = M.2.2 → scn (fun i => isLt (u i)) n q = tkE u n s → AW l (pI pg 176) (fcV M (QS u n p M)) 0 0 103 [(0, .ref 58)] [] SHF M1 := by
  refine scn_ind (f := fun i => isLt (u i)) (n := n) (fun q hq hf ih => ?_) (fun q hq => ?_)
  · intro M1 hn sq h17 h19 hv hF e2 hE
    have hb := RB_F hB hF
    have n8 := hb.1
    have e3 : byV M1 (M1.1 58 17) = nI (u q) := by rw [h17]; exact RB_by hb hq
    have e4 : M1.1 58 17 - M1.1 58 19 = nI (q - s) := by rw [h17, h19]; exact nI_subN sq (by omega)
    have e5 : q + 1 - s = (q - s) + 1 := by omega
    have e6 : s + (q - s) = q := by omega
    refine stp_103 (by rw [e2]; exact hJ) hl0 ?_ (fun h => ?_) (fun _ h => ?_) (fun _ h => ?_)
    · rw [h17]
      exact RB_vp hb hn
    · rw [e3, nU_le _ (hb.2.1 q)] at h
      rw [h] at hf
      cases hf
    · rw [e4, show ((Int8.ofInt 6).toInt32 : Int32) = nI 6 by decide, nI_leI (by omega) (by omega)] at h
      refine stp_154 (by rw [e2]; exact hJ) hl0 ?_
      refine ih _ (by omega) (by omega) ?_ h19 ?_ (stF_set hF (by decide)) e2 (by rw [← hE, ← scn_go hq hf])
      · show M1.1 58 17 + Int32.ofInt 1 = nI (q + 1)
        rw [h17]
        exact nI_1 _
      · show M1.2.1 58 22 = wdF u s (q + 1 - s)
        rw [e5, wdF, if_neg (by omega)]
        exact hv
    · rw [e4, show ((Int8.ofInt 6).toInt32 : Int32) = nI 6 by decide, nI_leI (by omega) (by omega)] at h
      refine stp_154 (by show ∀ e ∈ RM, M1.2.2 e.1 e.2.1 = e.2.2; rw [e2]; exact hJ) hl0 ?_
      refine ih _ (by omega) (by omega) ?_ h19 ?_ (stF_set (stF_setL hF) (by decide)) e2 (by rw [← hE, ← scn_go hq hf])
      · show M1.1 58 17 + Int32.ofInt 1 = nI (q + 1)
        rw [h17]
        exact nI_1 _
      · show (M1.2.1 58 22 <<< ((Int32.ofInt 5).toInt64 &&& 63)) ||| (byV M1 (M1.1 58 17) - (Int8.ofInt 96).toInt32).toInt64 = wdF u s (q + 1 - s)
        rw [e5, wdF, if_pos (by omega), e6, hv, e3]
  · intro M1 hn sq h17 h19 hv hF e2 hE
    have hb := RB_F hB hF
    have n8 := hb.1
    rw [scn_no hq] at hE
    have z : leV (byV M1 (M1.1 58 17)) = 0 := by
      rw [h17]
      by_cases e : q < n
      · rw [RB_by hb e, nU_le _ (hb.2.1 q)]
        cases e2 : isLt (u q) with
        | false => rfl
        | true => exact absurd ⟨e, e2⟩ hq
      · rw [RB_by0 hb (by omega) (by omega)]
        decide
    refine stp_103 (by rw [e2]; exact hJ) hl0 ?_ (fun _ => ?_) (fun h => absurd z h) (fun h => absurd z h)
    · rw [h17]
      exact RB_vp hb hn
    · refine stp_end hl0 hJ hp n8 hs hE h19 ?_ h17 (fun e => by rw [hk] at e; cases e) (fun _ => hv) (stF_set hF (by decide)) e2
      rw [hk]
      rfl
theorem stp_wD (hl0 : l.1.stackTraces = false) (hJ : ∀ e ∈ RM, M.2.2 e.1 e.2.1 = e.2.2) (hp : p ≤ n) (hB : RB n u M) {s : Nat} (hs : s = tkS u n p) (hk : tkK u n s = 2) (hE0 : tkE u n s = scn (fun i => isDg (u i)) n s) : ∀ q (M1 : aM), q ≤ n → s ≤ q → M1.1 58 17 = nI q → M1.1 58 19 = nI s → M1.1 58 21 = nI (vlF u s (min (q - s) 4)) → stF M M1 → M1.2.2 = M.2.2 → scn (fun i => isDg (u i)) n q = tkE u n s → AW l (pI pg 176) (fcV M (QS u n p M)) 0 0 182 [(0, .ref 58)] [] SHF M1 := by
  refine scn_ind (f := fun i => isDg (u i)) (n := n) (fun q hq hf ih => ?_) (fun q hq => ?_)
  · intro M1 hn sq h17 h19 hv hF e2 hE
    have hb := RB_F hB hF
    have n8 := hb.1
    have e3 : byV M1 (M1.1 58 17) = nI (u q) := by rw [h17]; exact RB_by hb hq
    have e4 : M1.1 58 17 - M1.1 58 19 = nI (q - s) := by rw [h17, h19]; exact nI_subN sq (by omega)
    have e5 : q + 1 - s = (q - s) + 1 := by omega
    have e6 : s + (q - s) = q := by omega
    refine stp_182 (by rw [e2]; exact hJ) hl0 ?_ (fun h => ?_) (fun _ h => ?_) (fun _ h => ?_)
    · rw [h17]
      exact RB_vp hb hn
    · rw [e3, nU_di _ (hb.2.1 q)] at h
      rw [h] at hf
      cases hf
    · rw [e4, show (Int32.ofInt 4 : Int32) = nI 4 by decide, nI_leI (by omega) (by omega)] at h
      refine stp_232 (by rw [e2]; exact hJ) hl0 ?_
      refine ih _ (by omega) (by omega) ?_ h19 ?_ (stF_set hF (by decide)) e2 (by rw [← hE, ← scn_go hq hf])
      · show M1.1 58 17 + Int32.ofInt 1 = nI (q + 1)
        rw [h17]
        exact nI_1 _
      · show M1.1 58 21 = nI (vlF u s (min (q + 1 - s) 4))
        rw [hv, show min (q + 1 - s) 4 = min (q - s) 4 by omega]
    · rw [e4, show (Int32.ofInt 4 : Int32) = nI 4 by decide, nI_leI (by omega) (by omega)] at h
      refine stp_232 (by show ∀ e ∈ RM, M1.2.2 e.1 e.2.1 = e.2.2; rw [e2]; exact hJ) hl0 ?_
      refine ih _ (by omega) (by omega) ?_ h19 ?_ (stF_set (stF_set hF (by decide)) (by decide)) e2 (by rw [← hE, ← scn_go hq hf])
      · show M1.1 58 17 + Int32.ofInt 1 = nI (q + 1)
        rw [h17]
        exact nI_1 _
      · show ((Int8.ofInt 10).toInt32 * M1.1 58 21 + byV M1 (M1.1 58 17)) - (Int8.ofInt 48).toInt32 = nI (vlF u s (min (q + 1 - s) 4))
        have d := dg_48 _ (hb.2.1 q) hf
        have b1 : vlF u s (q - s) + 1 ≤ 10 ^ (q - s) := vlF_lt (q - s) (fun i hi => (scn_in (f := fun i => isDg (u i)) (n := n) s (s + i) (by omega) (by have g : q ≤ scn (fun i => isDg (u i)) n s := (by rw [← hE0, ← hE]; exact scn_ge q); omega)).2)
        rw [hv, e3, show min (q + 1 - s) 4 = (q - s) + 1 by omega, show min (q - s) 4 = q - s by omega]
        have b2 : 10 ^ (q - s) ≤ 10 ^ 3 := Nat.pow_le_pow_right (by decide) (by omega)
        have b3 : (10 : Nat) ^ 3 = 1000 := by decide
        rw [show (Int8.ofInt 10).toInt32 = nI 10 by decide, show (Int8.ofInt 48).toInt32 = nI 48 by decide, nI_mulN, nI_add, nI_subN (by omega) (by omega)]
        show _ = nI (vlF u s (q - s) * 10 + (u (s + (q - s)) - 48))
        rw [e6]
        congr 1
        omega
  · intro M1 hn sq h17 h19 hv hF e2 hE
    have hb := RB_F hB hF
    have n8 := hb.1
    rw [scn_no hq] at hE
    have z : diV (byV M1 (M1.1 58 17)) = 0 := by
      rw [h17]
      by_cases e : q < n
      · rw [RB_by hb e, nU_di _ (hb.2.1 q)]
        cases e2 : isDg (u q) with
        | false => rfl
        | true => exact absurd ⟨e, e2⟩ hq
      · rw [RB_by0 hb (by omega) (by omega)]
        decide
    refine stp_182 (by rw [e2]; exact hJ) hl0 ?_ (fun _ => ?_) (fun h => absurd z h) (fun h => absurd z h)
    · rw [h17]
      exact RB_vp hb hn
    · refine stp_end hl0 hJ hp n8 hs hE h19 ?_ h17 (fun _ => hv) (fun e => by rw [hk] at e; cases e) (stF_set hF (by decide)) e2
      rw [hk]
      rfl
theorem stp_c (hl0 : l.1.stackTraces = false) (hJ : ∀ e ∈ RM, M.2.2 e.1 e.2.1 = e.2.2) (hB : RB n u M) (hp : p ≤ n) (h17 : M.1 58 17 = nI p) : AC l (pI pg 176) (fcV M (QS u n p M)) 0 0 [.ref 58] SHF M := by
  refine fw_of hl0 ⟨by decide +kernel, by decide +kernel, by decide +kernel⟩ rfl ?_
  have fin : ∀ (q : Nat) (M1 : aM), q ≤ n → M1.1 58 17 = nI q → stF M M1 → M1.2.2 = M.2.2 → q = tkS u n p → AW l (pI pg 176) (fcV M (QS u n p M)) 0 0 50 [(0, .ref 58)] [] SHF M1 := by
    intro q M1 hn h17 hF e2 hE
    have hb := RB_F hB hF
    have n8 := hb.1
    have F : false ≠ true := by decide
    refine stp_50 (by rw [e2]; exact hJ) hl0 ?_ ?_
    · show ¬ M1.1 58 16 ≤ M1.1 58 17 → vp_in (M1.1 58 17) 800
      rw [h17]
      exact RB_vp hb hn
    · have hF2 : stF M (aset (aset (aset M1 58 19 (.int (M1.1 58 17))) 58 22 (.long (Int64.ofNat (0 : Fin 2)))) 58 21 (.int (Int32.ofInt 0))) := stF_set (stF_setL (stF_set hF (by decide))) (by decide)
      have h0 : (aset (aset (aset M1 58 19 (.int (M1.1 58 17))) 58 22 (.long (Int64.ofNat (0 : Fin 2)))) 58 21 (.int (Int32.ofInt 0))).1 58 17 = nI q := h17
      have h1 : (aset (aset (aset M1 58 19 (.int (M1.1 58 17))) 58 22 (.long (Int64.ofNat (0 : Fin 2)))) 58 21 (.int (Int32.ofInt 0))).1 58 19 = nI q := h17
      have h3 : (aset (aset (aset M1 58 19 (.int (M1.1 58 17))) 58 22 (.long (Int64.ofNat (0 : Fin 2)))) 58 21 (.int (Int32.ofInt 0))).1 58 21 = nI 0 := rfl
      have h4 : (aset (aset (aset M1 58 19 (.int (M1.1 58 17))) 58 22 (.long (Int64.ofNat (0 : Fin 2)))) 58 21 (.int (Int32.ofInt 0))).2.1 58 22 = 0 := rfl
      have h5 : (aset (aset (aset M1 58 19 (.int (M1.1 58 17))) 58 22 (.long (Int64.ofNat (0 : Fin 2)))) 58 21 (.int (Int32.ofInt 0))).2.2 = M.2.2 := e2
      generalize (aset (aset (aset M1 58 19 (.int (M1.1 58 17))) 58 22 (.long (Int64.ofNat (0 : Fin 2)))) 58 21 (.int (Int32.ofInt 0))) = M2 at *
      have hb2 := RB_F hB hF2
      have lt : M2.1 58 17 < M2.1 58 16 → q < n := fun h => by
        rw [hb2.2.2.1, h0, nI_ltI (by omega) (by omega)] at h
        exact h
      rw [h0]
      refine stp_77 (by rw [h5]; exact hJ) hl0 (fun h g1 g2 g3 => ?_) (fun h g1 g2 g3 => ?_) (fun h g1 g2 => ?_) (fun h g1 => ?_) (fun h => ?_)
      · have g := lt h
        rw [RB_by hb2 g] at g1 g2 g3
        rw [nU_le _ (hb2.2.1 q)] at g1
        rw [nU_di _ (hb2.2.1 q)] at g2
        rw [nU_59 _ (hb2.2.1 q)] at g3
        have hk : tkK u n q = 4 := by rw [tkK, if_pos g, if_neg (by rw [g1]; exact F), if_neg (by rw [g2]; exact F), if_neg g3]
        have he : tkE u n q = q + 1 := by rw [tkE, if_pos g, if_neg (by rw [g1]; exact F), if_neg (by rw [g2]; exact F)]
        refine stp_end hl0 hJ hp n8 hE he.symm h1 ?_ ?_ (fun e => by rw [hk] at e; cases e) (fun e => by rw [hk] at e; cases e) (stF_set (stF_set hF2 (by decide)) (by decide)) h5
        · rw [hk]
          rfl
        · show M2.1 58 17 + Int32.ofInt 1 = nI (q + 1)
          rw [h0]
          exact nI_1 _
      · have g := lt h
        rw [RB_by hb2 g] at g1 g2 g3
        rw [nU_le _ (hb2.2.1 q)] at g1
        rw [nU_di _ (hb2.2.1 q)] at g2
        rw [nU_59 _ (hb2.2.1 q)] at g3
        have hk : tkK u n q = 3 := by rw [tkK, if_pos g, if_neg (by rw [g1]; exact F), if_neg (by rw [g2]; exact F), if_pos g3]
        have he : tkE u n q = q + 1 := by rw [tkE, if_pos g, if_neg (by rw [g1]; exact F), if_neg (by rw [g2]; exact F)]
        refine stp_end hl0 hJ hp n8 hE he.symm h1 ?_ ?_ (fun e => by rw [hk] at e; cases e) (fun e => by rw [hk] at e; cases e) (stF_set (stF_set hF2 (by decide)) (by decide)) h5
        · rw [hk]
          rfl
        · show M2.1 58 17 + Int32.ofInt 1 = nI (q + 1)
          rw [h0]
          exact nI_1 _
      · have g := lt h
        rw [RB_by hb2 g] at g1 g2
        rw [nU_le _ (hb2.2.1 q)] at g1
        have g2 : isDg (u q) = true := by
          cases e : isDg (u q) with
          | true => rfl
          | false => exact absurd ((nU_di _ (hb2.2.1 q)).mpr e) g2
        have hk : tkK u n q = 2 := by rw [tkK, if_pos g, if_neg (by rw [g1]; exact F), if_pos g2]
        have he : tkE u n q = scn (fun i => isDg (u i)) n q := by rw [tkE, if_pos g, if_neg (by rw [g1]; exact F), if_pos g2]
        refine stp_wD hl0 hJ hp hB hE hk he q M2 hn (Nat.le_refl _) h0 h1 ?_ hF2 h5 he.symm
        rw [Nat.sub_self]
        exact h3
      · have g := lt h
        rw [RB_by hb2 g] at g1
        have g1 : isLt (u q) = true := by
          cases e : isLt (u q) with
          | true => rfl
          | false => exact absurd ((nU_le _ (hb2.2.1 q)).mpr e) g1
        have hk : tkK u n q = 1 := by rw [tkK, if_pos g, if_pos g1]
        have he : tkE u n q = scn (fun i => isLt (u i)) n q := by rw [tkE, if_pos g, if_pos g1]
        refine stp_wL hl0 hJ hp hB hE hk he q M2 hn (Nat.le_refl _) h0 h1 ?_ hF2 h5 he.symm
        rw [Nat.sub_self]
        exact h4
      · have g : ¬ q < n := fun g => h (by
          rw [hb2.2.2.1, h0, nI_ltI (by omega) (by omega)]
          exact g)
        have hk : tkK u n q = 0 := by rw [tkK, if_neg g]
        have he : tkE u n q = q := by rw [tkE, if_neg g]
        refine stp_end hl0 hJ hp n8 hE he.symm h1 ?_ h0 (fun e => by rw [hk] at e; cases e) (fun e => by rw [hk] at e; cases e) (stF_set hF2 (by decide)) h5
        rw [hk]
        rfl
  have loop : ∀ q (M1 : aM), q ≤ n → M1.1 58 17 = nI q → stF M M1 → M1.2.2 = M.2.2 → scn (fun i => isB (u i)) n q = tkS u n p → AW l (pI pg 176) (fcV M (QS u n p M)) 0 0 0 [(0, .ref 58)] [] SHF M1 := by
    refine scn_ind (f := fun i => isB (u i)) (n := n) (fun q hq hf ih => ?_) (fun q hq => ?_)
    · intro M1 hn h17 hF e2 hE
      have hb := RB_F hB hF
      have n8 := hb.1
      have e3 : byV M1 (M1.1 58 17) = nI (u q) := by rw [h17]; exact RB_by hb hq
      have nx : AW l (pI pg 176) (fcV M (QS u n p M)) 0 0 0 [(0, .ref 58)] [] SHF (aset M1 58 17 (.int (M1.1 58 17 + Int32.ofInt 1))) := by
        refine ih _ (by omega) ?_ (stF_set hF (by decide)) e2 (by rw [← hE, ← scn_go hq hf])
        show M1.1 58 17 + Int32.ofInt 1 = nI (q + 1)
        rw [h17]
        exact nI_1 _
      refine stp_0 (by rw [e2]; exact hJ) hl0 (fun h => ?_) (fun _ => ?_) (fun _ _ => nx) (fun _ h1 h2 => ?_) (fun _ _ _ => nx)
      · rw [hb.2.2.1, h17] at h
        exact ge_no hq (by omega) h
      · rw [h17]
        exact RB_vp hb hn
      · rw [e3, nU_32 _ (hb.2.1 q)] at h1
        rw [e3, nU_10 _ (hb.2.1 q)] at h2
        rcases (isB_iff _).mp hf with e | e
        · exact absurd e h1
        · exact absurd e h2
    · intro M1 hn h17 hF e2 hE
      have hb := RB_F hB hF
      have n8 := hb.1
      rw [scn_no hq] at hE
      have f1 := fin q M1 hn h17 hF e2 hE
      have no : ¬ M1.1 58 16 ≤ M1.1 58 17 → (u q = 32 ∨ u q = 10) → False := fun h e => by
        rw [hb.2.2.1, h17, nI_leI (by omega) (by omega)] at h
        exact hq ⟨by omega, (isB_iff _).mpr e⟩
      have e3 : ¬ M1.1 58 16 ≤ M1.1 58 17 → byV M1 (M1.1 58 17) = nI (u q) := fun h => by
        rw [hb.2.2.1, h17, nI_leI (by omega) (by omega)] at h
        rw [h17]
        exact RB_by hb (by omega)
      refine stp_0 (by rw [e2]; exact hJ) hl0 (fun _ => f1) (fun _ => ?_) (fun h h1 => ?_) (fun _ _ _ => f1) (fun h _ h1 => ?_)
      · rw [h17]
        exact RB_vp hb hn
      · rw [e3 h, nU_32 _ (hb.2.1 q)] at h1
        exact (no h (Or.inl h1)).elim
      · rw [e3 h, nU_10 _ (hb.2.1 q)] at h1
        exact (no h (Or.inr h1)).elim
  exact loop p M hp h17 stF_rfl rfl rfl
end ST
