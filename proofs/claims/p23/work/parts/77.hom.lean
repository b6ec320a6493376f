/-! house of the reference -/
def mHo (H : HS) (M : aM) : Prop := M.1 58 1 = nI H.pe ∧ M.1 58 2 = nI H.wo ∧ M.1 58 3 = nI H.te ∧ M.1 58 4 = nI H.fo ∧ (∀ i, i < H.pe → M.1 59 i = nI (H.ho i)) ∧ (∀ i, i < H.pe → M.1 60 i = nI (H.ch i)) ∧ (∀ w, w < H.wo → M.1 61 w = nI (H.be w)) ∧ (∀ w, w < H.wo → M.1 62 w = nI (H.le w)) ∧ (∀ i w, i < H.pe → w < H.wo → M.1 63 (8 * i + w) = nI (H.sk (8 * i + w))) ∧ ∀ k, k < H.te → M.1 64 (4 * k) = nI (H.t0 k) ∧ M.1 64 (4 * k + 1) = nI (H.t1 k) ∧ M.1 64 (4 * k + 2) = nI (H.t2 k) ∧ M.1 64 (4 * k + 3) = nI (H.t3 k)
/-- what a reading may touch, and what a house without a fault may -/
def hF1 (M M' : aM) : Prop := ∀ a k, (a = 58 → k ≠ 12 ∧ k ≠ 13 ∧ k ≠ 14 ∧ (k < 16 ∨ 28 < k) ∧ k ≠ 35 ∧ k ≠ 36) → (a < 66 ∨ 72 < a) → M'.1 a k = M.1 a k
def hF2 (M M' : aM) : Prop := ∀ a k, (a = 58 → k ≠ 12 ∧ k ≠ 13 ∧ k ≠ 14 ∧ (k < 16 ∨ 28 < k) ∧ k ≠ 35 ∧ k ≠ 36 ∧ (k < 1 ∨ 4 < k) ∧ k ≠ 45 ∧ k ≠ 51 ∧ k ≠ 57) → (a < 59 ∨ a = 65 ∨ a = 66 ∨ 72 < a) → a ≠ 81 → M'.1 a k = M.1 a k
def QHm (R : Flt ⊕ HS) (M : aM) : Int32 → aM → Prop := fun y M' => M'.1 58 12 = Int32.ofInt 0 ∧ (∀ a k, (a = 58 → k ≠ 22) → M'.2.1 a k = M.2.1 a k) ∧ (∀ f, R = .inl f → y = nI f.1 ∧ 1 ≤ f.1 ∧ f.1 ≤ 5 ∧ M'.1 58 14 = nI f.2 ∧ M'.1 66 0 = M.1 66 0 + Int32.ofInt 1 ∧ (∀ k, k ≠ 0 → M'.1 66 k = M.1 66 k) ∧ hF1 M M') ∧ ∀ H, R = .inr H → y = Int32.ofInt 0 ∧ M'.1 58 14 = Int32.ofInt (-1) ∧ mHo H M' ∧ HI H ∧ (∀ w, w < 8 → M'.1 81 w = Int32.ofInt (-1)) ∧ M'.1 58 45 = Int32.ofInt 0 ∧ M'.1 58 51 = Int32.ofInt (-1) ∧ M'.1 58 57 = Int32.ofInt 0 ∧ hF2 M M'
section HM
variable {l : aL} {M : aM} {n : Nat} {u : Nat → Nat}
theorem hou_240e (hl0 : l.1.stackTraces = false) {Q : Int32 → aM → Prop} {M0 : aM} (hJ : ∀ e ∈ RM, M.2.2 e.1 e.2.1 = e.2.2) (e0 : M.2.2 = M0.2.2) (h : ∀ M' : aM, (∀ w, w < 8 → M'.1 81 w = Int32.ofInt (-1)) → (∀ a k, a ≠ 81 → M'.1 a k = M.1 a k) → M'.2.1 = M.2.1 → Q (Int32.ofInt 0) (aset (aset (aset M' 58 45 (.int (Int32.ofInt 0))) 58 51 (.int (Int32.ofInt (-1)))) 58 57 (.int (Int32.ofInt 0)))) : AW l (pI pg 174) (fcI M0 Q) 0 0 240 [(0, .ref 58), (2, .int (Int32.ofInt 0))] [] SHF M := by
  have loop : ∀ (d i : Nat) (M1 : aM), i + d = 8 → M1.2.2 = M.2.2 → M1.2.1 = M.2.1 → (∀ w, w < i → M1.1 81 w = Int32.ofInt (-1)) → (∀ a k, a ≠ 81 → M1.1 a k = M.1 a k) → AW l (pI pg 174) (fcI M0 Q) 0 0 240 [(0, .ref 58), (2, .int (nI i))] [] SHF M1 := by
    intro d
    induction d with
    | zero =>
      intro i M1 hi e2 e3 h1 h2
      have hi2 : i = 8 := by omega
      subst hi2
      have le : (Int8.ofInt 8).toInt32 ≤ nI 8 := by decide
      exact hou_240 (by rw [e2]; exact hJ) hl0 (fun _ => ⟨rfl, e2.trans e0, _, rfl, h M1 h1 h2 e3⟩) (fun h => absurd le h) (fun h => absurd le h)
    | succ d ih =>
      intro i M1 hi e2 e3 h1 h2
      have gt : ¬ (Int8.ofInt 8).toInt32 ≤ nI i := by
        rw [show (Int8.ofInt 8).toInt32 = nI 8 by decide, nI_leI (by decide) (by omega)]
        omega
      refine hou_240 (by rw [e2]; exact hJ) hl0 (fun h => absurd h gt) (fun _ => vp_in_nI (by omega) (by decide)) (fun _ => ?_)
      have e1 : nI i + Int32.ofInt 1 = nI (i + 1) := nI_1 _
      rw [e1, nI_clamp (by omega)]
      refine ih (i + 1) _ (by omega) e2 e3 (fun k hk => ?_) (fun c k hc => ?_)
      · rw [set_1, if_pos rfl]
        by_cases e : k = i
        · rw [if_pos e]
        · rw [if_neg e]
          exact h1 k (by omega)
      · rw [set_1, if_neg hc]
        exact h2 c k hc
  exact loop 8 0 M (by omega) rfl rfl (fun k hk => absurd hk (Nat.not_lt_zero _)) (fun _ _ _ => rfl)
theorem hou_32e (hl0 : l.1.stackTraces = false) (hJ : ∀ e ∈ RM, M.2.2 e.1 e.2.1 = e.2.2) (n8 : n ≤ 800) (hu : ∀ i, u i < 256) (hb : ∀ i, i < n → M.1 65 i = nI (u i)) : AW l (pI pg 174) (fcI M (QHm (parS u n (n + 1) HS0 0) M)) 0 0 32 [(0, .ref 58), (1, .int (nI n))] [] SHF M := by
  have m1 : ∀ a k, (a = 58 → k ≠ 12 ∧ k ≠ 13 ∧ k ≠ 14 ∧ k ≠ 16 ∧ k ≠ 17 ∧ (k < 23 ∨ 28 < k)) → (aset (aset (aset (aset (aset (aset (aset (aset (aset (aset (aset M 58 12 (.int (Int32.ofInt 0))) 58 14 (.int (Int32.ofInt (-1)))) 58 13 (.int (Int32.ofInt 0))) 58 16 (.int (nI n))) 58 17 (.int (Int32.ofInt 0))) 58 23 (.int (Int32.ofInt 0))) 58 24 (.int (Int32.ofInt 0))) 58 25 (.int (Int32.ofInt 0))) 58 26 (.int (Int32.ofInt 0))) 58 27 (.int (Int32.ofInt 0))) 58 28 (.int (Int32.ofInt 0))).1 a k = M.1 a k := fun a k hk => by
    by_cases e : a = 58
    · have h := hk e
      rw [set_1, if_pos e, if_neg (by omega), set_1, if_pos e, if_neg (by omega), set_1, if_pos e, if_neg (by omega), set_1, if_pos e, if_neg (by omega), set_1, if_pos e, if_neg (by omega), set_1, if_pos e, if_neg (by omega), set_1, if_pos e, if_neg (by omega), set_1, if_pos e, if_neg (by omega), set_1, if_pos e, if_neg (by omega), set_1, if_pos e, if_neg (by omega), set_1, if_pos e, if_neg (by omega)]
    · rw [set_1, if_neg e, set_1, if_neg e, set_1, if_neg e, set_1, if_neg e, set_1, if_neg e, set_1, if_neg e, set_1, if_neg e, set_1, if_neg e, set_1, if_neg e, set_1, if_neg e, set_1, if_neg e]
  have B : RB n u (aset (aset (aset (aset (aset (aset (aset (aset (aset (aset (aset M 58 12 (.int (Int32.ofInt 0))) 58 14 (.int (Int32.ofInt (-1)))) 58 13 (.int (Int32.ofInt 0))) 58 16 (.int (nI n))) 58 17 (.int (Int32.ofInt 0))) 58 23 (.int (Int32.ofInt 0))) 58 24 (.int (Int32.ofInt 0))) 58 25 (.int (Int32.ofInt 0))) 58 26 (.int (Int32.ofInt 0))) 58 27 (.int (Int32.ofInt 0))) 58 28 (.int (Int32.ofInt 0))) := ⟨n8, hu, rfl, fun i hi => hb i hi⟩
  have i12 : (aset (aset (aset (aset (aset (aset (aset (aset (aset (aset (aset M 58 12 (.int (Int32.ofInt 0))) 58 14 (.int (Int32.ofInt (-1)))) 58 13 (.int (Int32.ofInt 0))) 58 16 (.int (nI n))) 58 17 (.int (Int32.ofInt 0))) 58 23 (.int (Int32.ofInt 0))) 58 24 (.int (Int32.ofInt 0))) 58 25 (.int (Int32.ofInt 0))) 58 26 (.int (Int32.ofInt 0))) 58 27 (.int (Int32.ofInt 0))) 58 28 (.int (Int32.ofInt 0))).1 58 12 = Int32.ofInt 0 := rfl
  have i13 : (aset (aset (aset (aset (aset (aset (aset (aset (aset (aset (aset M 58 12 (.int (Int32.ofInt 0))) 58 14 (.int (Int32.ofInt (-1)))) 58 13 (.int (Int32.ofInt 0))) 58 16 (.int (nI n))) 58 17 (.int (Int32.ofInt 0))) 58 23 (.int (Int32.ofInt 0))) 58 24 (.int (Int32.ofInt 0))) 58 25 (.int (Int32.ofInt 0))) 58 26 (.int (Int32.ofInt 0))) 58 27 (.int (Int32.ofInt 0))) 58 28 (.int (Int32.ofInt 0))).1 58 13 = 0 := rfl
  have i14 : (aset (aset (aset (aset (aset (aset (aset (aset (aset (aset (aset M 58 12 (.int (Int32.ofInt 0))) 58 14 (.int (Int32.ofInt (-1)))) 58 13 (.int (Int32.ofInt 0))) 58 16 (.int (nI n))) 58 17 (.int (Int32.ofInt 0))) 58 23 (.int (Int32.ofInt 0))) 58 24 (.int (Int32.ofInt 0))) 58 25 (.int (Int32.ofInt 0))) 58 26 (.int (Int32.ofInt 0))) 58 27 (.int (Int32.ofInt 0))) 58 28 (.int (Int32.ofInt 0))).1 58 14 = Int32.ofInt (-1) := rfl
  have i17 : (aset (aset (aset (aset (aset (aset (aset (aset (aset (aset (aset M 58 12 (.int (Int32.ofInt 0))) 58 14 (.int (Int32.ofInt (-1)))) 58 13 (.int (Int32.ofInt 0))) 58 16 (.int (nI n))) 58 17 (.int (Int32.ofInt 0))) 58 23 (.int (Int32.ofInt 0))) 58 24 (.int (Int32.ofInt 0))) 58 25 (.int (Int32.ofInt 0))) 58 26 (.int (Int32.ofInt 0))) 58 27 (.int (Int32.ofInt 0))) 58 28 (.int (Int32.ofInt 0))).1 58 17 = nI 0 := rfl
  have iN : nHo HS0 (aset (aset (aset (aset (aset (aset (aset (aset (aset (aset (aset M 58 12 (.int (Int32.ofInt 0))) 58 14 (.int (Int32.ofInt (-1)))) 58 13 (.int (Int32.ofInt 0))) 58 16 (.int (nI n))) 58 17 (.int (Int32.ofInt 0))) 58 23 (.int (Int32.ofInt 0))) 58 24 (.int (Int32.ofInt 0))) 58 25 (.int (Int32.ofInt 0))) 58 26 (.int (Int32.ofInt 0))) 58 27 (.int (Int32.ofInt 0))) 58 28 (.int (Int32.ofInt 0))) := nHo.of rfl rfl rfl rfl rfl ⟨fun _ => rfl, fun _ => rfl⟩ (fun i hi => absurd hi (Nat.not_lt_zero _)) (fun i hi => absurd hi (Nat.not_lt_zero _)) (fun i hi => absurd hi (Nat.not_lt_zero _)) (fun i hi => absurd hi (Nat.not_lt_zero _)) (fun i w hi => absurd hi (Nat.not_lt_zero _)) (fun i hi => absurd hi (Nat.not_lt_zero _)) (fun i hi => absurd hi (Nat.not_lt_zero _)) (fun i hi => absurd hi (Nat.not_lt_zero _)) (fun i hi => absurd hi (Nat.not_lt_zero _))
  have i2 : (aset (aset (aset (aset (aset (aset (aset (aset (aset (aset (aset M 58 12 (.int (Int32.ofInt 0))) 58 14 (.int (Int32.ofInt (-1)))) 58 13 (.int (Int32.ofInt 0))) 58 16 (.int (nI n))) 58 17 (.int (Int32.ofInt 0))) 58 23 (.int (Int32.ofInt 0))) 58 24 (.int (Int32.ofInt 0))) 58 25 (.int (Int32.ofInt 0))) 58 26 (.int (Int32.ofInt 0))) 58 27 (.int (Int32.ofInt 0))) 58 28 (.int (Int32.ofInt 0))).2.2 = M.2.2 := rfl
  have i21 : (aset (aset (aset (aset (aset (aset (aset (aset (aset (aset (aset M 58 12 (.int (Int32.ofInt 0))) 58 14 (.int (Int32.ofInt (-1)))) 58 13 (.int (Int32.ofInt 0))) 58 16 (.int (nI n))) 58 17 (.int (Int32.ofInt 0))) 58 23 (.int (Int32.ofInt 0))) 58 24 (.int (Int32.ofInt 0))) 58 25 (.int (Int32.ofInt 0))) 58 26 (.int (Int32.ofInt 0))) 58 27 (.int (Int32.ofInt 0))) 58 28 (.int (Int32.ofInt 0))).2.1 = M.2.1 := rfl
  refine hou_32 hJ hl0 (QS u n 0 (aset (aset (aset (aset (aset (aset (aset (aset (aset (aset (aset M 58 12 (.int (Int32.ofInt 0))) 58 14 (.int (Int32.ofInt (-1)))) 58 13 (.int (Int32.ofInt 0))) 58 16 (.int (nI n))) 58 17 (.int (Int32.ofInt 0))) 58 23 (.int (Int32.ofInt 0))) 58 24 (.int (Int32.ofInt 0))) 58 25 (.int (Int32.ofInt 0))) 58 26 (.int (Int32.ofInt 0))) 58 27 (.int (Int32.ofInt 0))) 58 28 (.int (Int32.ofInt 0)))) (stp_c hl0 hJ B (Nat.zero_le _) i17) (fun M1 e1 q1 => ?_)
  generalize (aset (aset (aset (aset (aset (aset (aset (aset (aset (aset (aset M 58 12 (.int (Int32.ofInt 0))) 58 14 (.int (Int32.ofInt (-1)))) 58 13 (.int (Int32.ofInt 0))) 58 16 (.int (nI n))) 58 17 (.int (Int32.ofInt 0))) 58 23 (.int (Int32.ofInt 0))) 58 24 (.int (Int32.ofInt 0))) 58 25 (.int (Int32.ofInt 0))) 58 26 (.int (Int32.ofInt 0))) 58 27 (.int (Int32.ofInt 0))) 58 28 (.int (Int32.ofInt 0))) = N at *
  have hJN : ∀ e ∈ RM, N.2.2 e.1 e.2.1 = e.2.2 := by rw [i2]; exact hJ
  have g1 : gS u n 0 M1 := ⟨(q1.2.1 58 13 (fun _ => by decide)).trans i13, (q1.2.1 58 14 (fun _ => by decide)).trans i14, Nat.zero_le _, q1.1⟩
  have F1 : lnF N M1 := lnF_g (grF_s q1.2)
  have fr : ∀ {M2 : aM}, lnF N M2 → hF1 M M2 ∧ (∀ k, M2.1 66 k = M.1 66 k) ∧ M2.1 58 12 = Int32.ofInt 0 ∧ ∀ a k, (a = 58 → k ≠ 22) → M2.2.1 a k = M.2.1 a k := fun {M2} F => ⟨fun a k h1 h2 => (F.1 a k (fun e => by have := h1 e; omega) (by omega)).trans (m1 a k (fun e => by have := h1 e; omega)), fun k => (F.1 66 k (fun e => absurd e (by decide)) (by decide)).trans (m1 66 k (fun e => absurd e (by decide))), (F.1 58 12 (fun _ => by decide) (by decide)).trans i12, fun a k hk => (F.2 a k hk).trans (by rw [i21])⟩
  refine hou_w (R := parS u n (n + 1) HS0 0) (u := u) (n := n) hl0 hJN (fun f M2 hR e2 F b => ?_) (fun p H M2 hR e2 F g hI hN => ?_) (n + 1) 0 HS0 M1 (by omega) rfl e1 F1 (RB_F B q1.2) g1 HI_0 (nHo_g iN (grF_s q1.2))
  · have z : gdV (M2.1 58 13) = 0 := gdz.mpr (bS_nz b)
    obtain ⟨f1, f2, f3, f4⟩ := fr F
    refine hou_112 (by rw [e2]; exact hJN) hl0 (fun h => absurd z h) (fun _ => by show ¬ _; decide) (fun _ => ⟨rfl, e2.trans i2, _, rfl, f3, f4, fun f' hf => ?_, fun H hH => ?_⟩)
    · rw [hR] at hf
      cases hf
      refine ⟨b.1, b.2.2.1, b.2.2.2, b.2.1, ?_, fun k hk => ?_, fun a k h1 h2 => ?_⟩
      · show M2.1 66 0 + Int32.ofInt 1 = _
        rw [f2]
      · show (if k = 0 then _ else M2.1 66 k) = _
        rw [if_neg hk, f2]
      · rw [set_1, if_neg (by omega)]
        exact f1 a k h1 h2
    · rw [hR] at hH
      cases hH
  · have z : ¬ gdV (M2.1 58 13) = 0 := fun h => gdz.mp h g.1
    obtain ⟨f1, f2, f3, f4⟩ := fr F
    have hJ2 : ∀ e ∈ RM, M2.2.2 e.1 e.2.1 = e.2.2 := by rw [e2]; exact hJN
    have hp6 := hI.pe
    have hw8 := hI.wo
    have ht8 := hI.te
    refine hou_112 hJ2 hl0 (fun _ => ?_) (fun h => absurd h z) (fun h => absurd h z)
    refine hou_134 hJ2 hl0 ?_
    show AW l (pI pg 174) _ 0 0 166 [(0, .ref 58)] [] SHF (aset (aset (aset (aset M2 58 1 (.int (M2.1 58 23))) 58 2 (.int (M2.1 58 24))) 58 3 (.int (M2.1 58 25))) 58 4 (.int (M2.1 58 26)))
    have w1 : (aset (aset (aset (aset M2 58 1 (.int (M2.1 58 23))) 58 2 (.int (M2.1 58 24))) 58 3 (.int (M2.1 58 25))) 58 4 (.int (M2.1 58 26))).1 58 1 = nI H.pe := hN.pe
    have w2 : (aset (aset (aset (aset M2 58 1 (.int (M2.1 58 23))) 58 2 (.int (M2.1 58 24))) 58 3 (.int (M2.1 58 25))) 58 4 (.int (M2.1 58 26))).1 58 2 = nI H.wo := hN.wo
    have w3 : (aset (aset (aset (aset M2 58 1 (.int (M2.1 58 23))) 58 2 (.int (M2.1 58 24))) 58 3 (.int (M2.1 58 25))) 58 4 (.int (M2.1 58 26))).1 58 3 = nI H.te := hN.te
    have w4 : (aset (aset (aset (aset M2 58 1 (.int (M2.1 58 23))) 58 2 (.int (M2.1 58 24))) 58 3 (.int (M2.1 58 25))) 58 4 (.int (M2.1 58 26))).1 58 4 = nI H.fo := hN.fo
    have w5 : ∀ a k, (a = 58 → k < 1 ∨ 4 < k) → (aset (aset (aset (aset M2 58 1 (.int (M2.1 58 23))) 58 2 (.int (M2.1 58 24))) 58 3 (.int (M2.1 58 25))) 58 4 (.int (M2.1 58 26))).1 a k = M2.1 a k := fun a k hk => by
      by_cases e : a = 58
      · have h := hk e
        rw [set_1, if_pos e, if_neg (by omega), set_1, if_pos e, if_neg (by omega), set_1, if_pos e, if_neg (by omega), set_1, if_pos e, if_neg (by omega)]
      · rw [set_1, if_neg e, set_1, if_neg e, set_1, if_neg e, set_1, if_neg e]
    have w6 : (aset (aset (aset (aset M2 58 1 (.int (M2.1 58 23))) 58 2 (.int (M2.1 58 24))) 58 3 (.int (M2.1 58 25))) 58 4 (.int (M2.1 58 26))).2.2 = M2.2.2 := rfl
    have w7 : (aset (aset (aset (aset M2 58 1 (.int (M2.1 58 23))) 58 2 (.int (M2.1 58 24))) 58 3 (.int (M2.1 58 25))) 58 4 (.int (M2.1 58 26))).2.1 = M2.2.1 := rfl
    generalize (aset (aset (aset (aset M2 58 1 (.int (M2.1 58 23))) 58 2 (.int (M2.1 58 24))) 58 3 (.int (M2.1 58 25))) 58 4 (.int (M2.1 58 26))) = K at *
    have hJK : ∀ e ∈ RM, K.2.2 e.1 e.2.1 = e.2.2 := by rw [w6]; exact hJ2
    refine hou_166 hJK hl0 _ (cop67_c hl0 hJK) _ (fun K1 a1 b1 => cop68_c hl0 (by rw [a1]; exact hJK)) _ (fun K1 a1 b1 K3 a3 b3 => cop69_c hl0 (by rw [a3, a1]; exact hJK)) _ (fun K1 a1 b1 K3 a3 b3 K5 a5 b5 => cop70_c hl0 (by rw [a5, a3, a1]; exact hJK)) _ (fun K1 a1 b1 K3 a3 b3 K5 a5 b5 K7 a7 b7 => cop71_c hl0 (by rw [a7, a5, a3, a1]; exact hJK)) _ (fun K1 a1 b1 K3 a3 b3 K5 a5 b5 K7 a7 b7 K9 a9 b9 => cop72_c hl0 (by rw [a9, a7, a5, a3, a1]; exact hJK)) (fun K1 a1 b1 K3 a3 b3 K5 a5 b5 K7 a7 b7 K9 a9 b9 K11 a11 b11 => ?_)
    have ka : K11.2.2 = K.2.2 := a11.trans (a9.trans (a7.trans (a5.trans (a3.trans a1))))
    have kf : ∀ a k, (a < 59 ∨ 64 < a) → K11.1 a k = K.1 a k := fun a k h => by rw [b11.2.1 a k (by omega), b9.2.1 a k (by omega), b7.2.1 a k (by omega), b5.2.1 a k (by omega), b3.2.1 a k (by omega), b1.2.1 a k (by omega)]
    have km : mHo H K11 := by
      refine ⟨(kf 58 1 (by decide)).trans w1, (kf 58 2 (by decide)).trans w2, (kf 58 3 (by decide)).trans w3, (kf 58 4 (by decide)).trans w4, fun i hi => ?_, fun i hi => ?_, fun i hi => ?_, fun i hi => ?_, fun i w hi hw => ?_, ?_⟩
      · rw [b11.2.1 59 _ (by decide), b9.2.1 59 _ (by decide), b7.2.1 59 _ (by decide), b5.2.1 59 _ (by decide), b3.2.1 59 _ (by decide), b1.1 i (by omega), w5 67 i (fun e => absurd e (by decide))]
        exact hN.ho i hi
      · rw [b11.2.1 60 _ (by decide), b9.2.1 60 _ (by decide), b7.2.1 60 _ (by decide), b5.2.1 60 _ (by decide), b3.1 i (by omega), b1.2.1 68 _ (by decide), w5 68 i (fun e => absurd e (by decide))]
        exact hN.ch i hi
      · rw [b11.2.1 61 _ (by decide), b9.2.1 61 _ (by decide), b7.2.1 61 _ (by decide), b5.1 i (by omega), b3.2.1 69 _ (by decide), b1.2.1 69 _ (by decide), w5 69 i (fun e => absurd e (by decide))]
        exact hN.be i hi
      · rw [b11.2.1 62 _ (by decide), b9.2.1 62 _ (by decide), b7.1 i (by omega), b5.2.1 70 _ (by decide), b3.2.1 70 _ (by decide), b1.2.1 70 _ (by decide), w5 70 i (fun e => absurd e (by decide))]
        exact hN.le i hi
      · rw [b11.2.1 63 _ (by decide), b9.1 _ (by omega), b7.2.1 71 _ (by decide), b5.2.1 71 _ (by decide), b3.2.1 71 _ (by decide), b1.2.1 71 _ (by decide), w5 71 _ (fun e => absurd e (by decide))]
        exact hN.sk i w hi hw
      · have t : ∀ j, j < 32 → K11.1 64 j = M2.1 72 j := fun j hj => by rw [b11.1 j hj, b9.2.1 72 _ (by decide), b7.2.1 72 _ (by decide), b5.2.1 72 _ (by decide), b3.2.1 72 _ (by decide), b1.2.1 72 _ (by decide), w5 72 _ (fun e => absurd e (by decide))]
        exact fun k hk => ⟨(t _ (by omega)).trans (hN.t0 k hk), (t _ (by omega)).trans (hN.t1 k hk), (t _ (by omega)).trans (hN.t2 k hk), (t _ (by omega)).trans (hN.t3 k hk)⟩
    refine hou_240e hl0 (by rw [ka]; exact hJK) (ka.trans (w6.trans (e2.trans i2))) (fun M' v1 v2 v3 => ⟨?_, ?_, fun f hf => ?_, fun H' hH' => ?_⟩)
    · exact (v2 58 12 (by decide)).trans ((kf 58 12 (by decide)).trans ((w5 58 12 (fun _ => by decide)).trans f3))
    · intro a k hk
      show M'.2.1 a k = _
      rw [v3, b11.2.2, b9.2.2, b7.2.2, b5.2.2, b3.2.2, b1.2.2, w7]
      exact f4 a k hk
    · rw [hR] at hf
      cases hf
    · rw [hR] at hH'
      cases hH'
      refine ⟨rfl, (v2 58 14 (by decide)).trans ((kf 58 14 (by decide)).trans ((w5 58 14 (fun _ => by decide)).trans g.2.1)), ?_, hI, v1, rfl, rfl, rfl, fun a k h1 h2 h3 => ?_⟩
      · obtain ⟨x1, x2, x3, x4, x5, x6, x7, x8, x9, x10⟩ := km
        exact ⟨(v2 58 1 (by decide)).trans x1, (v2 58 2 (by decide)).trans x2, (v2 58 3 (by decide)).trans x3, (v2 58 4 (by decide)).trans x4, fun i hi => (v2 59 _ (by decide)).trans (x5 i hi), fun i hi => (v2 60 _ (by decide)).trans (x6 i hi), fun i hi => (v2 61 _ (by decide)).trans (x7 i hi), fun i hi => (v2 62 _ (by decide)).trans (x8 i hi), fun i w hi hw => (v2 63 _ (by decide)).trans (x9 i w hi hw), fun k hk => ⟨(v2 64 _ (by decide)).trans (x10 k hk).1, (v2 64 _ (by decide)).trans (x10 k hk).2.1, (v2 64 _ (by decide)).trans (x10 k hk).2.2.1, (v2 64 _ (by decide)).trans (x10 k hk).2.2.2⟩⟩
      · have base : M'.1 a k = M.1 a k := by
          rw [v2 a k h3, kf a k (by omega), w5 a k (fun e => by have := h1 e; omega)]
          by_cases e66 : a = 66
          · rw [e66]
            exact f2 k
          · exact f1 a k (fun e => by have := h1 e; omega) (by omega)
        rw [set_1]
        by_cases e : a = 58
        · have h := h1 e
          rw [if_pos e, if_neg (by omega), set_1, if_pos e, if_neg (by omega), set_1, if_pos e, if_neg (by omega)]
          exact base
        · rw [if_neg e, set_1, if_neg e, set_1, if_neg e]
          exact base
end HM
