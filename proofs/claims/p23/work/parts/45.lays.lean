/-! 'can', 'lays0', 'greatest', 'isThere': they end, and what they leave -/
theorem mdl.re {M M' : aM} {N : Nat} {D : rD} {fx : Nat → Int} (h : mdl M N D fx) (h1 : M'.2.2 = M.2.2) (h2 : ∀ a k, a ≠ 76 → a ≠ 77 → a ≠ 78 → a ≠ 80 → (a = 58 → k ≠ 46) → M'.1 a k = M.1 a k) : mdl M' N D (rwI M' 76) := by
  obtain ⟨g1, g2, g3, g4, g5, g6, g7⟩ := h
  refine ⟨by rw [h1]; exact g1, ?_, ?_, fun p k => ?_, fun p => ?_, fun p w => ?_, fun w => rfl⟩
  · rw [h2 _ _ (by decide) (by decide) (by decide) (by decide) (by decide)]; exact g2
  · rw [h2 _ _ (by decide) (by decide) (by decide) (by decide) (by decide)]; exact g3
  · rw [h2 _ _ (by decide) (by decide) (by decide) (by decide) (fun h => absurd h (by decide))]; exact g4 p k
  · rw [h2 _ _ (by decide) (by decide) (by decide) (by decide) (fun h => absurd h (by decide))]; exact g5 p
  · rw [h2 _ _ (by decide) (by decide) (by decide) (by decide) (fun h => absurd h (by decide))]; exact g6 p w
theorem mdl.self {M : aM} {N : Nat} {D : rD} {fx : Nat → Int} (h : mdl M N D fx) : fx = rwI M 76 := funext fun w => (h.2.2.2.2.2.2 w).symm
def Q208 (N : Nat) (D : rD) (M : aM) : Int32 → aM → Prop := fun y M' => (∀ k, k < 8 → M'.1 76 k = Int32.ofInt (-1)) ∧ (∀ k, 8 ≤ k → M'.1 76 k = M.1 76 k) ∧ (∀ a k, a ≠ 76 → a ≠ 77 → a ≠ 78 → M'.1 a k = M.1 a k) ∧ Best (Rch D (rwI M' 76) N) (dW D) (rwI M' 77) ∧ ((y = 1 ∧ rwI M' 77 (2 ^ dW D - 1) ≠ -1) ∨ (y = 0 ∧ rwI M' 77 (2 ^ dW D - 1) = -1))
theorem c208 {l : aL} (hl0 : l.1.stackTraces = false) {M : aM} {N : Nat} {D : rD} {fx : Nat → Int} (hm : mdl M N D fx) (hb : mdB N D) : AC l (pI pg 209) (fcI M (Q208 N D M)) 0 0 [.ref 58, .int (nI (dLf D))] SHF M := by
  refine fw_of hl0 ⟨by decide +kernel, by decide +kernel, by decide +kernel⟩ rfl ?_
  have hW := hb.1
  have h256 := p2_8 hW
  have hpos := Nat.two_pow_pos (dW D)
  have hmd : ∀ M1 : aM, M1.2.2 = M.2.2 → Q209 M M1 → mdl M1 N D (rwI M1 76) := fun M1 e1 q1 => hm.re e1 (fun a k ha _ _ _ _ => q1.2.2 a k ha)
  have fin : ∀ (M1 : aM), M1.2.2 = M.2.2 → Q209 M M1 → ∀ (M3 : aM), M3.2.2 = M1.2.2 → Q210 N D (rwI M1 76) M1 M3 → (Int32.ofInt 1 <<< (M3.1 58 2 &&& 31)) - Int32.ofInt 1 = nI (2 ^ dW D - 1) ∧ (∀ y : Int32, ((y = 1 ∧ rwI M3 77 (2 ^ dW D - 1) ≠ -1) ∨ (y = 0 ∧ rwI M3 77 (2 ^ dW D - 1) = -1)) → Q208 N D M y M3) := by
    intro M1 e1 q1 M3 e3 q3
    have hm3 := (hmd M1 e1 q1).keep e3 q3.2.2
    have e76 : ∀ k, M3.1 76 k = M1.1 76 k := fun k => q3.2.2 76 k (by decide) (by decide)
    refine ⟨by rw [hm3.2.1, fullW hW], fun y hy => ⟨fun k hk => ?_, fun k hk => ?_, fun a k h1 h2 h3 => ?_, ?_, hy⟩⟩
    · rw [e76]; exact q1.1 k hk
    · rw [e76]; exact q1.2.1 k hk
    · rw [q3.2.2 a k h2 h3]; exact q1.2.2 a k h1
    · rw [← hm3.self]
      exact q3.1
  refine s208_0 hm.1 (Q209 M) (c209 hl0 hm.1) (fun M1 => Q210 N D (rwI M1 76) M1) (fun M1 e1 q1 => c210 hl0 (hmd M1 e1 q1) hb) (fun M1 e1 q1 M3 e3 q3 => ?_) (fun M1 e1 q1 M3 e3 q3 h6 => ?_) (fun M1 e1 q1 M3 e3 q3 h6 => ?_)
  · rw [(fin M1 e1 q1 M3 e3 q3).1]
    exact vp_in_nI (by omega) (by decide)
  · obtain ⟨f1, f2⟩ := fin M1 e1 q1 M3 e3 q3
    rw [f1, nI_clamp (by omega), i_m1] at h6
    exact ⟨rfl, e3.trans e1, _, rfl, f2 _ (Or.inr ⟨rfl, h6⟩)⟩
  · obtain ⟨f1, f2⟩ := fin M1 e1 q1 M3 e3 q3
    rw [f1, nI_clamp (by omega), i_m1] at h6
    exact ⟨rfl, e3.trans e1, _, rfl, f2 _ (Or.inl ⟨rfl, h6⟩)⟩
/-- what 'lays0' leaves: the rows 76, 77, 78, 80 and the field 46 may have changed -/
def Q207 (M : aM) : Int32 → aM → Prop := fun y M' => (y = 0 ∨ y = 1) ∧ (∀ a k, a ≠ 76 → a ≠ 77 → a ≠ 78 → a ≠ 80 → (a = 58 → k ≠ 46) → M'.1 a k = M.1 a k) ∧ (∀ k, -1 ≤ rwI M' 76 k ∧ rwI M' 76 k ≤ 6) ∧ ∀ k, 0 ≤ rwI M' 80 k ∧ rwI M' 80 k ≤ 5
theorem c207 {l : aL} (hl0 : l.1.stackTraces = false) {M : aM} {N : Nat} {D : rD} {fx : Nat → Int} (hm : mdl M N D fx) (hb : mdB N D) (h76 : ∀ k, -1 ≤ rwI M 76 k ∧ rwI M 76 k ≤ 6) (h80 : ∀ k, 0 ≤ rwI M 80 k ∧ rwI M 80 k ≤ 5) : AC l (pI pg 208) (fcI M (Q207 M)) 0 0 [.ref 58, .int (nI (dLf D))] SHF M := by
  refine fw_of hl0 ⟨by decide +kernel, by decide +kernel, by decide +kernel⟩ rfl ?_
  have hW := hb.1
  have hN := hb.2.1
  have hLf := hb.2.2.2.2.2
  have h256 := p2_8 hW
  have hpos := Nat.two_pow_pos (dW D)
  have hm1 : (Int32.ofInt (-1)).toInt = -1 := by decide
  -- the works' loop
  have l26 : ∀ (d w : Nat) (a : Int32) (M1 : aM), w + d = dW D → M1.2.2 = M.2.2 → (∀ a k, a ≠ 76 → a ≠ 77 → a ≠ 78 → a ≠ 80 → (a = 58 → k ≠ 46) → M1.1 a k = M.1 a k) → (∀ k, -1 ≤ rwI M1 76 k ∧ rwI M1 76 k ≤ 6) → (∀ k, 0 ≤ rwI M1 80 k ∧ rwI M1 80 k ≤ 5) → (∀ x, w ≤ x → x < 8 → rwI M1 76 x = -1) → Best (Rch D (rwI M1 76) N) (dW D) (rwI M1 77) → rwI M1 77 (2 ^ dW D - 1) = a.toInt → a.toInt ≠ -1 → AW l (pI pg 208) (fcI M (Q207 M)) 0 0 26 [(3, .int (nI w)), (2, .int a), (0, .ref 58), (1, .int (nI (dLf D)))] [] SHF M1 := by
    intro d
    induction d with
    | zero =>
      intro w a M1 hw h1 h2 h3 h4 h5 h6 h7 h8
      have hmd := hm.re h1 h2
      have no : ¬ ¬ (M1.1 58 2 ≤ nI w) := by
        rw [hmd.2.1]
        exact fun h => h (nI_le (by omega) (by omega))
      refine s207_26 hmd.1 (fun _ => ?_) (fun h => absurd h no)
      refine ⟨rfl, h1, _, rfl, Or.inr rfl, fun b k g1 g2 g3 g4 g5 => ?_, fun k => ?_, fun k => ?_⟩
      · rw [set_1]
        by_cases e : b = 58
        · rw [if_pos e, if_neg (g5 e)]
          exact h2 b k g1 g2 g3 g4 g5
        · rw [if_neg e]
          exact h2 b k g1 g2 g3 g4 g5
      · unfold rwI
        rw [set_1, if_neg (by decide)]
        exact h3 k
      · unfold rwI
        rw [set_1, if_neg (by decide)]
        exact h4 k
    | succ d ih =>
      intro w a M1 hw h1 h2 h3 h4 h5 h6 h7 h8
      have hmd := hm.re h1 h2
      refine s207_26 hmd.1 (fun h => ?_) (fun _ => ?_)
      · rw [hmd.2.1] at h
        exact ge_no (by omega) (by omega) h
      -- the doer that will be found
      have hbit : (2 ^ dW D - 1).testBit w = true := by
        rw [Nat.testBit_two_pow_sub_one]
        exact decide_eq_true (by omega)
      obtain ⟨p0, hp0, hpl, hpf⟩ := found_in (w := w) (t := 2 ^ dW D - 1) (h5 w (Nat.le_refl _) (by omega)) (by omega) hbit h6 (by rw [h7]; exact h8)
      have hcw : (nI w).toNatClampNeg = w := nI_clamp (by omega)
      -- it has been found
      have out : ∀ (p : Nat) (M5 : aM), p < 6 → M5.2.2 = M.2.2 → (∀ a k, a ≠ 76 → a ≠ 77 → a ≠ 78 → a ≠ 80 → (a = 58 → k ≠ 46) → M5.1 a k = M.1 a k) → (∀ k, 0 ≤ rwI M5 80 k ∧ rwI M5 80 k ≤ 5) → (∀ x, rwI M5 76 x = fxU (rwI M1 76) w (p : Int) x) → Best (Rch D (rwI M5 76) N) (dW D) (rwI M5 77) → rwI M5 77 (2 ^ dW D - 1) = a.toInt → AW l (pI pg 208) (fcI M (Q207 M)) 0 0 26 [(3, .int (nI w + Int32.ofInt 1)), (2, .int a), (0, .ref 58), (1, .int (nI (dLf D)))] [] SHF (aset M5 80 (nI w).toNatClampNeg (.int (M5.1 76 (nI w).toNatClampNeg))) := by
        intro p M5 hp g1 g2 g3 g4 g5 g6
        rw [hcw, show nI w + Int32.ofInt 1 = nI (w + 1) from nI_1 w]
        have f76 : ∀ x, rwI (aset M5 80 w (.int (M5.1 76 w))) 76 x = rwI M5 76 x := fun x => rfl
        have f77 : ∀ x, rwI (aset M5 80 w (.int (M5.1 76 w))) 77 x = rwI M5 77 x := fun x => rfl
        have gw : rwI M5 76 w = (p : Int) := by rw [g4, fxU, if_pos rfl]
        refine ih (w + 1) a _ (by omega) g1 (fun b k k1 k2 k3 k4 k5 => ?_) (fun k => ?_) (fun k => ?_) (fun x hx1 hx2 => ?_) ?_ ?_ h8
        · rw [set_1, if_neg k4]
          exact g2 b k k1 k2 k3 k4 k5
        · rw [f76, g4, fxU]
          split
          · omega
          · exact h3 k
        · unfold rwI
          rw [set_1, if_pos rfl]
          split
          · have e : (M5.1 76 w).toInt = (p : Int) := gw
            omega
          · exact g3 k
        · rw [f76, g4, fxU, if_neg (by omega)]
          exact h5 x (by omega) hx2
        · exact g5
        · exact g6
      -- the search
      have l40 : ∀ (d2 p : Nat) (M2 : aM), p + d2 = p0 → M2.2.2 = M.2.2 → (∀ a k, a ≠ 76 → a ≠ 77 → a ≠ 78 → a ≠ 80 → (a = 58 → k ≠ 46) → M2.1 a k = M.1 a k) → (∀ k, 0 ≤ rwI M2 80 k ∧ rwI M2 80 k ≤ 5) → (∀ x, x ≠ w → rwI M2 76 x = rwI M1 76 x) → AW l (pI pg 208) (fcI M (Q207 M)) 0 0 40 [(5, .int (Int32.ofInt 0)), (4, .int (nI p)), (3, .int (nI w)), (2, .int a), (0, .ref 58), (1, .int (nI (dLf D)))] [] SHF M2 := by
        intro d2
        induction d2 with
        | zero =>
          intro p M2 hp g1 g2 g3 g4
          have e : p = p0 := by omega
          subst e
          have hz : ¬ ¬ (Int32.ofInt 0 = 0) := fun h => h (by decide)
          have hma := (hm.re g1 g2).re (M' := aset M2 76 (nI w).toNatClampNeg (.int (nI p))) rfl (fun b k k1 _ _ _ _ => by rw [set_1, if_neg k1])
          have e76 : rwI (aset M2 76 (nI w).toNatClampNeg (.int (nI p))) 76 = fxU (rwI M1 76) w (p : Int) := by
            funext x
            unfold rwI
            rw [hcw, set_1, if_pos rfl, fxU]
            by_cases e : x = w
            · rw [if_pos e, if_pos e, nI_toInt (by omega)]
            · rw [if_neg e, if_neg e]
              exact g4 x e
          have use : ∀ M5 : aM, M5.2.2 = (aset M2 76 (nI w).toNatClampNeg (.int (nI p))).2.2 → Q210 N D (rwI (aset M2 76 (nI w).toNatClampNeg (.int (nI p))) 76) (aset M2 76 (nI w).toNatClampNeg (.int (nI p))) M5 → (Int32.ofInt 1 <<< (M5.1 58 2 &&& 31)) - Int32.ofInt 1 = nI (2 ^ dW D - 1) ∧ rwI M5 77 (2 ^ dW D - 1) = a.toInt ∧ (∀ x, rwI M5 76 x = fxU (rwI M1 76) w (p : Int) x) ∧ Best (Rch D (rwI M5 76) N) (dW D) (rwI M5 77) := by
            intro M5 e5 q5
            have hm5 := hma.keep e5 q5.2.2
            have s5 := hm5.self
            rw [e76] at s5
            have b5 := q5.1
            rw [e76] at b5
            refine ⟨by rw [hm5.2.1, fullW hW], (hpf _ b5).trans h7, fun x => by rw [← s5], ?_⟩
            rw [← s5]
            exact b5
          refine s207_40 (Q5 := Q210 N D (rwI (aset M2 76 (nI w).toNatClampNeg (.int (nI p))) 76) (aset M2 76 (nI w).toNatClampNeg (.int (nI p)))) (hm.re g1 g2).1 (fun h => absurd h hz) (fun h => absurd h hz) (fun _ => vp_in_nI (by omega) (by decide)) (c6 := fun _ => c210 hl0 hma hb) (fun _ M5 e5 q5 h7' => ?_) (fun _ M5 e5 q5 _ => ?_) (fun _ M5 e5 q5 _ h10 => ?_) (fun _ M5 e5 q5 _ _ => ?_)
          · exact absurd ((bitT (by omega) (by omega)).mpr hpl) h7'
          · rw [(use M5 e5 q5).1]
            exact vp_in_nI (by omega) (by decide)
          · obtain ⟨u1, u2, -⟩ := use M5 e5 q5
            rw [u1, nI_clamp (by omega)] at h10
            exact absurd (Int32.toInt_inj.mp u2) h10
          · obtain ⟨u1, u2, u3, u4⟩ := use M5 e5 q5
            have g2' : ∀ a k, a ≠ 76 → a ≠ 77 → a ≠ 78 → a ≠ 80 → (a = 58 → k ≠ 46) → M5.1 a k = M.1 a k := fun b k k1 k2 k3 k4 k5 => by
              rw [q5.2.2 b k k2 k3, set_1, if_neg k1]
              exact g2 b k k1 k2 k3 k4 k5
            have g3' : ∀ k, 0 ≤ rwI M5 80 k ∧ rwI M5 80 k ≤ 5 := fun k => by
              unfold rwI
              rw [q5.2.2 80 k (by decide) (by decide), set_1, if_neg (by decide)]
              exact g3 k
            rw [show nI p + Int32.ofInt 1 = nI (p + 1) from nI_1 p]
            have nz : ¬ (Int32.ofInt 1 = 0) := by decide
            refine s207_40 (Q5 := fun _ => True) (hm.re (e5.trans g1) g2').1 (fun _ => vp_in_nI (by omega) (by decide)) (fun _ => out p M5 (by omega) (e5.trans g1) g2' g3' u3 u4 u2) (fun h => absurd h nz) (c6 := fun h => absurd h nz) (fun h => absurd h nz) (fun h => absurd h nz) (fun h => absurd h nz) (fun h => absurd h nz)
        | succ d2 ih2 =>
          intro p M2 hp g1 g2 g3 g4
          have hz : ¬ ¬ (Int32.ofInt 0 = 0) := fun h => h (by decide)
          have hma := (hm.re g1 g2).re (M' := aset M2 76 (nI w).toNatClampNeg (.int (nI p))) rfl (fun b k k1 _ _ _ _ => by rw [set_1, if_neg k1])
          have e76 : rwI (aset M2 76 (nI w).toNatClampNeg (.int (nI p))) 76 = fxU (rwI M1 76) w (p : Int) := by
            funext x
            unfold rwI
            rw [hcw, set_1, if_pos rfl, fxU]
            by_cases e : x = w
            · rw [if_pos e, if_pos e, nI_toInt (by omega)]
            · rw [if_neg e, if_neg e]
              exact g4 x e
          have use : ∀ M5 : aM, M5.2.2 = (aset M2 76 (nI w).toNatClampNeg (.int (nI p))).2.2 → Q210 N D (rwI (aset M2 76 (nI w).toNatClampNeg (.int (nI p))) 76) (aset M2 76 (nI w).toNatClampNeg (.int (nI p))) M5 → (Int32.ofInt 1 <<< (M5.1 58 2 &&& 31)) - Int32.ofInt 1 = nI (2 ^ dW D - 1) ∧ (∀ x, rwI M5 76 x = fxU (rwI M1 76) w (p : Int) x) ∧ Best (Rch D (rwI M5 76) N) (dW D) (rwI M5 77) ∧ (∀ a k, a ≠ 76 → a ≠ 77 → a ≠ 78 → a ≠ 80 → (a = 58 → k ≠ 46) → M5.1 a k = M.1 a k) ∧ ∀ k, 0 ≤ rwI M5 80 k ∧ rwI M5 80 k ≤ 5 := by
            intro M5 e5 q5
            have hm5 := hma.keep e5 q5.2.2
            have s5 := hm5.self
            rw [e76] at s5
            have b5 := q5.1
            rw [e76] at b5
            refine ⟨by rw [hm5.2.1, fullW hW], fun x => by rw [← s5], ?_, fun b k k1 k2 k3 k4 k5 => ?_, fun k => ?_⟩
            · rw [← s5]
              exact b5
            · rw [q5.2.2 b k k2 k3, set_1, if_neg k1]
              exact g2 b k k1 k2 k3 k4 k5
            · unfold rwI
              rw [q5.2.2 80 k (by decide) (by decide), set_1, if_neg (by decide)]
              exact g3 k
          have on : ∀ M5 : aM, M5.2.2 = (aset M2 76 (nI w).toNatClampNeg (.int (nI p))).2.2 → Q210 N D (rwI (aset M2 76 (nI w).toNatClampNeg (.int (nI p))) 76) (aset M2 76 (nI w).toNatClampNeg (.int (nI p))) M5 → AW l (pI pg 208) (fcI M (Q207 M)) 0 0 40 [(5, .int (Int32.ofInt 0)), (4, .int (nI p + Int32.ofInt 1)), (3, .int (nI w)), (2, .int a), (0, .ref 58), (1, .int (nI (dLf D)))] [] SHF M5 := by
            intro M5 e5 q5
            obtain ⟨u1, u3, u4, u5, u6⟩ := use M5 e5 q5
            rw [show nI p + Int32.ofInt 1 = nI (p + 1) from nI_1 p]
            exact ih2 (p + 1) M5 (by omega) (e5.trans g1) u5 u6 (fun x hx => by rw [u3, fxU, if_neg hx])
          refine s207_40 (Q5 := Q210 N D (rwI (aset M2 76 (nI w).toNatClampNeg (.int (nI p))) 76) (aset M2 76 (nI w).toNatClampNeg (.int (nI p)))) (hm.re g1 g2).1 (fun h => absurd h hz) (fun h => absurd h hz) (fun _ => vp_in_nI (by omega) (by decide)) (c6 := fun _ => c210 hl0 hma hb) (fun _ M5 e5 q5 _ => on M5 e5 q5) (fun _ M5 e5 q5 _ => ?_) (fun _ M5 e5 q5 _ _ => on M5 e5 q5) (fun _ M5 e5 q5 _ h10 => ?_)
          · rw [(use M5 e5 q5).1]
            exact vp_in_nI (by omega) (by decide)
          · obtain ⟨u1, u3, u4, u5, u6⟩ := use M5 e5 q5
            rw [u1, nI_clamp (by omega)] at h10
            have u2 : rwI M5 77 (2 ^ dW D - 1) = a.toInt := by
              show (M5.1 77 (2 ^ dW D - 1)).toInt = _
              rw [h10]
            rw [show nI p + Int32.ofInt 1 = nI (p + 1) from nI_1 p]
            have nz : ¬ (Int32.ofInt 1 = 0) := by decide
            refine s207_40 (Q5 := fun _ => True) (hm.re (e5.trans g1) u5).1 (fun _ => vp_in_nI (by omega) (by decide)) (fun _ => out p M5 (by omega) (e5.trans g1) u5 u6 u3 u4 u2) (fun h => absurd h nz) (c6 := fun h => absurd h nz) (fun h => absurd h nz) (fun h => absurd h nz) (fun h => absurd h nz) (fun h => absurd h nz)
      exact l40 p0 0 M1 (Nat.zero_add _) h1 h2 h4 (fun _ _ => rfl)
  refine s207_0 hm.1 (Q208 N D M) (c208 hl0 hm hb) (fun y M1 e1 q1 h3 => ?_) (fun y M1 e1 q1 h3 => ?_) (fun y M1 e1 q1 h3 => ?_)
  all_goals
    obtain ⟨q1, q2, q3, q4, q5⟩ := q1
    have fr : ∀ a k, a ≠ 76 → a ≠ 77 → a ≠ 78 → a ≠ 80 → (a = 58 → k ≠ 46) → M1.1 a k = M.1 a k := fun b k k1 k2 k3 _ _ => q3 b k k1 k2 k3
    have hmd := hm.re e1 fr
    have r76 : ∀ k, -1 ≤ rwI M1 76 k ∧ rwI M1 76 k ≤ 6 := fun k => by
      by_cases e : k < 8
      · have : rwI M1 76 k = -1 := by
          show (M1.1 76 k).toInt = -1
          rw [q1 k e]
          exact hm1
        omega
      · have := h76 k
        unfold rwI at this ⊢
        rw [q2 k (by omega)]
        exact this
    have r80 : ∀ k, 0 ≤ rwI M1 80 k ∧ rwI M1 80 k ≤ 5 := fun k => by
      have := h80 k
      unfold rwI at this ⊢
      rw [q3 80 k (by decide) (by decide) (by decide)]
      exact this
    have hfl : (Int32.ofInt 1 <<< (M1.1 58 2 &&& 31)) - Int32.ofInt 1 = nI (2 ^ dW D - 1) := by rw [hmd.2.1, fullW hW]
  · rw [hfl]
    exact vp_in_nI (by omega) (by decide)
  · rw [hfl, nI_clamp (by omega)]
    refine l26 (dW D) 0 _ M1 (Nat.zero_add _) e1 fr r76 r80 (fun x _ hx => ?_) q4 rfl ?_
    · show (M1.1 76 x).toInt = -1
      rw [q1 x hx]
      exact hm1
    · rcases q5 with ⟨-, h⟩ | ⟨h, -⟩
      · exact h
      · exact absurd h h3
  · exact ⟨rfl, e1, _, rfl, Or.inl rfl, fr, r76, r80⟩
