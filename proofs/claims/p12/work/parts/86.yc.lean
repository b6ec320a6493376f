/-! THE REFERENCE'S BEST ROW: lays0 finds the first row of the greatest sum -/
theorem own_eq {r r' : Nat → Nat} {p t : Nat} : ∀ {n : Nat}, (∀ w, w < n → r' w = r w) → ownS r' p t n = ownS r p t n
  | 0, _ => rfl
  | n + 1, h => by
    show ownS r' p t n ||| _ = ownS r p t n ||| _
    rw [own_eq (fun w hw => h w (by omega)), h n (Nat.lt_succ_self _)]
theorem sumR_eq {g : Nat → Nat → Int} {r r' : Nat → Nat} {t : Nat} : ∀ {n : Nat}, (∀ w, w < n → r' w = r w) → sumR g r' t n = sumR g r t n
  | 0, _ => rfl
  | n + 1, h => by
    show sumR g r' t n + _ = sumR g r t n + _
    rw [sumR_eq (fun w hw => h w (by omega)), h n (Nat.lt_succ_self _)]
theorem rowO_eq {H : HS} {cd : Nat → Nat} {lf N t : Nat} {r r' : Nat → Nat} (h : ∀ w, w < H.wo → r' w = r w) (h1 : rowO H cd lf N t r) : rowO H cd lf N t r' := ⟨fun w hw hb => by rw [h w hw]; exact h1.1 w hw hb, fun p hp => by rw [own_eq h]; exact h1.2 p hp⟩
theorem ful_bit {W w : Nat} (hw : w < W) : (2 ^ W - 1).testBit w = true := by
  rw [Nat.testBit_two_pow_sub_one]
  exact decide_eq_true hw
/-- the first row of the greatest sum -/
def brw (H : HS) (cd : Nat → Nat) (N lf : Nat) (g : Nat → Nat → Int) (la : Nat → Nat) : Prop := rowO H cd lf N (2 ^ H.wo - 1) la ∧ (∀ r, rowO H cd lf N (2 ^ H.wo - 1) r → sumR g r (2 ^ H.wo - 1) H.wo ≤ sumR g la (2 ^ H.wo - 1) H.wo) ∧ ∀ w, w < H.wo → ∀ r, rowO H cd lf N (2 ^ H.wo - 1) r → sumR g r (2 ^ H.wo - 1) H.wo = sumR g la (2 ^ H.wo - 1) H.wo → (∀ x, x < w → r x = la x) → la w ≤ r w
def grd (H : HS) (cd : Nat → Nat) (N lf : Nat) (g : Nat → Nat → Int) (A : Int) (la : Nat → Nat) (w : Nat) : Prop := ∀ x, x < w → ∀ r, rowO H cd lf N (2 ^ H.wo - 1) r → sumR g r (2 ^ H.wo - 1) H.wo = A → (∀ z, z < x → r z = la z) → la x ≤ r x
def Q7f (H : HS) (cd : Nat → Nat) (N : Nat) (D : rD) (M : aM) : Int32 → aM → Prop := fun y M' => (∀ a k, a ≠ 76 → a ≠ 77 → a ≠ 78 → a ≠ 80 → (a = 58 → k ≠ 46) → M'.1 a k = M.1 a k) ∧ ((y = 0 ∧ ∀ r, ¬ rowO H cd (dLf D) N (2 ^ H.wo - 1) r) ∨ (y = 1 ∧ ∃ la, brw H cd N (dLf D) (dG D) la ∧ (M'.1 58 46).toInt = sumR (dG D) la (2 ^ H.wo - 1) H.wo ∧ ∀ w, w < H.wo → M'.1 80 w = nI (la w)))
theorem c207f {l : aL} (hl0 : l.1.stackTraces = false) {M : aM} {N : Nat} {D : rD} {fx : Nat → Int} {H : HS} {cd : Nat → Nat} (hm : mdl M N D fx) (hb : mdB N D) (hWH : dW D = H.wo) (hL : hLs H cd N D) : AC l (pI pg 208) (fcI M (Q7f H cd N D M)) 0 0 [.ref 58, .int (nI (dLf D))] SHF M := by
  refine fw_of hl0 ⟨by decide +kernel, by decide +kernel, by decide +kernel⟩ rfl ?_
  have hW := hb.1
  have hN := hb.2.1
  have hLf := hb.2.2.2.2.2
  have h256 := p2_8 hW
  have hpos := Nat.two_pow_pos (dW D)
  have hm1 : (Int32.ofInt (-1)).toInt = -1 := by decide
  have key := fun (fx : Nat → Int) (v : Int) => Rch_row (H := H) (cd := cd) (lf := dLf D) (N := N) (D := D) (fx := fx) hWH rfl hL N (Nat.le_refl _) (2 ^ H.wo - 1) (by rw [← hWH]; omega) v
  -- the works' loop
  have l26 : ∀ (d w : Nat) (a : Int32) (la : Nat → Nat) (M1 : aM), w + d = dW D → M1.2.2 = M.2.2 → (∀ a k, a ≠ 76 → a ≠ 77 → a ≠ 78 → a ≠ 80 → (a = 58 → k ≠ 46) → M1.1 a k = M.1 a k) → (∀ x, x < w → rwI M1 76 x = (la x : Int) ∧ M1.1 80 x = nI (la x)) → (∀ x, w ≤ x → x < 8 → rwI M1 76 x = -1) → Best (Rch D (rwI M1 76) N) (dW D) (rwI M1 77) → rwI M1 77 (2 ^ dW D - 1) = a.toInt → a.toInt ≠ -1 → (∀ r, rowO H cd (dLf D) N (2 ^ H.wo - 1) r → sumR (dG D) r (2 ^ H.wo - 1) H.wo ≤ a.toInt) → grd H cd N (dLf D) (dG D) a.toInt la w → AW l (pI pg 208) (fcI M (Q7f H cd N D M)) 0 0 26 [(3, .int (nI w)), (2, .int a), (0, .ref 58), (1, .int (nI (dLf D)))] [] SHF M1 := by
    intro d
    induction d with
    | zero =>
      intro w a la M1 hw h1 h2 h3 h5 h6 h7 h8 h9 hg
      have hmd := hm.re h1 h2
      have ew : w = H.wo := by omega
      have no : ¬ ¬ (M1.1 58 2 ≤ nI w) := by
        rw [hmd.2.1]
        exact fun h => h (nI_le (by omega) (by omega))
      refine s207_26 hmd.1 (fun _ => ?_) (fun h => absurd h no)
      have hR : Rch D (rwI M1 76) N (2 ^ H.wo - 1) a.toInt := by
        rcases h6 (2 ^ dW D - 1) (by omega) with ⟨b, -⟩ | ⟨-, b, -⟩
        · exact absurd (h7.symm.trans b) h8
        · rw [h7, hWH] at b
          exact b
      obtain ⟨r, r1, r2, r3⟩ := (key _ _).mp hR
      have rl : ∀ x, x < H.wo → la x = r x := fun x hx => by
        have q := (h3 x (by omega)).1
        rcases r2 x hx with y | ⟨-, y⟩ | ⟨y, -⟩
        · omega
        · omega
        · rw [ful_bit hx] at y
          cases y
      have sl : sumR (dG D) la (2 ^ H.wo - 1) H.wo = a.toInt := by rw [sumR_eq rl, ← r3]
      refine ⟨rfl, h1, _, rfl, fun b k g1 g2 g3 g4 g5 => ?_, Or.inr ⟨rfl, la, ⟨rowO_eq rl r1, fun r' hr' => by rw [sl]; exact h9 r' hr', fun x hx r' hr' hs hz => hg x (by omega) r' hr' (by rw [hs, sl]) hz⟩, ?_, fun x hx => ?_⟩⟩
      · rw [set_1]
        by_cases e : b = 58
        · rw [if_pos e, if_neg (g5 e)]
          exact h2 b k g1 g2 g3 g4 g5
        · rw [if_neg e]
          exact h2 b k g1 g2 g3 g4 g5
      · rw [set_1, if_pos rfl, if_pos rfl, sl]
      · rw [set_1, if_neg (by decide)]
        exact (h3 x (by omega)).2
    | succ d ih =>
      intro w a la M1 hw h1 h2 h3 h5 h6 h7 h8 h9 hg
      have hmd := hm.re h1 h2
      refine s207_26 hmd.1 (fun h => ?_) (fun _ => ?_)
      · rw [hmd.2.1] at h
        exact ge_no (by omega) (by omega) h
      -- the doer that will be found
      have hbit : (2 ^ dW D - 1).testBit w = true := by
        rw [Nat.testBit_two_pow_sub_one]
        exact decide_eq_true (by omega)
      obtain ⟨p0, hp0, hpl, hpf⟩ := found_in (w := w) (t := 2 ^ dW D - 1) (h5 w (Nat.le_refl _) (by omega)) (by omega) hbit h6 (by rw [h7]; exact h8)
      have hcw : (nI w).toNatClampNeg = w := nI_clamp (by omega)
      -- it has been found
      have out : ∀ (p : Nat) (M5 : aM), p < 6 → M5.2.2 = M.2.2 → (∀ a k, a ≠ 76 → a ≠ 77 → a ≠ 78 → a ≠ 80 → (a = 58 → k ≠ 46) → M5.1 a k = M.1 a k) → (∀ x, x < w → M5.1 80 x = M1.1 80 x) → (∀ x, rwI M5 76 x = fxU (rwI M1 76) w (p : Int) x) → Best (Rch D (rwI M5 76) N) (dW D) (rwI M5 77) → rwI M5 77 (2 ^ dW D - 1) = a.toInt → (∀ q, q < p → ∀ r, rowO H cd (dLf D) N (2 ^ H.wo - 1) r → sumR (dG D) r (2 ^ H.wo - 1) H.wo = a.toInt → (∀ z, z < w → r z = la z) → r w ≠ q) → AW l (pI pg 208) (fcI M (Q7f H cd N D M)) 0 0 26 [(3, .int (nI w + Int32.ofInt 1)), (2, .int a), (0, .ref 58), (1, .int (nI (dLf D)))] [] SHF (aset M5 80 (nI w).toNatClampNeg (.int (M5.1 76 (nI w).toNatClampNeg))) := by
        intro p M5 hp g1 g2 g3 g4 g5 g6 g7
        rw [hcw, show nI w + Int32.ofInt 1 = nI (w + 1) from nI_1 w]
        have f76 : ∀ x, rwI (aset M5 80 w (.int (M5.1 76 w))) 76 x = rwI M5 76 x := fun x => rfl
        have gw : rwI M5 76 w = (p : Int) := by rw [g4, fxU, if_pos rfl]
        have gp : M5.1 76 w = nI p := Int32.toInt_inj.mp (by rw [nI_toInt (by omega)]; exact gw)
        refine ih (w + 1) a (fun x => if x = w then p else la x) _ (by omega) g1 (fun b k k1 k2 k3 k4 k5 => ?_) (fun x hx => ?_) (fun x hx1 hx2 => ?_) ?_ ?_ h8 h9 (fun x hx r hr hs hz => ?_)
        · rw [set_1, if_neg k4]
          exact g2 b k k1 k2 k3 k4 k5
        · show rwI (aset M5 80 w (.int (M5.1 76 w))) 76 x = ((if x = w then p else la x : Nat) : Int) ∧ (aset M5 80 w (.int (M5.1 76 w))).1 80 x = nI (if x = w then p else la x)
          rw [f76, g4, fxU, set_1, if_pos rfl]
          by_cases e : x = w
          · rw [if_pos e, if_pos e, if_pos e, gp]
            exact ⟨rfl, rfl⟩
          · rw [if_neg e, if_neg e, if_neg e]
            obtain ⟨y1, y2⟩ := h3 x (by omega)
            exact ⟨y1, (g3 x (by omega)).trans y2⟩
        · rw [f76, g4, fxU, if_neg (by omega)]
          exact h5 x (by omega) hx2
        · exact g5
        · exact g6
        · show (if x = w then p else la x) ≤ r x
          have hz' : ∀ z, z < x → z < w → r z = la z := fun z hz1 hz2 => by
            have := hz z hz1
            have this : r z = (if z = w then p else la z) := this
            rw [if_neg (by omega)] at this
            exact this
          by_cases e : x = w
          · rw [if_pos e]
            subst e
            refine Nat.le_of_not_lt fun hlt => ?_
            exact g7 (r x) hlt r hr hs (fun z hz => hz' z hz hz) rfl
          · rw [if_neg e]
            exact hg x (by omega) r hr hs (fun z hz => hz' z hz (by omega))
      -- the search
      have l40 : ∀ (d2 p : Nat) (M2 : aM), p + d2 = p0 → M2.2.2 = M.2.2 → (∀ a k, a ≠ 76 → a ≠ 77 → a ≠ 78 → a ≠ 80 → (a = 58 → k ≠ 46) → M2.1 a k = M.1 a k) → (∀ x, x < w → M2.1 80 x = M1.1 80 x) → (∀ x, x ≠ w → rwI M2 76 x = rwI M1 76 x) → (∀ q, q < p → ∀ r, rowO H cd (dLf D) N (2 ^ H.wo - 1) r → sumR (dG D) r (2 ^ H.wo - 1) H.wo = a.toInt → (∀ z, z < w → r z = la z) → r w ≠ q) → AW l (pI pg 208) (fcI M (Q7f H cd N D M)) 0 0 40 [(5, .int (Int32.ofInt 0)), (4, .int (nI p)), (3, .int (nI w)), (2, .int a), (0, .ref 58), (1, .int (nI (dLf D)))] [] SHF M2 := by
        intro d2
        induction d2 with
        | zero =>
          intro p M2 hp g1 g2 g3 g4 gq
          have e : p = p0 := by omega
          subst e
          have hz : ¬ ¬ (Int32.ofInt 0 = 0) := fun h => h (by decide)
          have hma := (hm.re g1 g2).re (M' := aset M2 76 (nI w).toNatClampNeg (.int (nI p))) rfl (fun b k k1 _ _ _ _ => by rw [set_1, if_neg k1])
          have e76 : rwI (aset M2 76 (nI w).toNatClampNeg (.int (nI p))) 76 = fxU (rwI M1 76) w (p : Int) := by
            funext x
            unfold rwI
            rw [hcw, set_1, if_pos rfl, fxU]
            by_cases e : x = w
            · rw [if_pos e, if_pos e, nI_toInt (by omega)]
            · rw [if_neg e, if_neg e]
              exact g4 x e
          have use : ∀ M5 : aM, M5.2.2 = (aset M2 76 (nI w).toNatClampNeg (.int (nI p))).2.2 → Q210 N D (rwI (aset M2 76 (nI w).toNatClampNeg (.int (nI p))) 76) (aset M2 76 (nI w).toNatClampNeg (.int (nI p))) M5 → (Int32.ofInt 1 <<< (M5.1 58 2 &&& 31)) - Int32.ofInt 1 = nI (2 ^ dW D - 1) ∧ rwI M5 77 (2 ^ dW D - 1) = a.toInt ∧ (∀ x, rwI M5 76 x = fxU (rwI M1 76) w (p : Int) x) ∧ Best (Rch D (rwI M5 76) N) (dW D) (rwI M5 77) := by
            intro M5 e5 q5
            have hm5 := hma.keep e5 q5.2.2
            have s5 := hm5.self
            rw [e76] at s5
            have b5 := q5.1
            rw [e76] at b5
            refine ⟨by rw [hm5.2.1, fullW hW], (hpf _ b5).trans h7, fun x => by rw [← s5], ?_⟩
            rw [← s5]
            exact b5
          refine s207_40 (Q5 := Q210 N D (rwI (aset M2 76 (nI w).toNatClampNeg (.int (nI p))) 76) (aset M2 76 (nI w).toNatClampNeg (.int (nI p)))) (hm.re g1 g2).1 (fun h => absurd h hz) (fun h => absurd h hz) (fun _ => vp_in_nI (by omega) (by decide)) (c6 := fun _ => c210 hl0 hma hb) (fun _ M5 e5 q5 h7' => ?_) (fun _ M5 e5 q5 _ => ?_) (fun _ M5 e5 q5 _ h10 => ?_) (fun _ M5 e5 q5 _ _ => ?_)
          · exact absurd ((bitT (by omega) (by omega)).mpr hpl) h7'
          · rw [(use M5 e5 q5).1]
            exact vp_in_nI (by omega) (by decide)
          · obtain ⟨u1, u2, -⟩ := use M5 e5 q5
            rw [u1, nI_clamp (by omega)] at h10
            exact absurd (Int32.toInt_inj.mp u2) h10
          · obtain ⟨u1, u2, u3, u4⟩ := use M5 e5 q5
            have g2' : ∀ a k, a ≠ 76 → a ≠ 77 → a ≠ 78 → a ≠ 80 → (a = 58 → k ≠ 46) → M5.1 a k = M.1 a k := fun b k k1 k2 k3 k4 k5 => by
              rw [q5.2.2 b k k2 k3, set_1, if_neg k1]
              exact g2 b k k1 k2 k3 k4 k5
            have g3' : ∀ x, x < w → M5.1 80 x = M1.1 80 x := fun x hx => by
              rw [q5.2.2 80 x (by decide) (by decide), set_1, if_neg (by decide)]
              exact g3 x hx
            rw [show nI p + Int32.ofInt 1 = nI (p + 1) from nI_1 p]
            have nz : ¬ (Int32.ofInt 1 = 0) := by decide
            refine s207_40 (Q5 := fun _ => True) (hm.re (e5.trans g1) g2').1 (fun _ => vp_in_nI (by omega) (by decide)) (fun _ => out p M5 (by omega) (e5.trans g1) g2' g3' u3 u4 u2 gq) (fun h => absurd h nz) (c6 := fun h => absurd h nz) (fun h => absurd h nz) (fun h => absurd h nz) (fun h => absurd h nz) (fun h => absurd h nz)
        | succ d2 ih2 =>
          intro p M2 hp g1 g2 g3 g4 gq
          have hz : ¬ ¬ (Int32.ofInt 0 = 0) := fun h => h (by decide)
          have hma := (hm.re g1 g2).re (M' := aset M2 76 (nI w).toNatClampNeg (.int (nI p))) rfl (fun b k k1 _ _ _ _ => by rw [set_1, if_neg k1])
          have e76 : rwI (aset M2 76 (nI w).toNatClampNeg (.int (nI p))) 76 = fxU (rwI M1 76) w (p : Int) := by
            funext x
            unfold rwI
            rw [hcw, set_1, if_pos rfl, fxU]
            by_cases e : x = w
            · rw [if_pos e, if_pos e, nI_toInt (by omega)]
            · rw [if_neg e, if_neg e]
              exact g4 x e
          have use : ∀ M5 : aM, M5.2.2 = (aset M2 76 (nI w).toNatClampNeg (.int (nI p))).2.2 → Q210 N D (rwI (aset M2 76 (nI w).toNatClampNeg (.int (nI p))) 76) (aset M2 76 (nI w).toNatClampNeg (.int (nI p))) M5 → (Int32.ofInt 1 <<< (M5.1 58 2 &&& 31)) - Int32.ofInt 1 = nI (2 ^ dW D - 1) ∧ (∀ x, rwI M5 76 x = fxU (rwI M1 76) w (p : Int) x) ∧ Best (Rch D (rwI M5 76) N) (dW D) (rwI M5 77) ∧ (∀ a k, a ≠ 76 → a ≠ 77 → a ≠ 78 → a ≠ 80 → (a = 58 → k ≠ 46) → M5.1 a k = M.1 a k) ∧ ∀ x, x < w → M5.1 80 x = M1.1 80 x := by
            intro M5 e5 q5
            have hm5 := hma.keep e5 q5.2.2
            have s5 := hm5.self
            rw [e76] at s5
            have b5 := q5.1
            rw [e76] at b5
            refine ⟨by rw [hm5.2.1, fullW hW], fun x => by rw [← s5], ?_, fun b k k1 k2 k3 k4 k5 => ?_, fun k hk => ?_⟩
            · rw [← s5]
              exact b5
            · rw [q5.2.2 b k k2 k3, set_1, if_neg k1]
              exact g2 b k k1 k2 k3 k4 k5
            · rw [q5.2.2 80 k (by decide) (by decide), set_1, if_neg (by decide)]
              exact g3 k hk
          have on : ∀ M5 : aM, M5.2.2 = (aset M2 76 (nI w).toNatClampNeg (.int (nI p))).2.2 → Q210 N D (rwI (aset M2 76 (nI w).toNatClampNeg (.int (nI p))) 76) (aset M2 76 (nI w).toNatClampNeg (.int (nI p))) M5 → (∀ r, rowO H cd (dLf D) N (2 ^ H.wo - 1) r → sumR (dG D) r (2 ^ H.wo - 1) H.wo = a.toInt → (∀ z, z < w → r z = la z) → r w ≠ p) → AW l (pI pg 208) (fcI M (Q7f H cd N D M)) 0 0 40 [(5, .int (Int32.ofInt 0)), (4, .int (nI p + Int32.ofInt 1)), (3, .int (nI w)), (2, .int a), (0, .ref 58), (1, .int (nI (dLf D)))] [] SHF M5 := by
            intro M5 e5 q5 hq
            obtain ⟨u1, u3, u4, u5, u6⟩ := use M5 e5 q5
            rw [show nI p + Int32.ofInt 1 = nI (p + 1) from nI_1 p]
            refine ih2 (p + 1) M5 (by omega) (e5.trans g1) u5 u6 (fun x hx => by rw [u3, fxU, if_neg hx]) (fun q hq2 => ?_)
            by_cases e : q = p
            · rw [e]
              exact hq
            · exact gq q (by omega)
          refine s207_40 (Q5 := Q210 N D (rwI (aset M2 76 (nI w).toNatClampNeg (.int (nI p))) 76) (aset M2 76 (nI w).toNatClampNeg (.int (nI p)))) (hm.re g1 g2).1 (fun h => absurd h hz) (fun h => absurd h hz) (fun _ => vp_in_nI (by omega) (by decide)) (c6 := fun _ => c210 hl0 hma hb) (fun _ M5 e5 q5 h7' => on M5 e5 q5 (fun r hr _ _ er => ?_)) (fun _ M5 e5 q5 _ => ?_) (fun _ M5 e5 q5 _ h10 => on M5 e5 q5 (fun r hr hs hz2 er => ?_)) (fun _ M5 e5 q5 _ h10 => ?_)
          · have := (hr.1 w (by omega) (ful_bit (by omega))).2.1
            rw [er] at this
            exact absurd ((bitT (by omega) (by omega)).mpr this) h7'
          · rw [(use M5 e5 q5).1]
            exact vp_in_nI (by omega) (by decide)
          · obtain ⟨u1, u3, u4, u5, u6⟩ := use M5 e5 q5
            rw [u1, nI_clamp (by omega)] at h10
            have hf : ∀ x, x < H.wo → rwI M5 76 x = -1 ∨ rwI M5 76 x = (r x : Int) := fun x hx => by
              rw [u3, fxU]
              by_cases e : x = w
              · rw [if_pos e, e, er]
                exact Or.inr rfl
              · rw [if_neg e]
                by_cases e2 : x < w
                · rw [(h3 x e2).1, hz2 x e2]
                  exact Or.inr rfl
                · exact Or.inl (h5 x (by omega) (by omega))
            have rc : Rch D (rwI M5 76) N (2 ^ H.wo - 1) a.toInt := (key _ _).mpr ⟨r, hr, fun x hx => (hf x hx).imp id (fun y => Or.inl ⟨ful_bit hx, y⟩), hs.symm⟩
            rcases u4 (2 ^ dW D - 1) (by omega) with ⟨-, b⟩ | ⟨-, b, c⟩
            · rw [hWH] at b
              exact b _ rc
            · rw [hWH] at b c h10
              have c1 := c _ rc
              obtain ⟨r', r1, -, r3⟩ := (key _ _).mp b
              have c2 := h9 r' r1
              rw [← r3] at c2
              exact h10 (Int32.toInt_inj.mp (show rwI M5 77 (2 ^ H.wo - 1) = a.toInt by omega))
          · obtain ⟨u1, u3, u4, u5, u6⟩ := use M5 e5 q5
            rw [u1, nI_clamp (by omega)] at h10
            have u2 : rwI M5 77 (2 ^ dW D - 1) = a.toInt := by
              show (M5.1 77 (2 ^ dW D - 1)).toInt = _
              rw [h10]
            rw [show nI p + Int32.ofInt 1 = nI (p + 1) from nI_1 p]
            have nz : ¬ (Int32.ofInt 1 = 0) := by decide
            refine s207_40 (Q5 := fun _ => True) (hm.re (e5.trans g1) u5).1 (fun _ => vp_in_nI (by omega) (by decide)) (fun _ => out p M5 (by omega) (e5.trans g1) u5 u6 u3 u4 u2 gq) (fun h => absurd h nz) (c6 := fun h => absurd h nz) (fun h => absurd h nz) (fun h => absurd h nz) (fun h => absurd h nz) (fun h => absurd h nz)
      exact l40 p0 0 M1 (Nat.zero_add _) h1 h2 (fun _ _ => rfl) (fun _ _ => rfl) (fun q hq => absurd hq (Nat.not_lt_zero _))
  refine s207_0 hm.1 (Q208 N D M) (c208 hl0 hm hb) (fun y M1 e1 q1 h3 => ?_) (fun y M1 e1 q1 h3 => ?_) (fun y M1 e1 q1 h3 => ?_)
  all_goals
    obtain ⟨q1, q2, q3, q4, q5⟩ := q1
    have fr : ∀ a k, a ≠ 76 → a ≠ 77 → a ≠ 78 → a ≠ 80 → (a = 58 → k ≠ 46) → M1.1 a k = M.1 a k := fun b k k1 k2 k3 _ _ => q3 b k k1 k2 k3
    have hmd := hm.re e1 fr
    have hfl : (Int32.ofInt 1 <<< (M1.1 58 2 &&& 31)) - Int32.ofInt 1 = nI (2 ^ dW D - 1) := by rw [hmd.2.1, fullW hW]
    have f76 : ∀ x, x < 8 → rwI M1 76 x = -1 := fun x hx => by
      show (M1.1 76 x).toInt = -1
      rw [q1 x hx]
      exact hm1
    have free : ∀ r, rowO H cd (dLf D) N (2 ^ H.wo - 1) r → Rch D (rwI M1 76) N (2 ^ H.wo - 1) (sumR (dG D) r (2 ^ H.wo - 1) H.wo) := fun r hr => (key _ _).mpr ⟨r, hr, fun x hx => Or.inl (f76 x (by omega)), rfl⟩
  · rw [hfl]
    exact vp_in_nI (by omega) (by decide)
  · rw [hfl, nI_clamp (by omega)]
    have nm : rwI M1 77 (2 ^ dW D - 1) ≠ -1 := by
      rcases q5 with ⟨-, h⟩ | ⟨h, -⟩
      · exact h
      · exact absurd h h3
    refine l26 (dW D) 0 _ (fun _ => 0) M1 (Nat.zero_add _) e1 fr (fun x hx => absurd hx (Nat.not_lt_zero _)) (fun x _ hx => f76 x hx) q4 rfl nm (fun r hr => ?_) (fun x hx => absurd hx (Nat.not_lt_zero _))
    rcases q4 (2 ^ dW D - 1) (by omega) with ⟨b, -⟩ | ⟨-, -, c⟩
    · exact absurd b nm
    · refine c _ ?_
      rw [hWH]
      exact free r hr
  · refine ⟨rfl, e1, _, rfl, fr, Or.inl ⟨rfl, fun r hr => ?_⟩⟩
    have no : rwI M1 77 (2 ^ dW D - 1) = -1 := by
      rcases q5 with ⟨h, -⟩ | ⟨-, h⟩
      · exact absurd (h.symm.trans h3) (by decide)
      · exact h
    rcases q4 (2 ^ dW D - 1) (by omega) with ⟨-, b⟩ | ⟨b, -, -⟩
    · refine b (sumR (dG D) r (2 ^ H.wo - 1) H.wo) ?_
      rw [hWH]
      exact free r hr
    · omega
