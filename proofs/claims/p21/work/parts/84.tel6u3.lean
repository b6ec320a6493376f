/-! THE FIRST ROW HAS THE GREATEST NUMBER -/
theorem cdG_N {p w : Nat} : cdG p w = (((7 - p) * 8 ^ (7 - w) : Nat) : Int) := (Int.natCast_mul _ _).symm
theorem cod_lex {W : Nat} (hW : W ≤ 8) {r r' : Nat → Nat} {w : Nat} (hw : w < W) (h1 : ∀ x, x < w → r' x = r x) (h2 : r' w < r w) (h3 : r w ≤ 7) : sumR cdG r (2 ^ W - 1) W < sumR cdG r' (2 ^ W - 1) W := by
  have key : ∀ d, w + 1 + d ≤ W → sumR cdG r (2 ^ W - 1) (w + 1 + d) + ((8 ^ (8 - (w + 1 + d)) : Nat) : Int) ≤ sumR cdG r' (2 ^ W - 1) (w + 1 + d) := by
    intro d
    induction d with
    | zero =>
      intro _
      show sumR cdG r (2 ^ W - 1) w + (if (2 ^ W - 1).testBit w = true then cdG (r w) w else 0) + ((8 ^ (8 - (w + 1 + 0)) : Nat) : Int) ≤ sumR cdG r' (2 ^ W - 1) w + (if (2 ^ W - 1).testBit w = true then cdG (r' w) w else 0)
      rw [ful_bit hw, if_pos rfl, if_pos rfl, sumR_eq h1, cdG_N, cdG_N, show 8 - (w + 1 + 0) = 7 - w by omega]
      have m : ((7 - r w) + 1) * 8 ^ (7 - w) ≤ (7 - r' w) * 8 ^ (7 - w) := Nat.mul_le_mul_right _ (by omega)
      rw [Nat.add_mul, Nat.one_mul] at m
      generalize (7 - r w) * 8 ^ (7 - w) = a at *
      generalize (7 - r' w) * 8 ^ (7 - w) = b at *
      generalize 8 ^ (7 - w) = q at *
      omega
    | succ d ih =>
      intro hd
      have ih := ih (by omega)
      generalize hn : w + 1 + d = n at *
      have hnW : n < W := by omega
      show sumR cdG r (2 ^ W - 1) (w + 1 + (d + 1)) + ((8 ^ (8 - (w + 1 + (d + 1))) : Nat) : Int) ≤ sumR cdG r' (2 ^ W - 1) (w + 1 + (d + 1))
      rw [show w + 1 + (d + 1) = n + 1 by omega]
      show sumR cdG r (2 ^ W - 1) n + (if (2 ^ W - 1).testBit n = true then cdG (r n) n else 0) + ((8 ^ (8 - (n + 1)) : Nat) : Int) ≤ sumR cdG r' (2 ^ W - 1) n + (if (2 ^ W - 1).testBit n = true then cdG (r' n) n else 0)
      rw [ful_bit hnW, if_pos rfl, if_pos rfl, cdG_N, cdG_N, show 8 - (n + 1) = 7 - n by omega]
      rw [show 8 - n = (7 - n) + 1 by omega, Nat.pow_succ] at ih
      have m : (7 - r n) * 8 ^ (7 - n) ≤ 7 * 8 ^ (7 - n) := Nat.mul_le_mul_right _ (Nat.sub_le _ _)
      generalize (7 - r n) * 8 ^ (7 - n) = a at *
      generalize (7 - r' n) * 8 ^ (7 - n) = b at *
      generalize 8 ^ (7 - n) = q at *
      omega
  have k := key (W - (w + 1)) (by omega)
  rw [show w + 1 + (W - (w + 1)) = W by omega] at k
  have : 0 < 8 ^ (8 - W) := Nat.pow_pos (by decide)
  omega
theorem sumR_ge {g : Nat → Nat → Int} {r : Nat → Nat} {t : Nat} : ∀ n, (∀ w, w < n → t.testBit w = true → 0 ≤ g (r w) w) → 0 ≤ sumR g r t n
  | 0, _ => Int.le_refl _
  | n + 1, h => by
    have h1 := sumR_ge (g := g) (r := r) (t := t) n (fun w hw => h w (by omega))
    have h2 := h n (Nat.lt_succ_self _)
    show 0 ≤ sumR g r t n + _
    split
    · next e =>
        have := h2 e
        omega
    · omega
theorem sumR_g {g g' : Nat → Nat → Int} {r : Nat → Nat} {t : Nat} : ∀ n, (∀ w, w < n → t.testBit w = true → g (r w) w = g' (r w) w) → sumR g r t n = sumR g' r t n
  | 0, _ => rfl
  | n + 1, h => by
    have h1 := sumR_g (g := g) (g' := g') (r := r) (t := t) n (fun w hw => h w (by omega))
    have h2 := h n (Nat.lt_succ_self _)
    show sumR g r t n + _ = sumR g' r t n + _
    rw [h1]
    cases e : t.testBit n with
    | true => rw [if_pos rfl, if_pos rfl, h2 e]
    | false => rw [if_neg (by decide), if_neg (by decide)]
section BRW
variable {H : HS} {cd : Nat → Nat} {N lf : Nat} {g g' : Nat → Nat → Int}
theorem row_g (h : ∀ p w, p < N → w < H.wo → g p w = g' p w) {r : Nat → Nat} (hr : rowO H cd lf N (2 ^ H.wo - 1) r) : sumR g r (2 ^ H.wo - 1) H.wo = sumR g' r (2 ^ H.wo - 1) H.wo := sumR_g _ (fun w hw hb => h _ _ (hr.1 w hw hb).1 hw)
theorem brw_g (h : ∀ p w, p < N → w < H.wo → g p w = g' p w) {la : Nat → Nat} (hb : brw H cd N lf g la) : brw H cd N lf g' la := ⟨hb.1, fun r hr => by
    rw [← row_g h hr, ← row_g h hb.1]
    exact hb.2.1 r hr, fun w hw r hr hs hx => hb.2.2 w hw r hr (by rw [row_g h hr, row_g h hb.1]; exact hs) hx⟩
theorem brw_u {la la' : Nat → Nat} (h : brw H cd N lf g la) (h' : brw H cd N lf g la') : ∀ w, w < H.wo → la w = la' w := by
  have es : sumR g la (2 ^ H.wo - 1) H.wo = sumR g la' (2 ^ H.wo - 1) H.wo := by
    have := h.2.1 la' h'.1
    have := h'.2.1 la h.1
    omega
  intro w
  induction w using Nat.strongRecOn with
  | _ w ih =>
    intro hw
    have a := h.2.2 w hw la' h'.1 es.symm (fun x hx => (ih x hx (by omega)).symm)
    have b := h'.2.2 w hw la h.1 es (fun x hx => ih x hx (by omega))
    omega
theorem brw_of (w8 : H.wo ≤ 8) (p6 : H.pe ≤ 6) {S : Int} {r : Nat → Nat} (hd : dyP H lf S) (h1 : rowO H H.cd lf H.pe (2 ^ H.wo - 1) r) (h2 : sumR (skG H) r (2 ^ H.wo - 1) H.wo = S) (h3 : ∀ r', rowO H H.cd lf H.pe (2 ^ H.wo - 1) r' → sumR (skG H) r' (2 ^ H.wo - 1) H.wo = S → sumR cdG r' (2 ^ H.wo - 1) H.wo ≤ sumR cdG r (2 ^ H.wo - 1) H.wo) : brw H H.cd H.pe lf (skG H) r := by
  refine ⟨h1, fun r' hr' => ?_, fun w hw r' hr' hs hx => Nat.le_of_not_lt fun hlt => ?_⟩
  · rcases hd with ⟨-, -, hd⟩ | ⟨-, hd⟩
    · rw [h2]
      exact hd r' hr'
    · exact absurd h1 (hd r)
  · have a := (h1.1 w hw (ful_bit hw)).1
    have b := cod_lex w8 hw hx hlt (by omega)
    have c := h3 r' hr' (hs.trans h2)
    omega
theorem brw_dy {la : Nat → Nat} (h : brw H H.cd H.pe lf (skG H) la) : dyP H lf (sumR (skG H) la (2 ^ H.wo - 1) H.wo) := Or.inl ⟨sumR_ge _ (fun w _ _ => Int.natCast_nonneg _), ⟨la, h.1, rfl⟩, h.2.1⟩
end BRW
section DYQ
variable {l : aL} {M : aM} {H : HS} {x : Int32}
def dyI (H : HS) (x z : Int32) : Prop := ∃ S : Int, -1 ≤ S ∧ S ≤ 100 ∧ z = Int32.ofInt S ∧ dyP H x.toNatClampNeg S
theorem dyI_u : ∀ y z, dyI H x y → dyI H x z → y = z := by
  rintro y z ⟨S, -, -, rfl, h⟩ ⟨S', -, -, rfl, h'⟩
  rw [dyP_u h h']
/-- what day answers, and the row that is kept behind it, out of the one ahead of it -/
def QDy (H : HS) (lf : Nat) (k0 y k1 : Int32) : Prop := (y = Int32.ofInt (-1) ∧ dyP H lf (-1) ∧ k1 = k0) ∨ ∃ la, brw H H.cd H.pe lf (skG H) la ∧ y = Int32.ofInt (sumR (skG H) la (2 ^ H.wo - 1) H.wo) ∧ k1 = Int32.ofInt (sumR cdG la (2 ^ H.wo - 1) H.wo)
theorem sk9 (hI : HI H) {lf : Nat} {la : Nat → Nat} (h : rowO H H.cd lf H.pe (2 ^ H.wo - 1) la) : 0 ≤ sumR (skG H) la (2 ^ H.wo - 1) H.wo ∧ sumR (skG H) la (2 ^ H.wo - 1) H.wo ≤ 72 := by
  have w8 := hI.2.1
  have p6 := hI.1
  refine ⟨sumR_ge _ (fun w _ _ => Int.natCast_nonneg _), ?_⟩
  have := sumR_le (g := skG H) (r := la) (t := 2 ^ H.wo - 1) (G := 9) (by decide) H.wo (fun w hw hb => by
    have := (h.1 w hw hb).1
    have := (hI.2.2.2.2.2.2.2.1 (la w) w (by omega) (by omega)).1
    show (H.sk (8 * la w + w) : Int) ≤ 9
    omega)
  omega
theorem QDy_I (hI : HI H) {k0 y k1 : Int32} (h : QDy H x.toNatClampNeg k0 y k1) : dyI H x y := by
  rcases h with ⟨h1, h2, -⟩ | ⟨la, h1, h2, -⟩
  · exact ⟨-1, by decide, by decide, h1, h2⟩
  · have := sk9 hI h1.1
    exact ⟨_, by omega, by omega, h2, brw_dy h1⟩
def PDy (H : HS) (x : Int32) (M : aM) : aP := fun r sh' M' => sh' = SHF ∧ ((¬ inN (2 ^ H.pe) x ∧ r = .inr "java/lang/IllegalArgumentException" ∧ M' = M) ∨ (inN (2 ^ H.pe) x ∧ ∃ y : Int32, r = .inl (some (.int y)) ∧ QDy H x.toNatClampNeg (M.1 0 9) y (M'.1 0 9)))
theorem cof_c (hl0 : l.1.stackTraces = false) {f : Int64} : AC l (pI pg 108) (fcI M (fun y M' => M' = M ∧ y = (f &&& 16777215).toInt32)) 0 0 [.long f] SHF M := by
  refine fw_of hl0 ⟨by decide +kernel, by decide +kernel, by decide +kernel⟩ rfl ?_
  exact cof_0 hl0 ⟨rfl, rfl, _, rfl, rfl, rfl⟩
theorem sof_c (hl0 : l.1.stackTraces = false) {f : Int64} : AC l (pI pg 109) (fcI M (fun y M' => M' = M ∧ y = (f >>> (((Int8.ofInt 24).toInt32).toInt64 &&& 63)).toInt32)) 0 0 [.long f] SHF M := by
  refine fw_of hl0 ⟨by decide +kernel, by decide +kernel, by decide +kernel⟩ rfl ?_
  exact sof_0 hl0 ⟨rfl, rfl, _, rfl, rfl, rfl⟩
theorem sof_v {f : Int64} {S c : Int} (h : f.toInt = 16777216 * S + c) (h1 : 0 ≤ S) (h2 : S ≤ 100) (c1 : 0 ≤ c) (c2 : c < 16777216) : (f >>> (((Int8.ofInt 24).toInt32).toInt64 &&& 63)).toInt32 = Int32.ofInt S := by
  have e : (f >>> (((Int8.ofInt 24).toInt32).toInt64 &&& 63)).toInt = S := by
    show (f >>> (((Int8.ofInt 24).toInt32).toInt64 &&& 63)).toBitVec.toInt = S
    rw [Int64.toBitVec_shiftRight, show (((Int8.ofInt 24).toInt32).toInt64 &&& 63).toBitVec.smod 64 = 24#64 by decide, BitVec.sshiftRight_eq', BitVec.toInt_sshiftRight, show (24#64).toNat = 24 from rfl, Int.shiftRight_eq_div_pow]
    show f.toInt / ((2 ^ 24 : Nat) : Int) = S
    rw [h, show ((2 ^ 24 : Nat) : Int) = 16777216 by decide]
    omega
  refine Int32.toInt_inj.mp ?_
  rw [Int64.toInt_toInt32, e, bm32 (by omega) (by omega), Int32.toInt_ofInt_of_le (by omega) (by omega)]
theorem cof_v {f : Int64} {S c : Int} (h : f.toInt = 16777216 * S + c) (h1 : 0 ≤ S) (h2 : S ≤ 100) (c1 : 0 ≤ c) (c2 : c < 16777216) : (f &&& 16777215).toInt32 = Int32.ofInt c := by
  have e1 : f.toInt32 = nI f.toInt.toNat := Int32.toInt_inj.mp (by
    rw [Int64.toInt_toInt32, nI_toInt (by omega), bm32 (by omega) (by omega)]
    omega)
  rw [Int64.toInt32_and, e1, show (16777215 : Int64).toInt32 = nI 16777215 by decide, nI_andN (by omega) (by decide)]
  have e2 : f.toInt.toNat &&& 16777215 = f.toInt.toNat % 16777216 := Nat.and_two_pow_sub_one_eq_mod _ 24
  rw [e2]
  refine Int32.toInt_inj.mp ?_
  rw [nI_toInt (by omega), Int32.toInt_ofInt_of_le (by omega) (by omega)]
  omega
theorem dyca_c (hl0 : l.1.stackTraces = false) (hJ : JR RR M) (hI : HI H) (hH : cHo 4 H M) (hS : SL H M) : AC l (pI pg 99) (PDy H x M) 2 12 [.ref 0, .int x] SHF M := by
  have w8 := hI.2.1
  have p6 := hI.1
  have P6 := pw_le hI.pe
  refine fw_of hl0 ⟨by decide +kernel, by decide +kernel, by decide +kernel⟩ rfl ?_
  refine dyca_0 (kc := 1) (ks := 6) hJ.2 hl0 (¬ inN (2 ^ H.pe) x) (ckla_c hl0 hJ hI hH) (fun b => ⟨rfl, Or.inl ⟨b, rfl, rfl⟩⟩) (fun y M' => (∀ a k, (a = 36 → k ≠ 3) → M'.1 a k = M.1 a k) ∧ ∃ f, Best (Rch (mkC H H.cd (rkG H) x.toNatClampNeg) fx0 H.pe) H.wo f ∧ y.toInt = f (2 ^ H.wo - 1)) (fun b => ?_) (fun y4 M4 y M' => M' = M4 ∧ y = (y4 &&& 16777215).toInt32) (fun b y4 M4 e4 q4 h6 => cof_c hl0) (fun y4 M4 y7 M7 y M' => M' = (aset M7 0 9 (.int y7)) ∧ y = (y4 >>> (((Int8.ofInt 24).toInt32).toInt64 &&& 63)).toInt32) (fun b y4 M4 e4 q4 h6 y7 M7 e7 q7 => sof_c hl0) (fun b y4 M4 e4 q4 h6 y7 M7 e7 q7 y9 M9 e9 q9 => ?_) (fun b y4 M4 e4 q4 h6 => ?_)
  · have hy := Decidable.not_not.mp b
    have ly := inN_lt hy
    have c := roda_c (l := l) (M := M) (H := H) (lf := x.toNatClampNeg) hl0 hJ.2 hI hH (fun t ht => (hS.1 t ht).1) (by omega)
    rw [← inN_eq hy] at c
    exact c
  · obtain ⟨rfl, rfl⟩ := q7
    obtain ⟨rfl, rfl⟩ := q9
    obtain ⟨q4, f, q5, q6⟩ := q4
    rw [j_m1, q6] at h6
    rcases rk_dy w8 q5 with ⟨u, -⟩ | ⟨S, c, r, u1, u2, u3, u4, u5, u6, u7, u8, u9⟩
    · exact absurd u h6
    · have s9 := sk9 hI u6
      rw [u7] at s9
      rw [u1] at q6
      refine ⟨rfl, Or.inr ⟨Decidable.not_not.mp b, _, rfl, Or.inr ⟨r, brw_of w8 p6 u5 u6 u7 (fun r' h1 h2 => by rw [u8]; exact u9 r' h1 h2), ?_, ?_⟩⟩⟩
      · rw [sof_v q6 u2 (by omega) u3 u4, u7]
      · rw [set_1, if_pos rfl, if_pos rfl, cof_v q6 u2 (by omega) u3 u4, u8]
  · obtain ⟨q4, f, q5, q6⟩ := q4
    rw [j_m1, q6] at h6
    rcases rk_dy w8 q5 with ⟨-, u⟩ | ⟨S, c, r, u1, u2, u3, u4, -⟩
    · exact ⟨rfl, Or.inr ⟨Decidable.not_not.mp b, _, rfl, Or.inl ⟨rfl, u, q4 0 9 (fun h => absurd h (by decide))⟩⟩⟩
    · omega
theorem dycb_c (hl0 : l.1.stackTraces = false) (hJ : JR RRS M) (hI : HI H) (hH : cHo 17 H M) (hS : SL H M) : AC l (pI pg 99) (PDy H x M) 2 12 [.ref 0, .int x] SHF M := by
  have w8 := hI.2.1
  have p6 := hI.1
  have P6 := pw_le hI.pe
  refine fw_of hl0 ⟨by decide +kernel, by decide +kernel, by decide +kernel⟩ rfl ?_
  refine dycb_0 (kc := 1) (ks := 6) hJ.2 hl0 (¬ inN (2 ^ H.pe) x) (cklb_c hl0 hJ hI hH) (fun b => ⟨rfl, Or.inl ⟨b, rfl, rfl⟩⟩) (fun y M' => (∀ a k, (a = 36 → k ≠ 3) → M'.1 a k = M.1 a k) ∧ ∃ f, Best (Rch (mkC H H.cd (rkG H) x.toNatClampNeg) fx0 H.pe) H.wo f ∧ y.toInt = f (2 ^ H.wo - 1)) (fun b => ?_) (fun y4 M4 y M' => M' = M4 ∧ y = (y4 &&& 16777215).toInt32) (fun b y4 M4 e4 q4 h6 => cof_c hl0) (fun y4 M4 y7 M7 y M' => M' = (aset M7 0 9 (.int y7)) ∧ y = (y4 >>> (((Int8.ofInt 24).toInt32).toInt64 &&& 63)).toInt32) (fun b y4 M4 e4 q4 h6 y7 M7 e7 q7 => sof_c hl0) (fun b y4 M4 e4 q4 h6 y7 M7 e7 q7 y9 M9 e9 q9 => ?_) (fun b y4 M4 e4 q4 h6 => ?_)
  · have hy := Decidable.not_not.mp b
    have ly := inN_lt hy
    have c := rodb_c (l := l) (M := M) (H := H) (lf := x.toNatClampNeg) hl0 hJ.2 hI hH (fun t ht => (hS.1 t ht).1) (by omega)
    rw [← inN_eq hy] at c
    exact c
  · obtain ⟨rfl, rfl⟩ := q7
    obtain ⟨rfl, rfl⟩ := q9
    obtain ⟨q4, f, q5, q6⟩ := q4
    rw [j_m1, q6] at h6
    rcases rk_dy w8 q5 with ⟨u, -⟩ | ⟨S, c, r, u1, u2, u3, u4, u5, u6, u7, u8, u9⟩
    · exact absurd u h6
    · have s9 := sk9 hI u6
      rw [u7] at s9
      rw [u1] at q6
      refine ⟨rfl, Or.inr ⟨Decidable.not_not.mp b, _, rfl, Or.inr ⟨r, brw_of w8 p6 u5 u6 u7 (fun r' h1 h2 => by rw [u8]; exact u9 r' h1 h2), ?_, ?_⟩⟩⟩
      · rw [sof_v q6 u2 (by omega) u3 u4, u7]
      · rw [set_1, if_pos rfl, if_pos rfl, cof_v q6 u2 (by omega) u3 u4, u8]
  · obtain ⟨q4, f, q5, q6⟩ := q4
    rw [j_m1, q6] at h6
    rcases rk_dy w8 q5 with ⟨-, u⟩ | ⟨S, c, r, u1, u2, u3, u4, -⟩
    · exact ⟨rfl, Or.inr ⟨Decidable.not_not.mp b, _, rfl, Or.inl ⟨rfl, u, q4 0 9 (fun h => absurd h (by decide))⟩⟩⟩
    · omega
/-! of the reference -/
theorem cop80_c (hl0 : l.1.stackTraces = false) (hJ : ∀ e ∈ RM, M.2.2 e.1 e.2.1 = e.2.2) : AC l (pI pg 192) (fcV M (fun M' => (∀ k, k < 8 → M'.1 79 k = M.1 80 k) ∧ ∀ c k, c ≠ 79 → M'.1 c k = M.1 c k)) 0 0 [.ref 58, .ref 80, .ref 79] SHF M := by
  refine fw_of hl0 ⟨by decide +kernel, by decide +kernel, by decide +kernel⟩ rfl ?_
  refine cop80_0 hJ hl0 ?_
  have loop : ∀ (d i : Nat) (M1 : aM), i + d = 8 → M1.2.2 = M.2.2 → (∀ k, k < i → M1.1 79 k = M.1 80 k) → (∀ c k, c ≠ 79 → M1.1 c k = M.1 c k) → AW l (pI pg 192) (fcV M (fun M' => (∀ k, k < 8 → M'.1 79 k = M.1 80 k) ∧ ∀ c k, c ≠ 79 → M'.1 c k = M.1 c k)) 0 0 2 [(3, .int (nI i)), (1, .ref 80), (2, .ref 79)] [] SHF M1 := by
    intro d
    induction d with
    | zero =>
      intro i M1 hi e2 h1 h2
      have hi2 : i = 8 := by omega
      subst hi2
      have le : (Int32.ofNat 8 : Int32) ≤ nI 8 := by decide
      exact cop80_2 (by rw [e2]; exact hJ) hl0 (fun _ => ⟨rfl, e2, rfl, h1, h2⟩) (fun h => absurd le h) (fun h => absurd le h)
    | succ d ih =>
      intro i M1 hi e2 h1 h2
      refine cop80_2 (by rw [e2]; exact hJ) hl0 (fun h => ?_) (fun _ => vp_in_nI (by omega) (by decide)) (fun _ => ?_)
      · exact ge_no (a := i) (b := 8) (by omega) (by decide) h
      · have e1 : nI i + Int32.ofInt 1 = nI (i + 1) := nI_1 _
        rw [e1, nI_clamp (by omega), h2 80 i (by decide)]
        refine ih (i + 1) _ (by omega) e2 (fun k hk => ?_) (fun c k hc => ?_)
        · rw [set_1, if_pos rfl]
          by_cases e : k = i
          · rw [if_pos e, e]
          · rw [if_neg e]
            exact h1 k (by omega)
        · rw [set_1, if_neg hc]
          exact h2 c k hc
  exact loop 8 0 M (by omega) rfl (fun k hk => absurd hk (Nat.not_lt_zero _)) (fun _ _ _ => rfl)
def QMdy (H : HS) (x : Int32) (M : aM) (z : Int32) (M' : aM) : Prop := (¬ inN (2 ^ H.pe) x ∧ M'.1 58 0 = 1 ∧ M'.1 58 45 = M.1 58 45 ∧ ∀ k, M'.1 79 k = M.1 79 k) ∨ (inN (2 ^ H.pe) x ∧ M'.1 58 0 = 0 ∧ ((z = Int32.ofInt (-1) ∧ dyP H x.toNatClampNeg (-1) ∧ M'.1 58 45 = M.1 58 45 ∧ ∀ k, M'.1 79 k = M.1 79 k) ∨ ∃ la, brw H H.cd H.pe x.toNatClampNeg (skG H) la ∧ z = Int32.ofInt (sumR (skG H) la (2 ^ H.wo - 1) H.wo) ∧ M'.1 58 45 = Int32.ofInt 1 ∧ ∀ w, w < H.wo → M'.1 79 w = nI (la w)))
/-- lays0 of the reference, behind listsAll(0) -/
def QLy (H : HS) (lf : Nat) (M : aM) (y : Int32) (M' : aM) : Prop := (∀ a k, a ≠ 76 → a ≠ 77 → a ≠ 78 → a ≠ 80 → (a = 58 → k ≠ 46) → M'.1 a k = M.1 a k) ∧ ((y = 0 ∧ ∀ r, ¬ rowO H H.cd lf H.pe (2 ^ H.wo - 1) r) ∨ (y = 1 ∧ ∃ la, brw H H.cd H.pe lf (skG H) la ∧ M'.1 58 46 = Int32.ofInt (sumR (skG H) la (2 ^ H.wo - 1) H.wo) ∧ ∀ w, w < H.wo → M'.1 80 w = nI (la w)))
theorem lay_c {R : sR} (hl0 : l.1.stackTraces = false) (hO : okR R) (hJ : JR R M) (hI : HI H) (h1 : M.1 58 1 = nI H.pe) (h2 : M.1 58 2 = nI H.wo) (hL : lsAll H 0 H.pe M) {lf : Nat} (hlf : lf < 64) : AC l (pI pg 208) (fcI M (QLy H lf M)) 0 0 [.ref 58, .int (nI lf)] SHF M := by
  have w8 := hI.2.1
  have p6 := hI.1
  obtain ⟨g1, g2⟩ := mdl_of (left := lf) hO hJ hlf
  have eN : (M.1 58 1).toInt.toNat = H.pe := by
    rw [h1, nI_toInt (by omega)]
    rfl
  have eW : dW (mkD M lf) = H.wo := by
    show (M.1 58 2).toInt.toNat = H.wo
    rw [h2, nI_toInt (by omega)]
    rfl
  rw [eN] at g1 g2
  have hg : ∀ p w, p < H.pe → w < H.wo → dG (mkD M lf) p w = skG H p w := fun p w hp hw => by
    have := (hL p hp).2 w hw
    have sk := (hI.2.2.2.2.2.2.2.1 p w (by omega) (by omega)).1
    show (M.1 75 (8 * p + w)).toInt = (H.sk (8 * p + w) : Int)
    rw [this, nI_toInt (by omega)]
  have L := lsAll_hL (lf := lf) w8 hL
  rw [cd_fun] at L
  refine AC.post hl0 (fun r sh' M' hp => ?_) (c207f hl0 g1 g2 eW L)
  obtain ⟨r1, r2, y, r3, r4, r5⟩ := hp
  refine ⟨r1, r2, y, r3, r4, ?_⟩
  rcases r5 with r5 | ⟨y1, la, b1, b2, b3⟩
  · exact Or.inl r5
  · have b := brw_g hg b1
    have s9 := sk9 hI b.1
    refine Or.inr ⟨y1, la, b, Int32.toInt_inj.mp ?_, b3⟩
    rw [b2, row_g hg b1.1, Int32.toInt_ofInt_of_le (by omega) (by omega)]
theorem mdy_c {R : sR} (hl0 : l.1.stackTraces = false) (hO : okR R) (hk : cOk l pg R SHF en_98) (w0 : wcF R.1 58 0 (0, 2) = true) (hJ : JR R M) (hI : HI H) (hm : mHo H M) : AC l (pI pg 202) (fcI M (QMdy H x M)) 0 0 [.ref 58, .int x] SHF M := by
  have w8 := hI.2.1
  have p6 := hI.1
  have hR : ∀ e ∈ RM, M.2.2 e.1 e.2.1 = e.2.2 := fun e he => rgR_ok hJ.2 (hO.1 e he)
  refine fw_of hl0 ⟨by decide +kernel, by decide +kernel, by decide +kernel⟩ rfl ?_
  have z1 : ¬ (1 : Int32) = 0 := by decide
  have m0 : mHo H (M0w M) := mH_fr0 hm
  have j0 : JR R (M0w M) := JR_set (q := (0, 2)) hJ w0 ⟨by decide, by decide⟩
  refine mdy_0 hR hl0 _ (isl_c hl0 hR hI hm.1) (fun y1 M1 M' => JR R M' ∧ QlA H 0 M1 M') (fun y1 M1 e1 q1 h3 => ?_) (fun y1 M1 M4 => QLy H x.toNatClampNeg M4) (fun y1 M1 e1 q1 h3 M4 e4 q4 => ?_) (fun y1 M1 M4 y6 M6 M' => (∀ k, k < 8 → M'.1 79 k = M6.1 80 k) ∧ ∀ c k, c ≠ 79 → M'.1 c k = M6.1 c k) (fun y1 M1 e1 q1 h3 M4 e4 q4 y6 M6 e6 q6 h8 => cop80_c hl0 (by rw [e6, e4, e1]; exact hR)) (fun y1 M1 e1 q1 h3 M4 e4 q4 y6 M6 e6 q6 h8 M9 e9 q9 => ?_) (fun y1 M1 e1 q1 h3 M4 e4 q4 y6 M6 e6 q6 h8 => ?_) (fun y1 M1 e1 q1 h3 => ?_)
  · obtain ⟨-, -, rfl⟩ := q1.resolve_right (fun q => h3 q.2.1)
    exact lal_j hl0 hk hR j0 hI m0
  · obtain ⟨n1, -, rfl⟩ := q1.resolve_right (fun q => h3 q.2.1)
    obtain ⟨x1, x2, x3⟩ := isL_ix hI n1
    have c := lay_c (l := l) (lf := x.toNatClampNeg) hl0 hO q4.1 hI ((q4.2.2 58 1 (by decide) (by decide) (by decide)).trans m0.1) ((q4.2.2 58 2 (by decide) (by decide) (by decide)).trans m0.2.1) q4.2.1 x3
    rw [← x1] at c
    exact c
  · obtain ⟨n1, -, rfl⟩ := q1.resolve_right (fun q => h3 q.2.1)
    obtain ⟨q6, q7⟩ := q6
    obtain ⟨-, la, b1, b2, b3⟩ := q7.resolve_left (fun q => h8 q.1)
    have f0 : M9.1 58 0 = 0 := (q9.2 58 0 (by decide)).trans ((q6 58 0 (by decide) (by decide) (by decide) (by decide) (by decide)).trans ((q4.2.2 58 0 (by decide) (by decide) (by decide)).trans rfl))
    refine ⟨rfl, e9.trans (e6.trans (e4.trans e1)), _, rfl, Or.inr ⟨n1, f0, Or.inr ⟨la, b1, ?_, rfl, fun w hw => ?_⟩⟩⟩
    · show M9.1 58 46 = _
      rw [q9.2 58 46 (by decide)]
      exact b2
    · show M9.1 79 w = _
      rw [q9.1 w (by omega)]
      exact b3 w hw
  · obtain ⟨n1, -, rfl⟩ := q1.resolve_right (fun q => h3 q.2.1)
    obtain ⟨q6, q7⟩ := q6
    have no := (q7.resolve_right (fun q => absurd (q.1.symm.trans h8) z1)).2
    have fr : ∀ a k, a ≠ 73 → a ≠ 74 → a ≠ 75 → a ≠ 76 → a ≠ 77 → a ≠ 78 → a ≠ 80 → (a = 58 → k ≠ 46) → M6.1 a k = (M0w M).1 a k := fun a k a1 a2 a3 a4 a5 a6 a7 a8 => (q6 a k a4 a5 a6 a7 a8).trans (q4.2.2 a k a1 a2 a3)
    refine ⟨rfl, e6.trans (e4.trans e1), _, rfl, Or.inr ⟨n1, (fr 58 0 (by decide) (by decide) (by decide) (by decide) (by decide) (by decide) (by decide) (by decide)).trans rfl, Or.inl ⟨rfl, Or.inr ⟨rfl, no⟩, (fr 58 45 (by decide) (by decide) (by decide) (by decide) (by decide) (by decide) (by decide) (by decide)).trans rfl, fun k => (fr 79 k (by decide) (by decide) (by decide) (by decide) (by decide) (by decide) (by decide) (fun h => absurd h (by decide))).trans rfl⟩⟩⟩
  · obtain ⟨n1, -, rfl⟩ := q1.resolve_left (fun q => absurd (q.2.1.symm.trans h3) z1)
    exact ⟨rfl, e1, _, rfl, Or.inl ⟨n1, rfl, rfl, fun k => rfl⟩⟩
theorem mdy_q (hI : HI H) {z : Int32} {M' : aM} (h : QMdy H x M z M') : mO (piO H (dyI H x) x) z M' := by
  rcases h with ⟨h1, h2, -⟩ | ⟨h1, h2, ⟨h3, h4, -⟩ | ⟨la, h3, h4, -⟩⟩
  · exact Or.inl ⟨pi_no h1, h2⟩
  · exact Or.inr ⟨z, pi_is h1 ⟨-1, by decide, by decide, h3, h4⟩ dyI_u, rfl, h2⟩
  · have := sk9 hI h3.1
    exact Or.inr ⟨z, pi_is h1 ⟨_, by omega, by omega, h4, brw_dy h3⟩ dyI_u, rfl, h2⟩
end DYQ
