/-! JUDGE: the told row -/
def clB (H : HS) (a b : Nat) : Bool := decide (H.be a < H.be b + H.le b ∧ H.be b < H.be a + H.le a)
def clS (H : HS) (t : Nat → Int32) (w : Nat) : Nat → Bool
  | 0 => false
  | k + 1 => clS H t w k || (decide (t k = t w) && clB H w k)
def suS (H : HS) (t : Nat → Int32) (w : Nat) : Nat → Nat
  | 0 => H.le w
  | k + 1 => if t k = t w then suS H t w k + H.le k else suS H t w k
def flS (H : HS) (t : Nat → Int32) (lf w : Nat) : Nat := if t w = Int32.ofInt (-1) then 1 else if lf.testBit (t w).toNatClampNeg = false then 2 else if H.sk (8 * (t w).toNatClampNeg + w) = 0 then 3 else if clS H t w w = true then 4 else if H.ho (t w).toNatClampNeg < suS H t w w then 5 else 0
def juS (H : HS) (t : Nat → Int32) (lf : Nat) : Nat → Nat → Int32
  | 0, _ => Int32.ofInt (-1)
  | d + 1, w => if flS H t lf w = 0 then juS H t lf d (w + 1) else nI (10 * w + flS H t lf w)
def juO (H : HS) (t : Nat → Int32) (x : Int32) : Option Int32 := if inN (2 ^ H.pe) x then some (juS H t x.toNatClampNeg H.wo 0) else none
theorem flS_lt {H : HS} {t : Nat → Int32} {lf w : Nat} : flS H t lf w ≤ 5 := by
  unfold flS
  split
  · decide
  · split
    · decide
    · split
      · decide
      · split
        · decide
        · split
          · decide
          · decide
/-- hours of a work as bits -/
def hrS (H : HS) (k : Nat) : Nat := 2 ^ H.be k * (2 ^ H.le k - 1)
theorem hr_bit {H : HS} {k j : Nat} : (hrS H k).testBit j = true ↔ H.be k ≤ j ∧ j < H.be k + H.le k := by
  unfold hrS
  rw [Nat.testBit_two_pow_mul, Nat.testBit_two_pow_sub_one, Bool.and_eq_true, decide_eq_true_eq, decide_eq_true_eq]
  omega
theorem hr_lt {H : HS} (hI : HI H) {k : Nat} (hk : k < H.wo) : hrS H k < 2 ^ 24 := by
  have h := hI.be k hk
  have h1 : 2 ^ H.be k * 2 ^ H.le k ≤ 2 ^ 24 := by
    rw [← Nat.pow_add]
    exact Nat.pow_le_pow_right (by decide) h.2.2.2
  have h2 := Nat.two_pow_pos (H.le k)
  have h3 := Nat.two_pow_pos (H.be k)
  have h4 : 2 ^ H.be k * (2 ^ H.le k - 1) < 2 ^ H.be k * 2 ^ H.le k := Nat.mul_lt_mul_of_pos_left (by omega) h3
  exact Nat.lt_of_lt_of_le h4 h1
def bzS (H : HS) (t : Nat → Int32) (w : Nat) : Nat → Nat
  | 0 => 0
  | k + 1 => if t k = t w then bzS H t w k ||| hrS H k else bzS H t w k
theorem bz_lt {H : HS} (hI : HI H) {t : Nat → Int32} {w : Nat} : ∀ k, k ≤ H.wo → bzS H t w k < 2 ^ 24
  | 0, _ => by
    show 0 < 2 ^ 24
    decide
  | k + 1, h => by
    have h1 := bz_lt hI (t := t) (w := w) k (by omega)
    have h2 := hr_lt hI (k := k) (by omega)
    unfold bzS
    split
    · exact Nat.or_lt_two_pow h1 h2
    · exact h1
theorem bz_bit {H : HS} {t : Nat → Int32} {w j : Nat} : ∀ k, (bzS H t w k).testBit j = true ↔ ∃ i, i < k ∧ t i = t w ∧ H.be i ≤ j ∧ j < H.be i + H.le i
  | 0 => by
    show (0 : Nat).testBit j = true ↔ _
    rw [Nat.zero_testBit]
    exact ⟨fun h => (by cases h), fun ⟨i, h, _⟩ => absurd h (Nat.not_lt_zero _)⟩
  | k + 1 => by
    have ih := bz_bit (H := H) (t := t) (w := w) (j := j) k
    unfold bzS
    split
    · rename_i e
      rw [Nat.testBit_or, Bool.or_eq_true, ih, hr_bit]
      constructor
      · rintro (⟨i, h1, h2⟩ | h)
        · exact ⟨i, by omega, h2⟩
        · exact ⟨k, by omega, e, h⟩
      · rintro ⟨i, h1, h2, h3⟩
        by_cases c : i = k
        · subst c
          exact Or.inr h3
        · exact Or.inl ⟨i, by omega, h2, h3⟩
    · rename_i e
      rw [ih]
      constructor
      · rintro ⟨i, h1, h2⟩
        exact ⟨i, by omega, h2⟩
      · rintro ⟨i, h1, h2, h3⟩
        by_cases c : i = k
        · subst c
          exact absurd h2 e
        · exact ⟨i, by omega, h2, h3⟩
theorem cl_ex {H : HS} {t : Nat → Int32} {w : Nat} : ∀ k, clS H t w k = true ↔ ∃ i, i < k ∧ t i = t w ∧ clB H w i = true
  | 0 => ⟨fun h => (by cases h), fun ⟨i, h, _⟩ => absurd h (Nat.not_lt_zero _)⟩
  | k + 1 => by
    have ih := cl_ex (H := H) (t := t) (w := w) k
    unfold clS
    rw [Bool.or_eq_true, ih, Bool.and_eq_true, decide_eq_true_eq]
    constructor
    · rintro (⟨i, h1, h2⟩ | h)
      · exact ⟨i, by omega, h2⟩
      · exact ⟨k, by omega, h⟩
    · rintro ⟨i, h1, h2⟩
      by_cases c : i = k
      · subst c
        exact Or.inr h2
      · exact Or.inl ⟨i, by omega, h2⟩
theorem bz_and {H : HS} (hI : HI H) {t : Nat → Int32} {w k : Nat} (hw : w < H.wo) (hk : k ≤ H.wo) : bzS H t w k &&& hrS H w = 0 ↔ ¬ clS H t w k = true := by
  have bw := hI.be w hw
  constructor
  · intro h c
    obtain ⟨i, h1, h2, h3⟩ := (cl_ex k).mp c
    have bi := hI.be i (by omega)
    rw [clB, decide_eq_true_eq] at h3
    have z : (bzS H t w k &&& hrS H w).testBit (max (H.be w) (H.be i)) = true := by
      rw [Nat.testBit_and, Bool.and_eq_true, bz_bit, hr_bit]
      exact ⟨⟨i, h1, h2, by omega, by omega⟩, by omega, by omega⟩
    rw [h, Nat.zero_testBit] at z
    cases z
  · intro h
    apply Nat.eq_of_testBit_eq
    intro j
    rw [Nat.zero_testBit]
    cases z : (bzS H t w k &&& hrS H w).testBit j with
    | false => rfl
    | true =>
      rw [Nat.testBit_and, Bool.and_eq_true, bz_bit, hr_bit] at z
      obtain ⟨⟨i, h1, h2, h3, h4⟩, h5, h6⟩ := z
      refine absurd ((cl_ex k).mpr ⟨i, h1, h2, ?_⟩) h
      rw [clB, decide_eq_true_eq]
      omega
theorem su_lt {H : HS} (hI : HI H) {t : Nat → Int32} {w : Nat} (hw : w < H.wo) : ∀ k, k ≤ H.wo → suS H t w k ≤ 8 + 8 * k
  | 0, _ => by
    have := hI.be w hw
    show H.le w ≤ _
    omega
  | k + 1, h => by
    have h1 := su_lt hI (t := t) hw k (by omega)
    have h2 := hI.be k (by omega)
    unfold suS
    split
    · omega
    · omega
theorem nI_andN {a b : Nat} (ha : a < 2 ^ 31) (hb : b < 2 ^ 31) : nI a &&& nI b = nI (a &&& b) := by
  apply Int32.toBitVec_inj.mp
  apply BitVec.eq_of_toNat_eq
  show (BitVec.ofNat 32 a &&& BitVec.ofNat 32 b).toNat = (BitVec.ofNat 32 (a &&& b)).toNat
  have hc : a &&& b < 2 ^ 32 := Nat.lt_of_le_of_lt Nat.and_le_left (by omega)
  rw [BitVec.toNat_and, BitVec.toNat_ofNat, BitVec.toNat_ofNat, BitVec.toNat_ofNat, Nat.mod_eq_of_lt hc, Nat.mod_eq_of_lt (show a < 2 ^ 32 by omega), Nat.mod_eq_of_lt (show b < 2 ^ 32 by omega)]
theorem hr_int {H : HS} (hI : HI H) {k : Nat} (hk : k < H.wo) : ((Int32.ofInt 1 <<< (nI (H.le k) &&& 31)) - Int32.ofInt 1) <<< (nI (H.be k) &&& 31) = nI (hrS H k) := by
  have h := hI.be k hk
  have h2 := hr_lt hI hk
  unfold hrS at h2 ⊢
  rw [fullW h.2.2.1, pk_shlN (nI (H.be k) &&& 31) (H.be k) (s_lq (H.be k) (by omega)) (by rw [Nat.mul_comm]; omega), Nat.mul_comm]
/-- who is left: a set of people that there are -/
theorem hi_bits {n : Nat} (h32 : n < 2 ^ 32) {k c : Nat} (hc : ∀ j, j < 32 → (c.testBit j = true ↔ k ≤ j)) : n &&& c = 0 ↔ n < 2 ^ k := by
  constructor
  · intro h
    refine Decidable.byContradiction fun g => ?_
    obtain ⟨j, h1, h2⟩ := Nat.exists_ge_and_testBit_of_ge_two_pow (Nat.le_of_not_lt g)
    have j32 : j < 32 := by
      refine Decidable.byContradiction fun g2 => ?_
      have : n.testBit j = false := Nat.testBit_lt_two_pow (Nat.lt_of_lt_of_le h32 (Nat.pow_le_pow_right (by decide) (by omega)))
      rw [h2] at this
      cases this
    have z : (n &&& c).testBit j = true := by
      rw [Nat.testBit_and, h2, (hc j j32).mpr h1]
      rfl
    rw [h, Nat.zero_testBit] at z
    cases z
  · intro h
    apply Nat.eq_of_testBit_eq
    intro j
    rw [Nat.zero_testBit, Nat.testBit_and]
    by_cases g : k ≤ j
    · rw [Nat.testBit_lt_two_pow (Nat.lt_of_lt_of_le h (Nat.pow_le_pow_right (by decide) g))]
      rfl
    · cases e : n.testBit j with
      | false => rfl
      | true =>
        have j32 : j < 32 := by
          refine Decidable.byContradiction fun g2 => ?_
          have : n.testBit j = false := Nat.testBit_lt_two_pow (Nat.lt_of_lt_of_le h32 (Nat.pow_le_pow_right (by decide) (by omega)))
          rw [e] at this
          cases this
        cases e2 : c.testBit j with
        | false => rfl
        | true => exact absurd ((hc j j32).mp e2) g
theorem hi_c : ∀ k, k ≤ 6 → ∀ j, j < 32 → (((nI (2 ^ k - 1) ^^^ Int32.ofInt (-1)).toBitVec.toNat).testBit j = true ↔ k ≤ j) := by decide +kernel
theorem left_iff {pe : Nat} (h : pe ≤ 6) {x : Int32} : x &&& (nI (2 ^ pe - 1) ^^^ Int32.ofInt (-1)) = 0 ↔ inN (2 ^ pe) x := by
  have p : 2 ^ pe ≤ 2 ^ 6 := Nat.pow_le_pow_right (by decide) h
  have h1 : x.toInt = (x.toBitVec.toNat : Int).bmod (2 ^ 32) := BitVec.toInt_eq_toNat_bmod x.toBitVec
  have h2 := x.toBitVec.isLt
  have e : x &&& (nI (2 ^ pe - 1) ^^^ Int32.ofInt (-1)) = 0 ↔ x.toBitVec.toNat &&& (nI (2 ^ pe - 1) ^^^ Int32.ofInt (-1)).toBitVec.toNat = 0 := by
    constructor
    · intro g
      have g2 := congrArg (fun z => z.toBitVec.toNat) g
      rw [show (x &&& (nI (2 ^ pe - 1) ^^^ Int32.ofInt (-1))).toBitVec.toNat = x.toBitVec.toNat &&& (nI (2 ^ pe - 1) ^^^ Int32.ofInt (-1)).toBitVec.toNat from by rw [Int32.toBitVec_and, BitVec.toNat_and]] at g2
      exact g2
    · intro g
      apply Int32.toBitVec_inj.mp
      apply BitVec.eq_of_toNat_eq
      rw [Int32.toBitVec_and, BitVec.toNat_and, g]
      rfl
  rw [e, hi_bits h2 (hi_c pe h)]
  unfold inN
  rw [h1]
  generalize x.toBitVec.toNat = n at *
  generalize 2 ^ pe = q at *
  simp only [Int.bmod]
  omega
/-- a told row: nobody, or one of the house -/
def TO (c : Nat) (H : HS) (M : aM) : Prop := ∀ w, w < 8 → M.1 c w = Int32.ofInt (-1) ∨ inN H.pe (M.1 c w)
theorem TO_p {c : Nat} {H : HS} {M : aM} (h : TO c H M) {w : Nat} (hw : w < 8) (h1 : ¬ M.1 c w = Int32.ofInt (-1)) : inN H.pe (M.1 c w) := (h w hw).resolve_left h1
theorem m1_no {m : Nat} : ¬ inN m (Int32.ofInt (-1)) := fun h => by
  have h1 := h.1
  rw [show (Int32.ofInt (-1)).toInt = -1 by decide] at h1
  omega
theorem pw_le {a : Nat} (h : a ≤ 6) : 2 ^ a ≤ 64 := Nat.le_trans (Nat.pow_le_pow_right (by decide) h) (by decide)
section JDA
variable {l : aL} {M : aM} {H : HS} {x y : Int32}
theorem alpa_c (hl0 : l.1.stackTraces = false) (hI : HI H) (hH : cHo 4 H M) : AC l (pI pg 32) (pvI M (nI (2 ^ H.pe - 1))) 0 0 [.ref 4] SHF M := by
  have hp6 := hI.pe
  refine fw_of hl0 ⟨by decide +kernel, by decide +kernel, by decide +kernel⟩ rfl ?_
  refine alpa_0 ?_
  rw [hH.pe, fullW (by omega)]
  exact pvI_of
theorem hofa_c (hl0 : l.1.stackTraces = false) (hJ : JR RR M) (hI : HI H) (hH : cHo 4 H M) {w : Nat} (hw : w < H.wo) : AC l (pI pg 15) (pvI M (nI (hrS H w))) 0 0 [.ref 4, .int (nI w)] SHF M := by
  have hw8 := hI.wo
  refine fw_of hl0 ⟨by decide +kernel, by decide +kernel, by decide +kernel⟩ rfl ?_
  refine hofa_0 (fun e he => hJ.2 e (rk_RR e he)) (vp_in_nI (by omega) (by decide)) ?_
  have e1 : M.1 10 (nI w).toNatClampNeg = nI (H.le w) := by rw [nI_clamp (by omega)]; exact hH.le w hw
  have e2 : M.1 9 (nI w).toNatClampNeg = nI (H.be w) := by rw [nI_clamp (by omega)]; exact hH.be w hw
  rw [e1, e2, hr_int hI hw]
  exact pvI_of
theorem ckla_c (hl0 : l.1.stackTraces = false) (hJ : JR RR M) (hI : HI H) (hH : cHo 4 H M) : AC l (pI pg 100) (tcV "java/lang/IllegalArgumentException" M (¬ inN (2 ^ H.pe) x)) 1 6 [.ref 0, .int x] SHF M := by
  refine fw_of hl0 ⟨by decide +kernel, by decide +kernel, by decide +kernel⟩ rfl ?_
  refine ckla_0 (kc := 0) (ks := 0) hJ.2 hl0 _ (alpa_c hl0 hI hH) (fun y1 M1 e1 q1 h3 => ?_) (fun y1 M1 e1 q1 h3 => ?_)
  · obtain ⟨rfl, rfl⟩ := q1
    exact ⟨rfl, rfl, Or.inr ⟨rfl, fun h => h ((left_iff hI.pe).mp h3)⟩⟩
  · obtain ⟨rfl, rfl⟩ := q1
    exact ⟨rfl, rfl, Or.inl ⟨rfl, fun h => h3 ((left_iff hI.pe).mpr h)⟩⟩
theorem floa_c (hl0 : l.1.stackTraces = false) (hJ : JR RR M) (hI : HI H) (hH : cHo 4 H M) (hT : TO 48 H M) {w lf : Nat} (hw : w < H.wo) (hl : lf < 64) : AC l (pI pg 122) (pvI M (nI (flS H (M.1 48) lf w))) 0 0 [.ref 0, .int (nI w), .int (nI lf)] SHF M := by
  have hp6 := hI.pe
  have hw8 := hI.wo
  refine fw_of hl0 ⟨by decide +kernel, by decide +kernel, by decide +kernel⟩ rfl ?_
  have ew : (nI w).toNatClampNeg = w := nI_clamp (by omega)
  have hp : hpV (M.1 4 0) (M.1 48 w) = 0 ↔ M.1 48 w = Int32.ofInt (-1) := by
    rw [hH.pe, hpV_x (by omega)]
    exact ⟨fun h => Decidable.byContradiction fun g => h (TO_p hT (by omega) g), fun h => by rw [h]; exact m1_no⟩
  have bt : ¬ M.1 48 w = Int32.ofInt (-1) → (((nI lf >>> (M.1 48 w &&& 31)) &&& Int32.ofInt 1) = 0 ↔ lf.testBit (M.1 48 w).toNatClampNeg = false) := fun h => by
    have hx := TO_p hT (by omega) h
    have := inN_lt hx
    conv => lhs; rw [inN_eq hx]
    exact bitF (by omega) (by omega)
  have ix : ¬ M.1 48 w = Int32.ofInt (-1) → M.1 48 w * (Int8.ofInt 8).toInt32 + nI w = nI (8 * (M.1 48 w).toNatClampNeg + w) := fun h => by
    conv => lhs; rw [inN_eq (TO_p hT (by omega) h)]
    rw [show (Int8.ofInt 8).toInt32 = nI 8 by decide, nI_mulN, nI_add, Nat.mul_comm]
  have sk : ¬ M.1 48 w = Int32.ofInt (-1) → (M.1 12 (M.1 48 w * (Int8.ofInt 8).toInt32 + nI w).toNatClampNeg = 0 ↔ H.sk (8 * (M.1 48 w).toNatClampNeg + w) = 0) := fun h => by
    have hx := inN_lt (TO_p hT (by omega) h)
    have h9 := (hI.sk (M.1 48 w).toNatClampNeg w (by omega) (by omega)).1
    have e : M.1 12 (8 * (M.1 48 w).toNatClampNeg + w) = nI (H.sk (8 * (M.1 48 w).toNatClampNeg + w)) := hH.sk _ (by omega)
    rw [ix h, nI_clamp (by omega), e]
    exact ⟨fun g => nI_injN (b := 0) (by omega) (by decide) g, fun g => by rw [g]; rfl⟩
  have loop : ¬ M.1 48 w = Int32.ofInt (-1) → lf.testBit (M.1 48 w).toNatClampNeg = true → ¬ H.sk (8 * (M.1 48 w).toNatClampNeg + w) = 0 → ∀ (n i : Nat), i + n = w → AW l (pI pg 122) (pvI M (nI (flS H (M.1 48) lf w))) 0 0 66 [(6, .int (nI i)), (5, .int (nI (suS H (M.1 48) w i))), (4, .int (nI (bzS H (M.1 48) w i))), (3, .int (M.1 48 w)), (2, .int (nI lf)), (1, .int (nI w)), (0, .ref 0)] [] SHF M := by
    intro g1 g2 g3 n
    have hx := TO_p hT (by omega) g1
    have lx := inN_lt hx
    induction n with
    | zero =>
      intro i hi
      have ei : i = w := by omega
      subst ei
      have le : nI i ≤ nI i := by rw [nI_leI (by omega) (by omega)]; omega
      have b1 := bz_lt hI (t := M.1 48) (w := i) i (by omega)
      have b2 := hr_lt hI hw
      have s1 := su_lt hI (t := M.1 48) hw i (by omega)
      have h24 := hI.ho _ lx
      have an : nI (bzS H (M.1 48) i i) &&& nI (hrS H i) = 0 ↔ ¬ clS H (M.1 48) i i = true := by
        rw [nI_andN (by omega) (by omega), ← bz_and hI hw (by omega)]
        have : bzS H (M.1 48) i i &&& hrS H i ≤ bzS H (M.1 48) i i := Nat.and_le_left
        exact ⟨fun g => nI_injN (b := 0) (by omega) (by decide) g, fun g => by rw [g]; rfl⟩
      have eh : M.1 5 (M.1 48 i).toNatClampNeg = nI (H.ho (M.1 48 i).toNatClampNeg) := hH.ho _ lx
      have fl : flS H (M.1 48) lf i = if clS H (M.1 48) i i = true then 4 else if H.ho (M.1 48 i).toNatClampNeg < suS H (M.1 48) i i then 5 else 0 := by
        rw [flS, if_neg g1, if_neg (by rw [g2]; decide), if_neg g3]
      refine floa_66 hJ.2 hl0 _ (fun _ => hofa_c hl0 hJ hI hH hw) (fun _ y2 M2 e2 q2 h4 => inN_vp hx hp6 (by decide)) (fun _ y2 M2 e2 q2 h4 h6 => ?_) (fun _ y2 M2 e2 q2 h4 h6 => ?_) (fun _ y2 M2 e2 q2 h4 => ?_) (fun h => absurd le h) (fun h => absurd le h) (fun _ _ => True) (fun h => absurd le h) (fun h => absurd le h)
      · obtain ⟨rfl, rfl⟩ := q2
        rw [eh, nI_leI (by omega) (by omega)] at h6
        rw [fl, if_neg (an.mp h4), if_neg (by omega)]
        exact pvI_of
      · obtain ⟨rfl, rfl⟩ := q2
        rw [eh, nI_leI (by omega) (by omega)] at h6
        rw [fl, if_neg (an.mp h4), if_pos (by omega)]
        exact pvI_of
      · obtain ⟨rfl, rfl⟩ := q2
        rw [fl, if_pos (Decidable.not_not.mp (fun g => h4 (an.mpr g)))]
        exact pvI_of
    | succ n ih =>
      intro i hi
      have lt : ¬ nI w ≤ nI i := by rw [nI_leI (by omega) (by omega)]; omega
      have ei : (nI i).toNatClampNeg = i := nI_clamp (by omega)
      refine floa_66 hJ.2 hl0 (fun _ _ => True) (fun h => absurd h lt) (fun h => absurd h lt) (fun h => absurd h lt) (fun h => absurd h lt) (fun h => absurd h lt) (fun _ => vp_in_nI (by omega) (by decide)) (fun _ h11 => ?_) _ (fun _ h11 => hofa_c hl0 hJ hI hH (w := i) (by omega)) (fun _ h11 y13 M13 e13 q13 => ?_)
      · rw [ei] at h11
        have := ih (i + 1) (by omega)
        rw [show suS H (M.1 48) w (i + 1) = suS H (M.1 48) w i from if_neg h11, show bzS H (M.1 48) w (i + 1) = bzS H (M.1 48) w i from if_neg h11] at this
        rw [show nI i + Int32.ofInt 1 = nI (i + 1) from nI_1 _]
        exact this
      · obtain ⟨rfl, rfl⟩ := q13
        rw [ei] at h11
        have b1 := bz_lt hI (t := M.1 48) (w := w) i (by omega)
        have b2 := hr_lt hI (k := i) (by omega)
        have e10 : M.1 10 i = nI (H.le i) := hH.le i (by omega)
        have := ih (i + 1) (by omega)
        rw [show suS H (M.1 48) w (i + 1) = suS H (M.1 48) w i + H.le i from if_pos h11, show bzS H (M.1 48) w (i + 1) = bzS H (M.1 48) w i ||| hrS H i from if_pos h11] at this
        rw [show nI i + Int32.ofInt 1 = nI (i + 1) from nI_1 _, ei, e10, nI_add, nI_orN (by omega) (by omega)]
        exact this
  refine floa_0 hJ.2 hl0 (vp_in_nI (by omega) (by decide)) (fun h3 h4 => ?_) (fun h3 h4 h6 => ?_) (fun h3 h4 h6 => ?_) (fun h3 h4 => ?_) (fun h3 => ?_)
  all_goals rw [ew, hp] at h3
  · rw [ew, ix h3]
    have := inN_lt (TO_p hT (by omega) h3)
    exact vp_in_nI (by omega) (by decide)
  · rw [ew, bt h3] at h4
    rw [ew, sk h3] at h6
    rw [ew, show M.1 10 w = nI (suS H (M.1 48) w 0) from hH.le w hw]
    exact loop h3 (by cases e : lf.testBit (M.1 48 w).toNatClampNeg with | true => rfl | false => exact absurd e h4) h6 w 0 (by omega)
  · rw [ew, bt h3] at h4
    rw [ew, sk h3] at h6
    rw [flS, if_neg h3, if_neg h4, if_pos h6]
    exact pvI_of
  · rw [ew, bt h3] at h4
    rw [flS, if_neg h3, if_pos h4]
    exact pvI_of
  · rw [flS, if_pos h3]
    exact pvI_of
theorem juda_c (hl0 : l.1.stackTraces = false) (hJ : JR RR M) (hI : HI H) (hH : cHo 4 H M) (hT : TO 48 H M) : AC l (pI pg 121) (tcO "java/lang/IllegalArgumentException" M (juO H (M.1 48) y)) 2 12 [.ref 0, .int y] SHF M := by
  have hp6 := hI.pe
  have hw8 := hI.wo
  have p6 := pw_le hp6
  refine fw_of hl0 ⟨by decide +kernel, by decide +kernel, by decide +kernel⟩ rfl ?_
  have loop : ∀ (lf : Nat), lf < 64 → ∀ (d i : Nat), i + d = H.wo → AW l (pI pg 121) (fun r sh' M' => sh' = SHF ∧ M' = M ∧ r = .inl (some (.int (juS H (M.1 48) lf d i)))) 1 6 7 [(2, .int (nI i)), (1, .int (nI lf)), (0, .ref 0)] [] SHF M := by
    intro lf hlf d
    induction d with
    | zero =>
      intro i hi
      have le : M.1 4 1 ≤ nI i := by rw [hH.wo, nI_leI (by omega) (by omega)]; omega
      exact juda_7 hJ.2 hl0 (fun _ => ⟨rfl, rfl, rfl⟩) (fun _ _ => True) (fun h => absurd le h) (fun h => absurd le h) (fun h => absurd le h)
    | succ d ih =>
      intro i hi
      have lt : ¬ M.1 4 1 ≤ nI i := by rw [hH.wo, nI_leI (by omega) (by omega)]; omega
      have f5 := flS_lt (H := H) (t := M.1 48) (lf := lf) (w := i)
      refine juda_7 hJ.2 hl0 (fun h => absurd h lt) _ (fun _ => floa_c hl0 hJ hI hH hT (w := i) (by omega) hlf) (fun _ y3 M3 e3 q3 h5 => ?_) (fun _ y3 M3 e3 q3 h5 => ?_)
      · obtain ⟨rfl, rfl⟩ := q3
        have h0 : flS H (M.1 48) lf i = 0 := nI_injN (b := 0) (by omega) (by decide) h5
        rw [show juS H (M.1 48) lf (d + 1) i = juS H (M.1 48) lf d (i + 1) from if_pos h0, show nI i + Int32.ofInt 1 = nI (i + 1) from nI_1 _]
        exact ih (i + 1) (by omega)
      · obtain ⟨rfl, rfl⟩ := q3
        have h0 : ¬ flS H (M.1 48) lf i = 0 := fun g => h5 (by rw [g]; rfl)
        rw [show juS H (M.1 48) lf (d + 1) i = nI (10 * i + flS H (M.1 48) lf i) from if_neg h0]
        refine ⟨rfl, rfl, ?_⟩
        rw [show (Int8.ofInt 10).toInt32 = nI 10 by decide, nI_mulN, nI_add]
  refine juda_0 (kc := 1) (ks := 6) hJ.2 hl0 (¬ inN (2 ^ H.pe) y) (ckla_c hl0 hJ hI hH) (fun b => ⟨rfl, rfl, Or.inl ⟨by rw [juO, if_neg b], rfl⟩⟩) (fun b => ?_)
  have hy := Decidable.not_not.mp b
  have ly := inN_lt hy
  have k := loop y.toNatClampNeg (by omega) H.wo 0 (by omega)
  rw [← inN_eq hy] at k
  refine k.post (fun r sh' M' hp => ?_)
  obtain ⟨p1, p2, p3⟩ := hp
  exact ⟨p1, p2, Or.inr ⟨_, by rw [juO, if_pos hy], p3⟩⟩
end JDA
section JDB
variable {l : aL} {M : aM} {H : HS} {x y : Int32}
theorem alpb_c (hl0 : l.1.stackTraces = false) (hI : HI H) (hH : cHo 17 H M) : AC l (pI pg 32) (pvI M (nI (2 ^ H.pe - 1))) 0 0 [.ref 17] SHF M := by
  have hp6 := hI.pe
  refine fw_of hl0 ⟨by decide +kernel, by decide +kernel, by decide +kernel⟩ rfl ?_
  refine alpb_0 ?_
  rw [hH.pe, fullW (by omega)]
  exact pvI_of
theorem hofb_c (hl0 : l.1.stackTraces = false) (hJ : JR RRS M) (hI : HI H) (hH : cHo 17 H M) {w : Nat} (hw : w < H.wo) : AC l (pI pg 15) (pvI M (nI (hrS H w))) 0 0 [.ref 17, .int (nI w)] SHF M := by
  have hw8 := hI.wo
  refine fw_of hl0 ⟨by decide +kernel, by decide +kernel, by decide +kernel⟩ rfl ?_
  refine hofb_0 (fun e he => hJ.2 e (rk_RRS e he)) (vp_in_nI (by omega) (by decide)) ?_
  have e1 : M.1 23 (nI w).toNatClampNeg = nI (H.le w) := by rw [nI_clamp (by omega)]; exact hH.le w hw
  have e2 : M.1 22 (nI w).toNatClampNeg = nI (H.be w) := by rw [nI_clamp (by omega)]; exact hH.be w hw
  rw [e1, e2, hr_int hI hw]
  exact pvI_of
theorem cklb_c (hl0 : l.1.stackTraces = false) (hJ : JR RRS M) (hI : HI H) (hH : cHo 17 H M) : AC l (pI pg 100) (tcV "java/lang/IllegalArgumentException" M (¬ inN (2 ^ H.pe) x)) 1 6 [.ref 0, .int x] SHF M := by
  refine fw_of hl0 ⟨by decide +kernel, by decide +kernel, by decide +kernel⟩ rfl ?_
  refine cklb_0 (kc := 0) (ks := 0) hJ.2 hl0 _ (alpb_c hl0 hI hH) (fun y1 M1 e1 q1 h3 => ?_) (fun y1 M1 e1 q1 h3 => ?_)
  · obtain ⟨rfl, rfl⟩ := q1
    exact ⟨rfl, rfl, Or.inr ⟨rfl, fun h => h ((left_iff hI.pe).mp h3)⟩⟩
  · obtain ⟨rfl, rfl⟩ := q1
    exact ⟨rfl, rfl, Or.inl ⟨rfl, fun h => h3 ((left_iff hI.pe).mpr h)⟩⟩
theorem flob_c (hl0 : l.1.stackTraces = false) (hJ : JR RRS M) (hI : HI H) (hH : cHo 17 H M) (hT : TO 48 H M) {w lf : Nat} (hw : w < H.wo) (hl : lf < 64) : AC l (pI pg 122) (pvI M (nI (flS H (M.1 48) lf w))) 0 0 [.ref 0, .int (nI w), .int (nI lf)] SHF M := by
  have hp6 := hI.pe
  have hw8 := hI.wo
  refine fw_of hl0 ⟨by decide +kernel, by decide +kernel, by decide +kernel⟩ rfl ?_
  have ew : (nI w).toNatClampNeg = w := nI_clamp (by omega)
  have hp : hpV (M.1 17 0) (M.1 48 w) = 0 ↔ M.1 48 w = Int32.ofInt (-1) := by
    rw [hH.pe, hpV_x (by omega)]
    exact ⟨fun h => Decidable.byContradiction fun g => h (TO_p hT (by omega) g), fun h => by rw [h]; exact m1_no⟩
  have bt : ¬ M.1 48 w = Int32.ofInt (-1) → (((nI lf >>> (M.1 48 w &&& 31)) &&& Int32.ofInt 1) = 0 ↔ lf.testBit (M.1 48 w).toNatClampNeg = false) := fun h => by
    have hx := TO_p hT (by omega) h
    have := inN_lt hx
    conv => lhs; rw [inN_eq hx]
    exact bitF (by omega) (by omega)
  have ix : ¬ M.1 48 w = Int32.ofInt (-1) → M.1 48 w * (Int8.ofInt 8).toInt32 + nI w = nI (8 * (M.1 48 w).toNatClampNeg + w) := fun h => by
    conv => lhs; rw [inN_eq (TO_p hT (by omega) h)]
    rw [show (Int8.ofInt 8).toInt32 = nI 8 by decide, nI_mulN, nI_add, Nat.mul_comm]
  have sk : ¬ M.1 48 w = Int32.ofInt (-1) → (M.1 25 (M.1 48 w * (Int8.ofInt 8).toInt32 + nI w).toNatClampNeg = 0 ↔ H.sk (8 * (M.1 48 w).toNatClampNeg + w) = 0) := fun h => by
    have hx := inN_lt (TO_p hT (by omega) h)
    have h9 := (hI.sk (M.1 48 w).toNatClampNeg w (by omega) (by omega)).1
    have e : M.1 25 (8 * (M.1 48 w).toNatClampNeg + w) = nI (H.sk (8 * (M.1 48 w).toNatClampNeg + w)) := hH.sk _ (by omega)
    rw [ix h, nI_clamp (by omega), e]
    exact ⟨fun g => nI_injN (b := 0) (by omega) (by decide) g, fun g => by rw [g]; rfl⟩
  have loop : ¬ M.1 48 w = Int32.ofInt (-1) → lf.testBit (M.1 48 w).toNatClampNeg = true → ¬ H.sk (8 * (M.1 48 w).toNatClampNeg + w) = 0 → ∀ (n i : Nat), i + n = w → AW l (pI pg 122) (pvI M (nI (flS H (M.1 48) lf w))) 0 0 66 [(6, .int (nI i)), (5, .int (nI (suS H (M.1 48) w i))), (4, .int (nI (bzS H (M.1 48) w i))), (3, .int (M.1 48 w)), (2, .int (nI lf)), (1, .int (nI w)), (0, .ref 0)] [] SHF M := by
    intro g1 g2 g3 n
    have hx := TO_p hT (by omega) g1
    have lx := inN_lt hx
    induction n with
    | zero =>
      intro i hi
      have ei : i = w := by omega
      subst ei
      have le : nI i ≤ nI i := by rw [nI_leI (by omega) (by omega)]; omega
      have b1 := bz_lt hI (t := M.1 48) (w := i) i (by omega)
      have b2 := hr_lt hI hw
      have s1 := su_lt hI (t := M.1 48) hw i (by omega)
      have h24 := hI.ho _ lx
      have an : nI (bzS H (M.1 48) i i) &&& nI (hrS H i) = 0 ↔ ¬ clS H (M.1 48) i i = true := by
        rw [nI_andN (by omega) (by omega), ← bz_and hI hw (by omega)]
        have : bzS H (M.1 48) i i &&& hrS H i ≤ bzS H (M.1 48) i i := Nat.and_le_left
        exact ⟨fun g => nI_injN (b := 0) (by omega) (by decide) g, fun g => by rw [g]; rfl⟩
      have eh : M.1 18 (M.1 48 i).toNatClampNeg = nI (H.ho (M.1 48 i).toNatClampNeg) := hH.ho _ lx
      have fl : flS H (M.1 48) lf i = if clS H (M.1 48) i i = true then 4 else if H.ho (M.1 48 i).toNatClampNeg < suS H (M.1 48) i i then 5 else 0 := by
        rw [flS, if_neg g1, if_neg (by rw [g2]; decide), if_neg g3]
      refine flob_66 hJ.2 hl0 _ (fun _ => hofb_c hl0 hJ hI hH hw) (fun _ y2 M2 e2 q2 h4 => inN_vp hx hp6 (by decide)) (fun _ y2 M2 e2 q2 h4 h6 => ?_) (fun _ y2 M2 e2 q2 h4 h6 => ?_) (fun _ y2 M2 e2 q2 h4 => ?_) (fun h => absurd le h) (fun h => absurd le h) (fun _ _ => True) (fun h => absurd le h) (fun h => absurd le h)
      · obtain ⟨rfl, rfl⟩ := q2
        rw [eh, nI_leI (by omega) (by omega)] at h6
        rw [fl, if_neg (an.mp h4), if_neg (by omega)]
        exact pvI_of
      · obtain ⟨rfl, rfl⟩ := q2
        rw [eh, nI_leI (by omega) (by omega)] at h6
        rw [fl, if_neg (an.mp h4), if_pos (by omega)]
        exact pvI_of
      · obtain ⟨rfl, rfl⟩ := q2
        rw [fl, if_pos (Decidable.not_not.mp (fun g => h4 (an.mpr g)))]
        exact pvI_of
    | succ n ih =>
      intro i hi
      have lt : ¬ nI w ≤ nI i := by rw [nI_leI (by omega) (by omega)]; omega
      have ei : (nI i).toNatClampNeg = i := nI_clamp (by omega)
      refine flob_66 hJ.2 hl0 (fun _ _ => True) (fun h => absurd h lt) (fun h => absurd h lt) (fun h => absurd h lt) (fun h => absurd h lt) (fun h => absurd h lt) (fun _ => vp_in_nI (by omega) (by decide)) (fun _ h11 => ?_) _ (fun _ h11 => hofb_c hl0 hJ hI hH (w := i) (by omega)) (fun _ h11 y13 M13 e13 q13 => ?_)
      · rw [ei] at h11
        have := ih (i + 1) (by omega)
        rw [show suS H (M.1 48) w (i + 1) = suS H (M.1 48) w i from if_neg h11, show bzS H (M.1 48) w (i + 1) = bzS H (M.1 48) w i from if_neg h11] at this
        rw [show nI i + Int32.ofInt 1 = nI (i + 1) from nI_1 _]
        exact this
      · obtain ⟨rfl, rfl⟩ := q13
        rw [ei] at h11
        have b1 := bz_lt hI (t := M.1 48) (w := w) i (by omega)
        have b2 := hr_lt hI (k := i) (by omega)
        have e10 : M.1 23 i = nI (H.le i) := hH.le i (by omega)
        have := ih (i + 1) (by omega)
        rw [show suS H (M.1 48) w (i + 1) = suS H (M.1 48) w i + H.le i from if_pos h11, show bzS H (M.1 48) w (i + 1) = bzS H (M.1 48) w i ||| hrS H i from if_pos h11] at this
        rw [show nI i + Int32.ofInt 1 = nI (i + 1) from nI_1 _, ei, e10, nI_add, nI_orN (by omega) (by omega)]
        exact this
  refine flob_0 hJ.2 hl0 (vp_in_nI (by omega) (by decide)) (fun h3 h4 => ?_) (fun h3 h4 h6 => ?_) (fun h3 h4 h6 => ?_) (fun h3 h4 => ?_) (fun h3 => ?_)
  all_goals rw [ew, hp] at h3
  · rw [ew, ix h3]
    have := inN_lt (TO_p hT (by omega) h3)
    exact vp_in_nI (by omega) (by decide)
  · rw [ew, bt h3] at h4
    rw [ew, sk h3] at h6
    rw [ew, show M.1 23 w = nI (suS H (M.1 48) w 0) from hH.le w hw]
    exact loop h3 (by cases e : lf.testBit (M.1 48 w).toNatClampNeg with | true => rfl | false => exact absurd e h4) h6 w 0 (by omega)
  · rw [ew, bt h3] at h4
    rw [ew, sk h3] at h6
    rw [flS, if_neg h3, if_neg h4, if_pos h6]
    exact pvI_of
  · rw [ew, bt h3] at h4
    rw [flS, if_neg h3, if_pos h4]
    exact pvI_of
  · rw [flS, if_pos h3]
    exact pvI_of
theorem judb_c (hl0 : l.1.stackTraces = false) (hJ : JR RRS M) (hI : HI H) (hH : cHo 17 H M) (hT : TO 48 H M) : AC l (pI pg 121) (tcO "java/lang/IllegalArgumentException" M (juO H (M.1 48) y)) 2 12 [.ref 0, .int y] SHF M := by
  have hp6 := hI.pe
  have hw8 := hI.wo
  have p6 := pw_le hp6
  refine fw_of hl0 ⟨by decide +kernel, by decide +kernel, by decide +kernel⟩ rfl ?_
  have loop : ∀ (lf : Nat), lf < 64 → ∀ (d i : Nat), i + d = H.wo → AW l (pI pg 121) (fun r sh' M' => sh' = SHF ∧ M' = M ∧ r = .inl (some (.int (juS H (M.1 48) lf d i)))) 1 6 7 [(2, .int (nI i)), (1, .int (nI lf)), (0, .ref 0)] [] SHF M := by
    intro lf hlf d
    induction d with
    | zero =>
      intro i hi
      have le : M.1 17 1 ≤ nI i := by rw [hH.wo, nI_leI (by omega) (by omega)]; omega
      exact judb_7 hJ.2 hl0 (fun _ => ⟨rfl, rfl, rfl⟩) (fun _ _ => True) (fun h => absurd le h) (fun h => absurd le h) (fun h => absurd le h)
    | succ d ih =>
      intro i hi
      have lt : ¬ M.1 17 1 ≤ nI i := by rw [hH.wo, nI_leI (by omega) (by omega)]; omega
      have f5 := flS_lt (H := H) (t := M.1 48) (lf := lf) (w := i)
      refine judb_7 hJ.2 hl0 (fun h => absurd h lt) _ (fun _ => flob_c hl0 hJ hI hH hT (w := i) (by omega) hlf) (fun _ y3 M3 e3 q3 h5 => ?_) (fun _ y3 M3 e3 q3 h5 => ?_)
      · obtain ⟨rfl, rfl⟩ := q3
        have h0 : flS H (M.1 48) lf i = 0 := nI_injN (b := 0) (by omega) (by decide) h5
        rw [show juS H (M.1 48) lf (d + 1) i = juS H (M.1 48) lf d (i + 1) from if_pos h0, show nI i + Int32.ofInt 1 = nI (i + 1) from nI_1 _]
        exact ih (i + 1) (by omega)
      · obtain ⟨rfl, rfl⟩ := q3
        have h0 : ¬ flS H (M.1 48) lf i = 0 := fun g => h5 (by rw [g]; rfl)
        rw [show juS H (M.1 48) lf (d + 1) i = nI (10 * i + flS H (M.1 48) lf i) from if_neg h0]
        refine ⟨rfl, rfl, ?_⟩
        rw [show (Int8.ofInt 10).toInt32 = nI 10 by decide, nI_mulN, nI_add]
  refine judb_0 (kc := 1) (ks := 6) hJ.2 hl0 (¬ inN (2 ^ H.pe) y) (cklb_c hl0 hJ hI hH) (fun b => ⟨rfl, rfl, Or.inl ⟨by rw [juO, if_neg b], rfl⟩⟩) (fun b => ?_)
  have hy := Decidable.not_not.mp b
  have ly := inN_lt hy
  have k := loop y.toNatClampNeg (by omega) H.wo 0 (by omega)
  rw [← inN_eq hy] at k
  refine k.post (fun r sh' M' hp => ?_)
  obtain ⟨p1, p2, p3⟩ := hp
  exact ⟨p1, p2, Or.inr ⟨_, by rw [juO, if_pos hy], p3⟩⟩
end JDB
section JDM
variable {l : aL} {M : aM} {H : HS} {x y : Int32}
theorem isl_c (hl0 : l.1.stackTraces = false) (hR : ∀ e ∈ RM, M.2.2 e.1 e.2.1 = e.2.2) (hI : HI H) (h1 : M.1 58 1 = nI H.pe) : AC l (pI pg 203) (fcI (M0w M) (fun z M' => (inN (2 ^ H.pe) x ∧ z = 1 ∧ M' = M0w M) ∨ (¬ inN (2 ^ H.pe) x ∧ z = 0 ∧ M' = M1w M))) 0 0 [.ref 58, .int x, .int (Int32.ofInt 1)] SHF (M0w M) := by
  have p6 := pw_le hI.pe
  refine fw_of hl0 ⟨by decide +kernel, by decide +kernel, by decide +kernel⟩ rfl ?_
  have hs : Int32.ofInt 1 <<< ((M0w M).1 58 1 &&& 31) = nI (2 ^ H.pe) := by
    rw [show (M0w M).1 58 1 = nI H.pe from h1]
    exact shW (by have := hI.pe; omega)
  have z0 : ¬ ¬ (Int32.ofInt 0 : Int32) = 0 := fun h => h (by decide)
  have z1 : ¬ (Int32.ofInt 1 : Int32) = 0 := by decide
  refine isl_0 hR _ (fun _ => rgh_c hl0 hR) (fun _ y2 M2 e2 q2 => nar01 (q2.elim (fun q => Or.inr q.2.1) (fun q => Or.inl q.2.1))) (fun g1 y2 M2 e2 q2 => ?_) _ (fun _ _ => rgh_c hl0 hR) (fun _ _ y2 M2 e2 q2 => nar01 (q2.elim (fun q => Or.inr q.2.1) (fun q => Or.inl q.2.1))) (fun g1 g6 y2 M2 e2 q2 => ?_) _ (fun _ _ => rgh_c hl0 hR) (fun _ _ y2 M2 e2 q2 => nar01 (q2.elim (fun q => Or.inr q.2.1) (fun q => Or.inl q.2.1))) (fun g1 g6 y2 M2 e2 q2 => ?_)
  · rcases q2 with q | q
    · exact absurd q.1 z0
    · exact ⟨rfl, e2, _, rfl, Or.inr ⟨(inN_no (by omega)).mpr (Or.inl g1), q.2⟩⟩
  · rcases q2 with q | q
    · exact absurd q.1 z0
    · exact ⟨rfl, e2, _, rfl, Or.inr ⟨(inN_no (by omega)).mpr (Or.inr (by rw [← hs]; exact g6)), q.2⟩⟩
  · rcases q2 with q | q
    · exact ⟨rfl, e2, _, rfl, Or.inl ⟨Decidable.byContradiction fun h => ((inN_no (by omega)).mp h).elim g1 (fun h => g6 (by rw [hs]; exact h)), q.2⟩⟩
    · exact absurd q.1 z1
theorem cla_c (hl0 : l.1.stackTraces = false) (hR : ∀ e ∈ RM, M.2.2 e.1 e.2.1 = e.2.2) (hI : HI H) (hm : mHo H M) {a b : Nat} (ha : a < H.wo) (hb : b < H.wo) : AC l (pI pg 207) (fcI M (fun z M' => M' = M ∧ (z = 0 ↔ ¬ clB H a b = true))) 0 0 [.ref 58, .int (nI a), .int (nI b)] SHF M := by
  have hw8 := hI.wo
  obtain ⟨-, -, -, -, -, -, a7, a8, -⟩ := hm
  have ea : (nI a).toNatClampNeg = a := nI_clamp (by omega)
  have eb : (nI b).toNatClampNeg = b := nI_clamp (by omega)
  have ba := hI.be a ha
  have bb := hI.be b hb
  refine fw_of hl0 ⟨by decide +kernel, by decide +kernel, by decide +kernel⟩ rfl ?_
  have c1 : M.1 61 (nI b).toNatClampNeg + M.1 62 (nI b).toNatClampNeg ≤ M.1 61 (nI a).toNatClampNeg ↔ H.be b + H.le b ≤ H.be a := by
    rw [ea, eb, a7 a ha, a7 b hb, a8 b hb, nI_add, nI_leI (by omega) (by omega)]
  have c2 : M.1 61 (nI a).toNatClampNeg + M.1 62 (nI a).toNatClampNeg ≤ M.1 61 (nI b).toNatClampNeg ↔ H.be a + H.le a ≤ H.be b := by
    rw [ea, eb, a7 a ha, a7 b hb, a8 a ha, nI_add, nI_leI (by omega) (by omega)]
  refine cla_0 hR (vp_in_nI (by omega) (by decide)) (vp_in_nI (by omega) (by decide)) (fun h3 => ⟨rfl, rfl, _, rfl, rfl, ?_⟩) (fun h3 h5 => ⟨rfl, rfl, _, rfl, rfl, ?_⟩) (fun h3 h5 => ⟨rfl, rfl, _, rfl, rfl, ?_⟩)
  · rw [c1] at h3
    rw [clB, decide_eq_true_eq]
    exact ⟨fun _ => by omega, fun _ => by decide⟩
  · rw [c2] at h5
    rw [clB, decide_eq_true_eq]
    exact ⟨fun _ => by omega, fun _ => by decide⟩
  · rw [c1] at h3
    rw [c2] at h5
    rw [clB, decide_eq_true_eq]
    exact ⟨fun g => absurd g (by decide), fun g => absurd (by omega) g⟩
theorem tro_c (hl0 : l.1.stackTraces = false) (hR : ∀ e ∈ RM, M.2.2 e.1 e.2.1 = e.2.2) (hI : HI H) (hm : mHo H M) (hT : TO 81 H M) {w lf : Nat} (hw : w < H.wo) (hl : lf < 64) : AC l (pI pg 221) (pvI M (nI (flS H (M.1 81) lf w))) 0 0 [.ref 58, .int (nI w), .int (nI lf)] SHF M := by
  have hp6 := hI.pe
  have hw8 := hI.wo
  have hm0 := hm
  obtain ⟨a1, a2, a3, a4, a5, a6, a7, a8, a9, a10⟩ := hm
  refine fw_of hl0 ⟨by decide +kernel, by decide +kernel, by decide +kernel⟩ rfl ?_
  have ew : (nI w).toNatClampNeg = w := nI_clamp (by omega)
  have bt : ¬ M.1 81 w = Int32.ofInt (-1) → (((nI lf >>> (M.1 81 w &&& 31)) &&& Int32.ofInt 1) = 0 ↔ lf.testBit (M.1 81 w).toNatClampNeg = false) := fun h => by
    have hx := TO_p hT (by omega) h
    have := inN_lt hx
    conv => lhs; rw [inN_eq hx]
    exact bitF (by omega) (by omega)
  have ix : ¬ M.1 81 w = Int32.ofInt (-1) → (Int8.ofInt 8).toInt32 * M.1 81 w + nI w = nI (8 * (M.1 81 w).toNatClampNeg + w) := fun h => by
    conv => lhs; rw [inN_eq (TO_p hT (by omega) h)]
    rw [show (Int8.ofInt 8).toInt32 = nI 8 by decide, nI_mulN, nI_add]
  have sk : ¬ M.1 81 w = Int32.ofInt (-1) → (M.1 63 ((Int8.ofInt 8).toInt32 * M.1 81 w + nI w).toNatClampNeg = 0 ↔ H.sk (8 * (M.1 81 w).toNatClampNeg + w) = 0) := fun h => by
    have hx := inN_lt (TO_p hT (by omega) h)
    have h9 := (hI.sk (M.1 81 w).toNatClampNeg w (by omega) (by omega)).1
    rw [ix h, nI_clamp (by omega), a9 _ w hx hw]
    exact ⟨fun g => nI_injN (b := 0) (by omega) (by decide) g, fun g => by rw [g]; rfl⟩
  have loop : ¬ M.1 81 w = Int32.ofInt (-1) → lf.testBit (M.1 81 w).toNatClampNeg = true → ¬ H.sk (8 * (M.1 81 w).toNatClampNeg + w) = 0 → ∀ (n i : Nat) (b : Int32), i + n = w → (b = 0 ↔ clS H (M.1 81) w i = true) → AW l (pI pg 221) (pvI M (nI (flS H (M.1 81) lf w))) 0 0 54 [(6, .int (nI i)), (5, .int b), (4, .int (nI (suS H (M.1 81) w i))), (3, .int (M.1 81 w)), (2, .int (nI lf)), (1, .int (nI w)), (0, .ref 58)] [] SHF M := by
    intro g1 g2 g3 n
    have hx := TO_p hT (by omega) g1
    have lx := inN_lt hx
    induction n with
    | zero =>
      intro i b hi hb
      have ei : i = w := by omega
      subst ei
      have le : nI i ≤ nI i := by rw [nI_leI (by omega) (by omega)]; omega
      have s1 := su_lt hI (t := M.1 81) hw i (by omega)
      have h24 := hI.ho _ lx
      have fl : flS H (M.1 81) lf i = if clS H (M.1 81) i i = true then 4 else if H.ho (M.1 81 i).toNatClampNeg < suS H (M.1 81) i i then 5 else 0 := by
        rw [flS, if_neg g1, if_neg (by rw [g2]; decide), if_neg g3]
      refine tro_54 hR (fun _ _ => inN_vp hx hp6 (by decide)) (fun _ h2 h4 => ?_) (fun _ h2 h4 => ?_) (fun _ h2 => ?_) (fun h => absurd le h) (fun h => absurd le h) (fun _ _ => True) (fun h => absurd le h) (fun h => absurd le h) (fun h => absurd le h) (fun h => absurd le h)
      · rw [a5 _ lx, nI_leI (by omega) (by omega)] at h4
        rw [fl, if_neg (fun g => h2 (hb.mpr g)), if_neg (by omega)]
        exact pvI_of
      · rw [a5 _ lx, nI_leI (by omega) (by omega)] at h4
        rw [fl, if_neg (fun g => h2 (hb.mpr g)), if_pos (by omega)]
        exact pvI_of
      · rw [fl, if_pos (hb.mp h2)]
        exact pvI_of
    | succ n ih =>
      intro i b hi hb
      have lt : ¬ nI w ≤ nI i := by rw [nI_leI (by omega) (by omega)]; omega
      have ei : (nI i).toNatClampNeg = i := nI_clamp (by omega)
      have e8 : M.1 62 i = nI (H.le i) := a8 i (by omega)
      have cs : clS H (M.1 81) w (i + 1) = (clS H (M.1 81) w i || (decide (M.1 81 i = M.1 81 w) && clB H w i)) := rfl
      have go : ∀ (b' : Int32), (b' = 0 ↔ clS H (M.1 81) w (i + 1) = true) → ∀ v, v = nI (suS H (M.1 81) w (i + 1)) → AW l (pI pg 221) (pvI M (nI (flS H (M.1 81) lf w))) 0 0 108 [(6, .int (nI i)), (5, .int b'), (4, .int v), (3, .int (M.1 81 w)), (2, .int (nI lf)), (1, .int (nI w)), (0, .ref 58)] [] SHF M := fun b' hb' v hv => by
        subst hv
        refine tro_108 hR ?_
        rw [show nI i + Int32.ofInt 1 = nI (i + 1) from nI_1 _]
        exact ih (i + 1) b' (by omega) hb'
      have sy : M.1 81 i = M.1 81 w → nI (suS H (M.1 81) w i) + M.1 62 (nI i).toNatClampNeg = nI (suS H (M.1 81) w (i + 1)) := fun h => by
        rw [ei, e8, nI_add, show suS H (M.1 81) w (i + 1) = suS H (M.1 81) w i + H.le i from if_pos h]
      refine tro_54 hR (fun h => absurd h lt) (fun h => absurd h lt) (fun h => absurd h lt) (fun h => absurd h lt) (fun _ => vp_in_nI (by omega) (by decide)) (fun _ h9 h10 => ?_) _ (fun _ h9 h10 => cla_c hl0 hR hI hm0 hw (b := i) (by omega)) (fun _ h9 h10 y12 M12 e12 q12 h14 => ?_) (fun _ h9 h10 y12 M12 e12 q12 h14 => ?_) (fun _ h9 => ?_)
      · rw [ei] at h9
        exact go _ ⟨fun _ => by rw [cs, hb.mp h10]; rfl, fun _ => rfl⟩ _ (sy h9)
      · obtain ⟨rfl, q12⟩ := q12
        rw [ei] at h9
        refine go _ ⟨fun _ => ?_, fun _ => rfl⟩ _ (sy h9)
        have hc : clB H w i = true := Decidable.not_not.mp (fun g => h14 (q12.mpr g))
        rw [cs, hc, h9, decide_eq_true rfl]
        cases clS H (M12.1 81) w i <;> rfl
      · obtain ⟨rfl, q12⟩ := q12
        rw [ei] at h9
        refine go _ ⟨fun g => absurd g (by decide), fun g => ?_⟩ _ (sy h9)
        have hc := q12.mp h14
        rw [cs] at g
        cases e1 : clS H (M12.1 81) w i with
        | true => exact absurd (hb.mpr e1) h10
        | false =>
          cases e2 : clB H w i with
          | true => exact absurd e2 hc
          | false =>
            rw [e1, e2, Bool.and_false] at g
            cases g
      · rw [ei] at h9
        refine go _ ⟨fun g => ?_, fun g => ?_⟩ _ (by rw [show suS H (M.1 81) w (i + 1) = suS H (M.1 81) w i from if_neg h9])
        · rw [cs, hb.mp g]
          rfl
        · rw [cs, decide_eq_false h9, Bool.false_and, Bool.or_false] at g
          exact hb.mpr g
  refine tro_0 hR (vp_in_nI (by omega) (by decide)) (fun h2 h3 => ?_) (fun h2 h3 h5 => ?_) (fun h2 h3 h5 => ?_) (fun h2 h3 => ?_) (fun h2 => ?_)
  all_goals rw [ew] at h2
  · rw [ew, ix h2]
    have := inN_lt (TO_p hT (by omega) h2)
    exact vp_in_nI (by omega) (by decide)
  · rw [ew, bt h2] at h3
    rw [ew, sk h2] at h5
    rw [ew, show M.1 62 w = nI (suS H (M.1 81) w 0) from a8 w hw]
    exact loop h2 (by cases e : lf.testBit (M.1 81 w).toNatClampNeg with | true => rfl | false => exact absurd e h3) h5 w 0 _ (by omega) ⟨fun g => absurd g (by decide), fun g => by cases g⟩
  · rw [ew, bt h2] at h3
    rw [ew, sk h2] at h5
    rw [flS, if_neg h2, if_neg h3, if_pos h5]
    exact pvI_of
  · rw [ew, bt h2] at h3
    rw [flS, if_neg h2, if_pos h3]
    exact pvI_of
  · rw [flS, if_pos h2]
    exact pvI_of
theorem mju_c (hl0 : l.1.stackTraces = false) (hR : ∀ e ∈ RM, M.2.2 e.1 e.2.1 = e.2.2) (hI : HI H) (hm : mHo H M) (hT : TO 81 H M) : AC l (pI pg 220) (fcI M (QO (juO H (M.1 81) y) M)) 0 0 [.ref 58, .int y] SHF M := by
  have hp6 := hI.pe
  have hw8 := hI.wo
  have p6 := pw_le hp6
  have z1 : ¬ (1 : Int32) = 0 := by decide
  have hm1 : mHo H (M0w M) := mH_eq (fun k k1 k4 => by show (aset M 58 0 (.int (Int32.ofInt 0))).1 58 k = M.1 58 k; rw [set_1, if_pos rfl, if_neg (by omega)]) (fun a k a1 a2 => by show (aset M 58 0 (.int (Int32.ofInt 0))).1 a k = M.1 a k; rw [set_1, if_neg (by omega)]) hm
  have hT1 : TO 81 H (M0w M) := hT
  have wo : (M0w M).1 58 2 = nI H.wo := hm.2.1
  refine fw_of hl0 ⟨by decide +kernel, by decide +kernel, by decide +kernel⟩ rfl ?_
  have loop : ∀ (lf : Nat), lf < 64 → ∀ (d i : Nat), i + d = H.wo → AW l (pI pg 220) (fcI M (fun z M' => z = juS H (M.1 81) lf d i ∧ M' = M0w M)) 0 0 18 [(2, .int (nI i)), (1, .int (nI lf)), (0, .ref 58)] [] SHF (M0w M) := by
    intro lf hlf d
    induction d with
    | zero =>
      intro i hi
      have le : (M0w M).1 58 2 ≤ nI i := by rw [wo, nI_leI (by omega) (by omega)]; omega
      exact mju_18 hR (fun _ => ⟨rfl, rfl, _, rfl, rfl, rfl⟩) (fun _ _ => True) (fun h => absurd le h) (fun h => absurd le h) (fun _ _ _ _ => True) (fun h => absurd le h) (fun h => absurd le h)
    | succ d ih =>
      intro i hi
      have lt : ¬ (M0w M).1 58 2 ≤ nI i := by rw [wo, nI_leI (by omega) (by omega)]; omega
      have f5 := flS_lt (H := H) (t := M.1 81) (lf := lf) (w := i)
      have c := tro_c (l := l) (M := M0w M) hl0 hR hI hm1 hT1 (w := i) (lf := lf) (by omega) hlf
      refine mju_18 hR (fun h => absurd h lt) _ (fun _ => c) (fun _ y3 M3 e3 q3 h5 => ?_) (fun _ M3 y M' => nI (flS H (M.1 81) lf i) = y ∧ M3 = M') (fun _ y3 M3 e3 q3 h5 => ?_) (fun _ y3 M3 e3 q3 h5 y7 M7 e7 q7 => ?_)
      · obtain ⟨rfl, rfl⟩ := q3
        have h0 : flS H (M.1 81) lf i = 0 := nI_injN (b := 0) (by omega) (by decide) h5
        rw [show juS H (M.1 81) lf (d + 1) i = juS H (M.1 81) lf d (i + 1) from if_pos h0, show nI i + Int32.ofInt 1 = nI (i + 1) from nI_1 _]
        exact ih (i + 1) (by omega)
      · obtain ⟨rfl, rfl⟩ := q3
        exact c
      · obtain ⟨rfl, rfl⟩ := q3
        obtain ⟨rfl, rfl⟩ := q7
        have h0 : ¬ flS H (M.1 81) lf i = 0 := fun g => h5 (by show nI (flS H (M.1 81) lf i) = 0; rw [g]; rfl)
        refine ⟨rfl, rfl, _, rfl, ?_, rfl⟩
        rw [show juS H (M.1 81) lf (d + 1) i = nI (10 * i + flS H (M.1 81) lf i) from if_neg h0, show (Int8.ofInt 10).toInt32 = nI 10 by decide, nI_mulN, nI_add]
  refine mju_0 hR _ (isl_c hl0 hR hI hm.1) (fun y1 M1 e1 q1 h3 => ?_) (fun y1 M1 e1 q1 h3 => ?_)
  · obtain ⟨hy, -, rfl⟩ : inN (2 ^ H.pe) y ∧ y1 = 1 ∧ M1 = M0w M := q1.elim id (fun q => absurd q.2.1 h3)
    have ly := inN_lt hy
    have k := loop y.toNatClampNeg (by omega) H.wo 0 (by omega)
    rw [← inN_eq hy] at k
    refine k.post (fun r sh' M' hp => ?_)
    obtain ⟨p1, p2, z, p3, p4, rfl⟩ := hp
    exact ⟨p1, p2, z, p3, Or.inr ⟨_, by rw [juO, if_pos hy], p4, rfl⟩, rfl⟩
  · obtain ⟨hy, -, rfl⟩ : ¬ inN (2 ^ H.pe) y ∧ y1 = 0 ∧ M1 = M1w M := q1.elim (fun q => absurd (q.2.1.symm.trans h3) z1) id
    exact ⟨rfl, rfl, _, rfl, Or.inl ⟨by rw [juO, if_neg hy], rfl⟩, rfl⟩
end JDM
