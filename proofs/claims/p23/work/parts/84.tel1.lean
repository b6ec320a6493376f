/-! WHAT TELLS A HOUSE -/
abbrev inN (m : Nat) (x : Int32) : Prop := 0 ≤ x.toInt ∧ x.toInt < (m : Int)
theorem inN_eq {m : Nat} {x : Int32} (h : inN m x) : x = nI x.toNatClampNeg := nI_self h.1
theorem inN_lt {m : Nat} {x : Int32} (h : inN m x) : x.toNatClampNeg < m := by
  have h1 := h.1
  have h2 := h.2
  show x.toInt.toNat < m
  omega
theorem inN_vp {m n : Nat} {x : Int32} (h : inN m x) (hm : m ≤ n) (hn : n < 2 ^ 31) : vp_in x n := by
  have := inN_lt h
  rw [inN_eq h]
  exact vp_in_nI (by omega) (by omega)
theorem inN_no {m : Nat} (hm : m < 2 ^ 31) {x : Int32} : ¬ inN m x ↔ x < 0 ∨ nI m ≤ x := by
  have z : (0 : Int32).toInt = 0 := by decide
  rw [Int32.lt_iff_toInt_lt, Int32.le_iff_toInt_le, nI_toInt hm]
  unfold inN
  omega
theorem hpV_x {m : Nat} (hm : m < 2 ^ 31) {x : Int32} : hpV (nI m) x = 0 ↔ ¬ inN m x := by
  rw [inN_no hm]
  unfold hpV
  by_cases h : x < 0
  · rw [if_pos h]
    exact ⟨fun _ => Or.inl h, fun _ => by decide⟩
  · rw [if_neg h]
    by_cases h2 : nI m ≤ x
    · rw [if_pos h2]
      exact ⟨fun _ => Or.inr h2, fun _ => by decide⟩
    · rw [if_neg h2]
      exact ⟨fun e => absurd e (by decide), fun e => absurd e (fun e => e.elim h h2)⟩
def perO (H : HS) (x y : Int32) : Option Int32 := if inN H.pe x then (if y = Int32.ofInt 0 then some (nI (H.ho x.toNatClampNeg)) else if y = Int32.ofInt 1 then some (nI (H.ch x.toNatClampNeg)) else if y = Int32.ofInt 2 then some (nI (H.cd x.toNatClampNeg)) else none) else none
def worO (H : HS) (x y : Int32) : Option Int32 := if inN H.wo x then (if y = Int32.ofInt 0 then some (nI (H.be x.toNatClampNeg)) else if y = Int32.ofInt 1 then some (nI (H.le x.toNatClampNeg)) else if y = Int32.ofInt 2 then some (nI (H.dr x.toNatClampNeg)) else none) else none
def skiO (H : HS) (x y : Int32) : Option Int32 := if inN H.pe x then (if inN H.wo y then some (nI (H.sk (8 * x.toNatClampNeg + y.toNatClampNeg))) else none) else none
def teaO (H : HS) (x y : Int32) : Option Int32 := if inN H.te x then (if y = Int32.ofInt 0 then some (nI (H.t0 x.toNatClampNeg)) else if y = Int32.ofInt 1 then some (nI (H.t1 x.toNatClampNeg)) else if y = Int32.ofInt 2 then some (nI (H.t2 x.toNatClampNeg)) else if y = Int32.ofInt 3 then some (nI (H.t3 x.toNatClampNeg)) else none) else none
theorem mul8 {m k : Nat} {x y : Int32} (h : inN m x) (hy : inN k y) (hm : m ≤ 6) (hk : k ≤ 8) : x * (Int8.ofInt 8).toInt32 + y = nI (8 * x.toNatClampNeg + y.toNatClampNeg) := by
  conv => lhs; rw [inN_eq h, inN_eq hy]
  rw [show (Int8.ofInt 8).toInt32 = nI 8 by decide, nI_mulN, nI_add, Nat.mul_comm]
theorem mul8' {m k : Nat} {x y : Int32} (h : inN m x) (hy : inN k y) (hm : m ≤ 6) (hk : k ≤ 8) : (Int8.ofInt 8).toInt32 * x + y = nI (8 * x.toNatClampNeg + y.toNatClampNeg) := by
  conv => lhs; rw [inN_eq h, inN_eq hy]
  rw [show (Int8.ofInt 8).toInt32 = nI 8 by decide, nI_mulN, nI_add]
/-- bits of what holds -/
def bF (g : Nat → Bool) : Nat → Nat
  | 0 => 0
  | k + 1 => if g k = true then bF g k ||| 2 ^ k else bF g k
theorem bF_lt {g : Nat → Bool} : ∀ k, bF g k < 2 ^ k
  | 0 => Nat.le_refl 1
  | k + 1 => by
    have h := bF_lt (g := g) k
    have h2 : 2 ^ k < 2 ^ (k + 1) := Nat.pow_lt_pow_right (by decide) (by omega)
    unfold bF
    split
    · exact Nat.or_lt_two_pow (by omega) h2
    · omega
theorem bF_bit {g : Nat → Bool} : ∀ k w, (bF g k).testBit w = true ↔ w < k ∧ g w = true
  | 0, w => by
    show (0 : Nat).testBit w = true ↔ _
    rw [Nat.zero_testBit]
    exact ⟨fun h => (by cases h), fun h => absurd h.1 (Nat.not_lt_zero _)⟩
  | k + 1, w => by
    have ih := bF_bit (g := g) k w
    unfold bF
    split
    · rename_i hg
      rw [or_bit, ih]
      refine ⟨fun h => h.elim (fun h => ⟨by omega, h.2⟩) (fun h => ⟨by omega, by rw [h]; exact hg⟩), fun h => ?_⟩
      by_cases e : w = k
      · exact Or.inr e
      · exact Or.inl ⟨by omega, h.2⟩
    · rename_i hg
      rw [ih]
      refine ⟨fun h => ⟨by omega, h.2⟩, fun h => ?_⟩
      by_cases e : w = k
      · exact absurd (by rw [← e]; exact h.2) hg
      · exact ⟨by omega, h.2⟩
theorem bits_eq {a b m : Nat} (ha : a < 2 ^ m) (hb : b < 2 ^ m) (h : ∀ w, w < m → (a.testBit w = true ↔ b.testBit w = true)) : a = b := by
  apply Nat.eq_of_testBit_eq
  intro w
  by_cases e : w < m
  · have := h w e
    cases ea : a.testBit w <;> cases eb : b.testBit w
    · rfl
    · rw [ea, eb] at this
      exact absurd (this.mpr rfl) (by decide)
    · rw [ea, eb] at this
      exact absurd (this.mp rfl) (by decide)
    · rfl
  · have p : 2 ^ m ≤ 2 ^ w := Nat.pow_le_pow_right (by decide) (by omega)
    rw [Nat.testBit_lt_two_pow (Nat.lt_of_lt_of_le ha p), Nat.testBit_lt_two_pow (Nat.lt_of_lt_of_le hb p)]
theorem cd_bits {H : HS} (hI : HI H) {i : Nat} (hi : i < H.pe) : bF (fun w => decide (0 < H.sk (8 * i + w))) H.wo = H.cd i := by
  have hp := hI.pe
  have hw := hI.wo
  have h1 := bF_lt (g := fun w => decide (0 < H.sk (8 * i + w))) H.wo
  have h2 : 2 ^ H.wo ≤ 2 ^ 8 := Nat.pow_le_pow_right (by decide) hw
  refine bits_eq (m := 8) (Nat.lt_of_lt_of_le h1 h2) (hI.cd i (by omega)).1 (fun w w8 => ?_)
  rw [bF_bit, decide_eq_true_eq, (hI.cd i (by omega)).2 w w8]
  exact ⟨fun h => h.2, fun h => ⟨((hI.sk i w (by omega) w8).2 h).2, h⟩⟩
theorem dr_bits {H : HS} (hI : HI H) {w : Nat} (hw : w < H.wo) : bF (fun i => decide (0 < H.sk (8 * i + w))) H.pe = H.dr w := by
  have hp := hI.pe
  have hw8 := hI.wo
  have h1 := bF_lt (g := fun i => decide (0 < H.sk (8 * i + w))) H.pe
  have h2 : 2 ^ H.pe ≤ 2 ^ 6 := Nat.pow_le_pow_right (by decide) hp
  refine bits_eq (m := 6) (Nat.lt_of_lt_of_le h1 h2) (hI.dr w (by omega)).1 (fun i i6 => ?_)
  rw [bF_bit, decide_eq_true_eq, (hI.dr w (by omega)).2 i i6]
  exact ⟨fun h => h.2, fun h => ⟨((hI.sk i w i6 (by omega)).2 h).1, h⟩⟩
section TELA
variable {l : aL} {M : aM} {H : HS} {x y : Int32}
theorem cpea_c (hl0 : l.1.stackTraces = false) (hJ : JR RR M) (hI : HI H) (hH : cHo 4 H M) : AC l (pI pg 90) (tcV "java/util/NoSuchElementException" M (¬ inN H.pe x)) 1 6 [.ref 0, .int x] SHF M := by
  have hp6 := hI.pe
  have e : hpV (M.1 4 0) x = 0 ↔ ¬ inN H.pe x := by rw [hH.pe]; exact hpV_x (by omega)
  refine fw_of hl0 ⟨by decide +kernel, by decide +kernel, by decide +kernel⟩ rfl ?_
  exact cpea_0 (kc := 0) (ks := 0) hJ.2 hl0 (fun h => ⟨rfl, rfl, Or.inr ⟨rfl, fun g => h (e.mpr g)⟩⟩) (fun h => ⟨rfl, rfl, Or.inl ⟨rfl, e.mp h⟩⟩)
theorem cwoa_c (hl0 : l.1.stackTraces = false) (hJ : JR RR M) (hI : HI H) (hH : cHo 4 H M) : AC l (pI pg 93) (tcV "java/util/NoSuchElementException" M (¬ inN H.wo x)) 1 6 [.ref 0, .int x] SHF M := by
  have hp6 := hI.wo
  have e : hpV (M.1 4 1) x = 0 ↔ ¬ inN H.wo x := by rw [hH.wo]; exact hpV_x (by omega)
  refine fw_of hl0 ⟨by decide +kernel, by decide +kernel, by decide +kernel⟩ rfl ?_
  exact cwoa_0 (kc := 0) (ks := 0) hJ.2 hl0 (fun h => ⟨rfl, rfl, Or.inr ⟨rfl, fun g => h (e.mpr g)⟩⟩) (fun h => ⟨rfl, rfl, Or.inl ⟨rfl, e.mp h⟩⟩)
theorem pera_c (hl0 : l.1.stackTraces = false) (hJ : JR RR M) (hI : HI H) (hH : cHo 4 H M) : AC l (pI pg 89) (tcO "java/util/NoSuchElementException" M (perO H x y)) 2 12 [.ref 0, .int x, .int y] SHF M := by
  have hp6 := hI.pe
  refine fw_of hl0 ⟨by decide +kernel, by decide +kernel, by decide +kernel⟩ rfl ?_
  have vp : ¬ ¬ inN H.pe x → vp_in x 6 := fun h => inN_vp (Decidable.not_not.mp h) hp6 (by decide)
  have lt : ¬ ¬ inN H.pe x → x.toNatClampNeg < H.pe := fun h => inN_lt (Decidable.not_not.mp h)
  refine pera_0 (kc := 0) (ks := 0) hJ.2 hl0 (¬ inN H.pe x) (cpea_c hl0 hJ hI hH) (fun b => ⟨rfl, rfl, Or.inl ⟨by rw [perO, if_neg b], rfl⟩⟩) (fun b _ => vp b) (fun b h4 => ⟨rfl, rfl, Or.inr ⟨_, ?_, rfl⟩⟩) (fun b _ _ => vp b) (fun b h4 h7 => ⟨rfl, rfl, Or.inr ⟨_, ?_, rfl⟩⟩) (fun b _ _ _ => vp b) (fun b h4 h7 h10 => ⟨rfl, rfl, Or.inr ⟨_, ?_, rfl⟩⟩) (fun b h4 h7 h10 => ⟨rfl, rfl, Or.inl ⟨?_, rfl⟩⟩)
  · rw [perO, if_pos (Decidable.not_not.mp b), if_pos h4]
    exact congrArg some (hH.ho _ (lt b)).symm
  · rw [perO, if_pos (Decidable.not_not.mp b), if_neg h4, if_pos h7]
    exact congrArg some (hH.ch _ (lt b)).symm
  · rw [perO, if_pos (Decidable.not_not.mp b), if_neg h4, if_neg h7, if_pos h10]
    exact congrArg some (hH.cd _ (by have := lt b; omega)).symm
  · rw [perO, if_pos (Decidable.not_not.mp b), if_neg h4, if_neg h7, if_neg h10]
theorem wora_c (hl0 : l.1.stackTraces = false) (hJ : JR RR M) (hI : HI H) (hH : cHo 4 H M) : AC l (pI pg 92) (tcO "java/util/NoSuchElementException" M (worO H x y)) 2 12 [.ref 0, .int x, .int y] SHF M := by
  have hp6 := hI.wo
  refine fw_of hl0 ⟨by decide +kernel, by decide +kernel, by decide +kernel⟩ rfl ?_
  have vp : ¬ ¬ inN H.wo x → vp_in x 8 := fun h => inN_vp (Decidable.not_not.mp h) hp6 (by decide)
  have lt : ¬ ¬ inN H.wo x → x.toNatClampNeg < H.wo := fun h => inN_lt (Decidable.not_not.mp h)
  refine wora_0 (kc := 0) (ks := 0) hJ.2 hl0 (¬ inN H.wo x) (cwoa_c hl0 hJ hI hH) (fun b => ⟨rfl, rfl, Or.inl ⟨by rw [worO, if_neg b], rfl⟩⟩) (fun b _ => vp b) (fun b h4 => ⟨rfl, rfl, Or.inr ⟨_, ?_, rfl⟩⟩) (fun b _ _ => vp b) (fun b h4 h7 => ⟨rfl, rfl, Or.inr ⟨_, ?_, rfl⟩⟩) (fun b _ _ _ => vp b) (fun b h4 h7 h10 => ⟨rfl, rfl, Or.inr ⟨_, ?_, rfl⟩⟩) (fun b h4 h7 h10 => ⟨rfl, rfl, Or.inl ⟨?_, rfl⟩⟩)
  · rw [worO, if_pos (Decidable.not_not.mp b), if_pos h4]
    exact congrArg some (hH.be _ (lt b)).symm
  · rw [worO, if_pos (Decidable.not_not.mp b), if_neg h4, if_pos h7]
    exact congrArg some (hH.le _ (lt b)).symm
  · rw [worO, if_pos (Decidable.not_not.mp b), if_neg h4, if_neg h7, if_pos h10]
    exact congrArg some (hH.dr _ (by have := lt b; omega)).symm
  · rw [worO, if_pos (Decidable.not_not.mp b), if_neg h4, if_neg h7, if_neg h10]
theorem skia_c (hl0 : l.1.stackTraces = false) (hJ : JR RR M) (hI : HI H) (hH : cHo 4 H M) : AC l (pI pg 95) (tcO "java/util/NoSuchElementException" M (skiO H x y)) 2 12 [.ref 0, .int x, .int y] SHF M := by
  have hp6 := hI.pe
  have hw8 := hI.wo
  refine fw_of hl0 ⟨by decide +kernel, by decide +kernel, by decide +kernel⟩ rfl ?_
  refine skia_0 (kc := 0) (ks := 0) hJ.2 hl0 (¬ inN H.pe x) (cpea_c hl0 hJ hI hH) (fun b => ⟨rfl, rfl, Or.inl ⟨by rw [skiO, if_neg b], rfl⟩⟩) (¬ inN H.wo y) (fun _ => cwoa_c hl0 hJ hI hH) (fun b c => ⟨rfl, rfl, Or.inl ⟨by rw [skiO, if_pos (Decidable.not_not.mp b), if_neg c], rfl⟩⟩) (fun b c => ?_) (fun b c => ⟨rfl, rfl, Or.inr ⟨_, ?_, rfl⟩⟩)
  · have hx := Decidable.not_not.mp b
    have hy := Decidable.not_not.mp c
    have l1 := inN_lt hx
    have l2 := inN_lt hy
    rw [mul8 hx hy hp6 hw8]
    exact vp_in_nI (by omega) (by decide)
  · have hx := Decidable.not_not.mp b
    have hy := Decidable.not_not.mp c
    have l1 := inN_lt hx
    have l2 := inN_lt hy
    rw [skiO, if_pos hx, if_pos hy, mul8 hx hy hp6 hw8, nI_clamp (by omega)]
    exact congrArg some (hH.sk _ (by omega)).symm
theorem teaa_c (hl0 : l.1.stackTraces = false) (hJ : JR RR M) (hI : HI H) (hH : cHo 4 H M) : AC l (pI pg 97) (tcO "java/util/NoSuchElementException" M (teaO H x y)) 2 12 [.ref 0, .int x, .int y] SHF M := by
  have hp6 := hI.te
  refine fw_of hl0 ⟨by decide +kernel, by decide +kernel, by decide +kernel⟩ rfl ?_
  have no : x < 0 ∨ ¬ x < M.1 4 2 → ¬ inN H.te x := fun h => (inN_no (by omega)).mpr (h.imp id (fun h => by
    rw [hH.te] at h
    rw [Int32.lt_iff_toInt_lt] at h
    rw [Int32.le_iff_toInt_le]
    omega))
  have yes : ¬ x < 0 → x < M.1 4 2 → inN H.te x := fun h1 h2 => Decidable.byContradiction fun h => by
    rcases (inN_no (by omega)).mp h with h | h
    · exact h1 h
    · rw [hH.te, Int32.lt_iff_toInt_lt] at h2
      rw [Int32.le_iff_toInt_le] at h
      omega
  refine teaa_0 (kc := 1) (ks := 6) hJ.2 hl0 (fun h1 => ⟨rfl, rfl, Or.inl ⟨by rw [teaO, if_neg (no (Or.inl h1))], rfl⟩⟩) (fun h1 h3 _ => inN_vp (yes h1 h3) hp6 (by decide)) (fun h1 h3 h4 => ⟨rfl, rfl, Or.inr ⟨_, ?_, rfl⟩⟩) (fun h1 h3 _ _ => inN_vp (yes h1 h3) hp6 (by decide)) (fun h1 h3 h4 h7 => ⟨rfl, rfl, Or.inr ⟨_, ?_, rfl⟩⟩) (fun h1 h3 _ _ _ => inN_vp (yes h1 h3) hp6 (by decide)) (fun h1 h3 h4 h7 h10 => ⟨rfl, rfl, Or.inr ⟨_, ?_, rfl⟩⟩) (fun h1 h3 _ _ _ _ => inN_vp (yes h1 h3) hp6 (by decide)) (fun h1 h3 h4 h7 h10 h13 => ⟨rfl, rfl, Or.inr ⟨_, ?_, rfl⟩⟩) (fun h1 h3 h4 h7 h10 h13 => ⟨rfl, rfl, Or.inl ⟨?_, rfl⟩⟩) (fun h1 h3 => ⟨rfl, rfl, Or.inl ⟨by rw [teaO, if_neg (no (Or.inr h3))], rfl⟩⟩)
  · rw [teaO, if_pos (yes h1 h3), if_pos h4]
    exact congrArg some (hH.t0 _ (inN_lt (yes h1 h3))).symm
  · rw [teaO, if_pos (yes h1 h3), if_neg h4, if_pos h7]
    exact congrArg some (hH.t1 _ (inN_lt (yes h1 h3))).symm
  · rw [teaO, if_pos (yes h1 h3), if_neg h4, if_neg h7, if_pos h10]
    exact congrArg some (hH.t2 _ (inN_lt (yes h1 h3))).symm
  · rw [teaO, if_pos (yes h1 h3), if_neg h4, if_neg h7, if_neg h10, if_pos h13]
    exact congrArg some (hH.t3 _ (inN_lt (yes h1 h3))).symm
  · rw [teaO, if_pos (yes h1 h3), if_neg h4, if_neg h7, if_neg h10, if_neg h13]
end TELA
section TELB
variable {l : aL} {M : aM} {H : HS} {x y : Int32}
theorem cpeb_c (hl0 : l.1.stackTraces = false) (hJ : JR RRS M) (hI : HI H) (hH : cHo 17 H M) : AC l (pI pg 90) (tcV "java/util/NoSuchElementException" M (¬ inN H.pe x)) 1 6 [.ref 0, .int x] SHF M := by
  have hp6 := hI.pe
  have e : hpV (M.1 17 0) x = 0 ↔ ¬ inN H.pe x := by rw [hH.pe]; exact hpV_x (by omega)
  refine fw_of hl0 ⟨by decide +kernel, by decide +kernel, by decide +kernel⟩ rfl ?_
  exact cpeb_0 (kc := 0) (ks := 0) hJ.2 hl0 (fun h => ⟨rfl, rfl, Or.inr ⟨rfl, fun g => h (e.mpr g)⟩⟩) (fun h => ⟨rfl, rfl, Or.inl ⟨rfl, e.mp h⟩⟩)
theorem cwob_c (hl0 : l.1.stackTraces = false) (hJ : JR RRS M) (hI : HI H) (hH : cHo 17 H M) : AC l (pI pg 93) (tcV "java/util/NoSuchElementException" M (¬ inN H.wo x)) 1 6 [.ref 0, .int x] SHF M := by
  have hp6 := hI.wo
  have e : hpV (M.1 17 1) x = 0 ↔ ¬ inN H.wo x := by rw [hH.wo]; exact hpV_x (by omega)
  refine fw_of hl0 ⟨by decide +kernel, by decide +kernel, by decide +kernel⟩ rfl ?_
  exact cwob_0 (kc := 0) (ks := 0) hJ.2 hl0 (fun h => ⟨rfl, rfl, Or.inr ⟨rfl, fun g => h (e.mpr g)⟩⟩) (fun h => ⟨rfl, rfl, Or.inl ⟨rfl, e.mp h⟩⟩)
theorem perb_c (hl0 : l.1.stackTraces = false) (hJ : JR RRS M) (hI : HI H) (hH : cHo 17 H M) : AC l (pI pg 89) (tcO "java/util/NoSuchElementException" M (perO H x y)) 2 12 [.ref 0, .int x, .int y] SHF M := by
  have hp6 := hI.pe
  refine fw_of hl0 ⟨by decide +kernel, by decide +kernel, by decide +kernel⟩ rfl ?_
  have vp : ¬ ¬ inN H.pe x → vp_in x 6 := fun h => inN_vp (Decidable.not_not.mp h) hp6 (by decide)
  have lt : ¬ ¬ inN H.pe x → x.toNatClampNeg < H.pe := fun h => inN_lt (Decidable.not_not.mp h)
  refine perb_0 (kc := 0) (ks := 0) hJ.2 hl0 (¬ inN H.pe x) (cpeb_c hl0 hJ hI hH) (fun b => ⟨rfl, rfl, Or.inl ⟨by rw [perO, if_neg b], rfl⟩⟩) (fun b _ => vp b) (fun b h4 => ⟨rfl, rfl, Or.inr ⟨_, ?_, rfl⟩⟩) (fun b _ _ => vp b) (fun b h4 h7 => ⟨rfl, rfl, Or.inr ⟨_, ?_, rfl⟩⟩) (fun b _ _ _ => vp b) (fun b h4 h7 h10 => ⟨rfl, rfl, Or.inr ⟨_, ?_, rfl⟩⟩) (fun b h4 h7 h10 => ⟨rfl, rfl, Or.inl ⟨?_, rfl⟩⟩)
  · rw [perO, if_pos (Decidable.not_not.mp b), if_pos h4]
    exact congrArg some (hH.ho _ (lt b)).symm
  · rw [perO, if_pos (Decidable.not_not.mp b), if_neg h4, if_pos h7]
    exact congrArg some (hH.ch _ (lt b)).symm
  · rw [perO, if_pos (Decidable.not_not.mp b), if_neg h4, if_neg h7, if_pos h10]
    exact congrArg some (hH.cd _ (by have := lt b; omega)).symm
  · rw [perO, if_pos (Decidable.not_not.mp b), if_neg h4, if_neg h7, if_neg h10]
theorem worb_c (hl0 : l.1.stackTraces = false) (hJ : JR RRS M) (hI : HI H) (hH : cHo 17 H M) : AC l (pI pg 92) (tcO "java/util/NoSuchElementException" M (worO H x y)) 2 12 [.ref 0, .int x, .int y] SHF M := by
  have hp6 := hI.wo
  refine fw_of hl0 ⟨by decide +kernel, by decide +kernel, by decide +kernel⟩ rfl ?_
  have vp : ¬ ¬ inN H.wo x → vp_in x 8 := fun h => inN_vp (Decidable.not_not.mp h) hp6 (by decide)
  have lt : ¬ ¬ inN H.wo x → x.toNatClampNeg < H.wo := fun h => inN_lt (Decidable.not_not.mp h)
  refine worb_0 (kc := 0) (ks := 0) hJ.2 hl0 (¬ inN H.wo x) (cwob_c hl0 hJ hI hH) (fun b => ⟨rfl, rfl, Or.inl ⟨by rw [worO, if_neg b], rfl⟩⟩) (fun b _ => vp b) (fun b h4 => ⟨rfl, rfl, Or.inr ⟨_, ?_, rfl⟩⟩) (fun b _ _ => vp b) (fun b h4 h7 => ⟨rfl, rfl, Or.inr ⟨_, ?_, rfl⟩⟩) (fun b _ _ _ => vp b) (fun b h4 h7 h10 => ⟨rfl, rfl, Or.inr ⟨_, ?_, rfl⟩⟩) (fun b h4 h7 h10 => ⟨rfl, rfl, Or.inl ⟨?_, rfl⟩⟩)
  · rw [worO, if_pos (Decidable.not_not.mp b), if_pos h4]
    exact congrArg some (hH.be _ (lt b)).symm
  · rw [worO, if_pos (Decidable.not_not.mp b), if_neg h4, if_pos h7]
    exact congrArg some (hH.le _ (lt b)).symm
  · rw [worO, if_pos (Decidable.not_not.mp b), if_neg h4, if_neg h7, if_pos h10]
    exact congrArg some (hH.dr _ (by have := lt b; omega)).symm
  · rw [worO, if_pos (Decidable.not_not.mp b), if_neg h4, if_neg h7, if_neg h10]
theorem skib_c (hl0 : l.1.stackTraces = false) (hJ : JR RRS M) (hI : HI H) (hH : cHo 17 H M) : AC l (pI pg 95) (tcO "java/util/NoSuchElementException" M (skiO H x y)) 2 12 [.ref 0, .int x, .int y] SHF M := by
  have hp6 := hI.pe
  have hw8 := hI.wo
  refine fw_of hl0 ⟨by decide +kernel, by decide +kernel, by decide +kernel⟩ rfl ?_
  refine skib_0 (kc := 0) (ks := 0) hJ.2 hl0 (¬ inN H.pe x) (cpeb_c hl0 hJ hI hH) (fun b => ⟨rfl, rfl, Or.inl ⟨by rw [skiO, if_neg b], rfl⟩⟩) (¬ inN H.wo y) (fun _ => cwob_c hl0 hJ hI hH) (fun b c => ⟨rfl, rfl, Or.inl ⟨by rw [skiO, if_pos (Decidable.not_not.mp b), if_neg c], rfl⟩⟩) (fun b c => ?_) (fun b c => ⟨rfl, rfl, Or.inr ⟨_, ?_, rfl⟩⟩)
  · have hx := Decidable.not_not.mp b
    have hy := Decidable.not_not.mp c
    have l1 := inN_lt hx
    have l2 := inN_lt hy
    rw [mul8 hx hy hp6 hw8]
    exact vp_in_nI (by omega) (by decide)
  · have hx := Decidable.not_not.mp b
    have hy := Decidable.not_not.mp c
    have l1 := inN_lt hx
    have l2 := inN_lt hy
    rw [skiO, if_pos hx, if_pos hy, mul8 hx hy hp6 hw8, nI_clamp (by omega)]
    exact congrArg some (hH.sk _ (by omega)).symm
theorem teab_c (hl0 : l.1.stackTraces = false) (hJ : JR RRS M) (hI : HI H) (hH : cHo 17 H M) : AC l (pI pg 97) (tcO "java/util/NoSuchElementException" M (teaO H x y)) 2 12 [.ref 0, .int x, .int y] SHF M := by
  have hp6 := hI.te
  refine fw_of hl0 ⟨by decide +kernel, by decide +kernel, by decide +kernel⟩ rfl ?_
  have no : x < 0 ∨ ¬ x < M.1 17 2 → ¬ inN H.te x := fun h => (inN_no (by omega)).mpr (h.imp id (fun h => by
    rw [hH.te] at h
    rw [Int32.lt_iff_toInt_lt] at h
    rw [Int32.le_iff_toInt_le]
    omega))
  have yes : ¬ x < 0 → x < M.1 17 2 → inN H.te x := fun h1 h2 => Decidable.byContradiction fun h => by
    rcases (inN_no (by omega)).mp h with h | h
    · exact h1 h
    · rw [hH.te, Int32.lt_iff_toInt_lt] at h2
      rw [Int32.le_iff_toInt_le] at h
      omega
  refine teab_0 (kc := 1) (ks := 6) hJ.2 hl0 (fun h1 => ⟨rfl, rfl, Or.inl ⟨by rw [teaO, if_neg (no (Or.inl h1))], rfl⟩⟩) (fun h1 h3 _ => inN_vp (yes h1 h3) hp6 (by decide)) (fun h1 h3 h4 => ⟨rfl, rfl, Or.inr ⟨_, ?_, rfl⟩⟩) (fun h1 h3 _ _ => inN_vp (yes h1 h3) hp6 (by decide)) (fun h1 h3 h4 h7 => ⟨rfl, rfl, Or.inr ⟨_, ?_, rfl⟩⟩) (fun h1 h3 _ _ _ => inN_vp (yes h1 h3) hp6 (by decide)) (fun h1 h3 h4 h7 h10 => ⟨rfl, rfl, Or.inr ⟨_, ?_, rfl⟩⟩) (fun h1 h3 _ _ _ _ => inN_vp (yes h1 h3) hp6 (by decide)) (fun h1 h3 h4 h7 h10 h13 => ⟨rfl, rfl, Or.inr ⟨_, ?_, rfl⟩⟩) (fun h1 h3 h4 h7 h10 h13 => ⟨rfl, rfl, Or.inl ⟨?_, rfl⟩⟩) (fun h1 h3 => ⟨rfl, rfl, Or.inl ⟨by rw [teaO, if_neg (no (Or.inr h3))], rfl⟩⟩)
  · rw [teaO, if_pos (yes h1 h3), if_pos h4]
    exact congrArg some (hH.t0 _ (inN_lt (yes h1 h3))).symm
  · rw [teaO, if_pos (yes h1 h3), if_neg h4, if_pos h7]
    exact congrArg some (hH.t1 _ (inN_lt (yes h1 h3))).symm
  · rw [teaO, if_pos (yes h1 h3), if_neg h4, if_neg h7, if_pos h10]
    exact congrArg some (hH.t2 _ (inN_lt (yes h1 h3))).symm
  · rw [teaO, if_pos (yes h1 h3), if_neg h4, if_neg h7, if_neg h10, if_pos h13]
    exact congrArg some (hH.t3 _ (inN_lt (yes h1 h3))).symm
  · rw [teaO, if_pos (yes h1 h3), if_neg h4, if_neg h7, if_neg h10, if_neg h13]
end TELB
section TELC
variable {l : aL} {M : aM} {H : HS} {x y : Int32}
theorem per_c (hl0 : l.1.stackTraces = false) (hI : HI H) (h : hoC H M) : AC l (pI pg 89) (tcO "java/util/NoSuchElementException" M (perO H x y)) 2 12 [.ref 0, .int x, .int y] SHF M := h.elim (fun h => pera_c hl0 h.1 hI h.2) (fun h => perb_c hl0 h.1 hI h.2)
theorem wor_c (hl0 : l.1.stackTraces = false) (hI : HI H) (h : hoC H M) : AC l (pI pg 92) (tcO "java/util/NoSuchElementException" M (worO H x y)) 2 12 [.ref 0, .int x, .int y] SHF M := h.elim (fun h => wora_c hl0 h.1 hI h.2) (fun h => worb_c hl0 h.1 hI h.2)
theorem ski_c (hl0 : l.1.stackTraces = false) (hI : HI H) (h : hoC H M) : AC l (pI pg 95) (tcO "java/util/NoSuchElementException" M (skiO H x y)) 2 12 [.ref 0, .int x, .int y] SHF M := h.elim (fun h => skia_c hl0 h.1 hI h.2) (fun h => skib_c hl0 h.1 hI h.2)
theorem tea_c (hl0 : l.1.stackTraces = false) (hI : HI H) (h : hoC H M) : AC l (pI pg 97) (tcO "java/util/NoSuchElementException" M (teaO H x y)) 2 12 [.ref 0, .int x, .int y] SHF M := h.elim (fun h => teaa_c hl0 h.1 hI h.2) (fun h => teab_c hl0 h.1 hI h.2)
/-! the reference -/
def mO (o : Option Int32) (z : Int32) (M' : aM) : Prop := (o = none ∧ M'.1 58 0 = 1) ∨ ∃ v, o = some v ∧ z = v ∧ M'.1 58 0 = 0
def M0w (M : aM) : aM := aset M 58 0 (.int (Int32.ofInt 0))
def M1w (M : aM) : aM := aset (aset M 58 0 (.int (Int32.ofInt 0))) 58 0 (.int (Int32.ofInt 1))
theorem rgh_c (hl0 : l.1.stackTraces = false) (hR : ∀ e ∈ RM, M.2.2 e.1 e.2.1 = e.2.2) {b : Int32} : AC l (pI pg 175) (fcI (M0w M) (fun z M' => (¬ b = 0 ∧ z = 1 ∧ M' = M0w M) ∨ (b = 0 ∧ z = 0 ∧ M' = M1w M))) 0 0 [.ref 58, .int b, .int (Int32.ofInt 1)] SHF (M0w M) := c174 (M := M0w M) (w := Int32.ofInt 1) hl0 hR rfl (by decide)
theorem nar01 {z : Int32} (h : z = 0 ∨ z = 1) : narrow (.boolean) (.int z) = .int z := by
  rcases h with rfl | rfl
  · rfl
  · rfl
theorem wit_c (hl0 : l.1.stackTraces = false) {m : Nat} {c : Int32} (hc : c = nI m) (hm : m < 1000) : AC l (pI pg 195) (fcI M (fun z M' => M' = M ∧ ((z = 1 ∧ inN (m + 1) x) ∨ (z = 0 ∧ ¬ inN (m + 1) x)))) 0 0 [.int x, .int (Int32.ofInt 0), .int c] SHF M := by
  subst hc
  have z : (Int32.ofInt 0).toInt = 0 := by decide
  refine fw_of hl0 ⟨by decide +kernel, by decide +kernel, by decide +kernel⟩ rfl ?_
  refine wit_0 (fun h => ⟨rfl, rfl, _, rfl, rfl, Or.inr ⟨rfl, ?_⟩⟩) (fun h1 h3 => ⟨rfl, rfl, _, rfl, rfl, Or.inr ⟨rfl, ?_⟩⟩) (fun h1 h3 => ⟨rfl, rfl, _, rfl, rfl, Or.inl ⟨rfl, ?_⟩⟩)
  · rw [Int32.lt_iff_toInt_lt, z] at h
    unfold inN
    omega
  · rw [Int32.lt_iff_toInt_lt, nI_toInt (by omega)] at h3
    unfold inN
    omega
  · rw [Int32.lt_iff_toInt_lt, z] at h1
    rw [Int32.lt_iff_toInt_lt, nI_toInt (by omega)] at h3
    unfold inN
    omega
theorem isp_c (hl0 : l.1.stackTraces = false) (hR : ∀ e ∈ RM, M.2.2 e.1 e.2.1 = e.2.2) {m : Nat} (hm : m < 1000) (h1 : M.1 58 1 = nI m) : AC l (pI pg 197) (fcI (M0w M) (fun z M' => (inN m x ∧ z = 1 ∧ M' = M0w M) ∨ (¬ inN m x ∧ z = 0 ∧ M' = M1w M))) 0 0 [.ref 58, .int x] SHF (M0w M) := by
  refine fw_of hl0 ⟨by decide +kernel, by decide +kernel, by decide +kernel⟩ rfl ?_
  have h1 : (M0w M).1 58 1 = nI m := h1
  have z0 : ¬ ¬ (Int32.ofInt 0 : Int32) = 0 := fun h => h (by decide)
  have z1 : ¬ (Int32.ofInt 1 : Int32) = 0 := by decide
  refine isp_0 hR _ (fun _ => rgh_c hl0 hR) (fun _ y2 M2 e2 q2 => nar01 (q2.elim (fun q => Or.inr q.2.1) (fun q => Or.inl q.2.1))) (fun g1 y2 M2 e2 q2 => ?_) _ (fun _ _ => rgh_c hl0 hR) (fun _ _ y2 M2 e2 q2 => nar01 (q2.elim (fun q => Or.inr q.2.1) (fun q => Or.inl q.2.1))) (fun g1 g6 y2 M2 e2 q2 => ?_) _ (fun _ _ => rgh_c hl0 hR) (fun _ _ y2 M2 e2 q2 => nar01 (q2.elim (fun q => Or.inr q.2.1) (fun q => Or.inl q.2.1))) (fun g1 g6 y2 M2 e2 q2 => ?_)
  · rcases q2 with q | q
    · exact absurd q.1 z0
    · exact ⟨rfl, e2, _, rfl, Or.inr ⟨(inN_no (by omega)).mpr (Or.inl g1), q.2⟩⟩
  · rcases q2 with q | q
    · exact absurd q.1 z0
    · exact ⟨rfl, e2, _, rfl, Or.inr ⟨(inN_no (by omega)).mpr (Or.inr (by rw [← h1]; exact g6)), q.2⟩⟩
  · rcases q2 with q | q
    · exact ⟨rfl, e2, _, rfl, Or.inl ⟨Decidable.byContradiction fun h => ((inN_no (by omega)).mp h).elim g1 (fun h => g6 (by rw [h1]; exact h)), q.2⟩⟩
    · exact absurd q.1 z1
theorem isw_c (hl0 : l.1.stackTraces = false) (hR : ∀ e ∈ RM, M.2.2 e.1 e.2.1 = e.2.2) {m : Nat} (hm : m < 1000) (h1 : M.1 58 2 = nI m) : AC l (pI pg 199) (fcI (M0w M) (fun z M' => (inN m x ∧ z = 1 ∧ M' = M0w M) ∨ (¬ inN m x ∧ z = 0 ∧ M' = M1w M))) 0 0 [.ref 58, .int x] SHF (M0w M) := by
  refine fw_of hl0 ⟨by decide +kernel, by decide +kernel, by decide +kernel⟩ rfl ?_
  have h1 : (M0w M).1 58 2 = nI m := h1
  have z0 : ¬ ¬ (Int32.ofInt 0 : Int32) = 0 := fun h => h (by decide)
  have z1 : ¬ (Int32.ofInt 1 : Int32) = 0 := by decide
  refine isw_0 hR _ (fun _ => rgh_c hl0 hR) (fun _ y2 M2 e2 q2 => nar01 (q2.elim (fun q => Or.inr q.2.1) (fun q => Or.inl q.2.1))) (fun g1 y2 M2 e2 q2 => ?_) _ (fun _ _ => rgh_c hl0 hR) (fun _ _ y2 M2 e2 q2 => nar01 (q2.elim (fun q => Or.inr q.2.1) (fun q => Or.inl q.2.1))) (fun g1 g6 y2 M2 e2 q2 => ?_) _ (fun _ _ => rgh_c hl0 hR) (fun _ _ y2 M2 e2 q2 => nar01 (q2.elim (fun q => Or.inr q.2.1) (fun q => Or.inl q.2.1))) (fun g1 g6 y2 M2 e2 q2 => ?_)
  · rcases q2 with q | q
    · exact absurd q.1 z0
    · exact ⟨rfl, e2, _, rfl, Or.inr ⟨(inN_no (by omega)).mpr (Or.inl g1), q.2⟩⟩
  · rcases q2 with q | q
    · exact absurd q.1 z0
    · exact ⟨rfl, e2, _, rfl, Or.inr ⟨(inN_no (by omega)).mpr (Or.inr (by rw [← h1]; exact g6)), q.2⟩⟩
  · rcases q2 with q | q
    · exact ⟨rfl, e2, _, rfl, Or.inl ⟨Decidable.byContradiction fun h => ((inN_no (by omega)).mp h).elim g1 (fun h => g6 (by rw [h1]; exact h)), q.2⟩⟩
    · exact absurd q.1 z1
def QO (o : Option Int32) (M : aM) : Int32 → aM → Prop := fun z M' => mO o z M' ∧ M'.2.1 = M.2.1
theorem or_step {a k : Nat} {b : Bool} (ha : a < 2 ^ 8) (hk : k < 8) : nI a ||| (Int32.ofInt 1 <<< (nI k &&& 31)) = nI (a ||| 2 ^ k) := by
  have p1 : 2 ^ k < 2 ^ 8 := Nat.pow_lt_pow_right (by decide) hk
  rw [shW (by omega), nI_orN (by omega) (by omega)]
theorem or_zero {a : Nat} (ha : a < 2 ^ 8) : nI a ||| Int32.ofInt 0 = nI a := by
  rw [show (Int32.ofInt 0 : Int32) = nI 0 by decide, nI_orN (by omega) (by decide), Nat.or_zero]
theorem pos_iff {v : Nat} (h : v < 1000) : nI v ≤ 0 ↔ ¬ 0 < v := by
  rw [show (0 : Int32) = nI 0 by decide, nI_leI (by omega) (by decide)]
  omega
theorem mpe_c (hl0 : l.1.stackTraces = false) (hR : ∀ e ∈ RM, M.2.2 e.1 e.2.1 = e.2.2) (hI : HI H) (hm : mHo H M) : AC l (pI pg 196) (fcI M (QO (perO H x y) M)) 0 0 [.ref 58, .int x, .int y] SHF M := by
  have hp6 := hI.pe
  have hw8 := hI.wo
  obtain ⟨a1, a2, a3, a4, a5, a6, a7, a8, a9, a10⟩ := hm
  have z1 : ¬ (1 : Int32) = 0 := by decide
  refine fw_of hl0 ⟨by decide +kernel, by decide +kernel, by decide +kernel⟩ rfl ?_
  have loop : inN H.pe x → y = Int32.ofInt 2 → ∀ (d k : Nat), k + d = H.wo → AW l (pI pg 196) (fcI M (QO (perO H x y) M)) 0 0 59 [(4, .int (nI k)), (3, .int (nI (bF (fun w => decide (0 < H.sk (8 * x.toNatClampNeg + w))) k))), (2, .int y), (1, .int x), (0, .ref 58)] [] SHF (M0w M) := by
    intro hx hy d
    have lx := inN_lt hx
    have wo : (M0w M).1 58 2 = nI H.wo := a2
    induction d with
    | zero =>
      intro k hk
      have no : ¬ ¬ (M0w M).1 58 2 ≤ nI k := fun h => h (by rw [wo, nI_leI (by omega) (by omega)]; omega)
      refine mpe_59 hR (fun _ => ⟨rfl, rfl, _, rfl, Or.inr ⟨_, ?_, rfl, rfl⟩, rfl⟩) (fun h => absurd h no) (fun h => absurd h no) (fun h => absurd h no)
      rw [show k = H.wo by omega, cd_bits hI lx, perO, if_pos hx, if_neg (by rw [hy]; decide), if_neg (by rw [hy]; decide), if_pos hy]
    | succ d ih =>
      intro k hk
      have yes : ¬ (M0w M).1 58 2 ≤ nI k := by rw [wo, nI_leI (by omega) (by omega)]; omega
      have b8 := bF_lt (g := fun w => decide (0 < H.sk (8 * x.toNatClampNeg + w))) k
      have p8 : 2 ^ k ≤ 2 ^ 8 := Nat.pow_le_pow_right (by decide) (by omega)
      have ei : (Int8.ofInt 8).toInt32 * x + nI k = nI (8 * x.toNatClampNeg + k) := by
        conv => lhs; rw [inN_eq hx]
        rw [show (Int8.ofInt 8).toInt32 = nI 8 by decide, nI_mulN, nI_add]
      have ec : (M0w M).1 63 ((Int8.ofInt 8).toInt32 * x + nI k).toNatClampNeg = nI (H.sk (8 * x.toNatClampNeg + k)) := by
        rw [ei, nI_clamp (by omega)]
        exact a9 _ k lx (by omega)
      have sk9 := (hI.sk x.toNatClampNeg k (by omega) (by omega)).1
      refine mpe_59 hR (fun h => absurd h yes) (fun _ => ?_) (fun _ h4 => ?_) (fun _ h4 => ?_)
      · rw [ei]
        exact vp_in_nI (by omega) (by decide)
      · rw [ec, pos_iff (by omega)] at h4
        have e : bF (fun w => decide (0 < H.sk (8 * x.toNatClampNeg + w))) (k + 1) = bF (fun w => decide (0 < H.sk (8 * x.toNatClampNeg + w))) k := if_neg (by rw [decide_eq_true_eq]; exact h4)
        have := ih (k + 1) (by omega)
        rw [e] at this
        rw [or_zero (by omega), show nI k + Int32.ofInt 1 = nI (k + 1) from nI_1 _]
        exact this
      · rw [ec, pos_iff (by omega), Decidable.not_not] at h4
        have e : bF (fun w => decide (0 < H.sk (8 * x.toNatClampNeg + w))) (k + 1) = bF (fun w => decide (0 < H.sk (8 * x.toNatClampNeg + w))) k ||| 2 ^ k := if_pos (by rw [decide_eq_true_eq]; exact h4)
        have := ih (k + 1) (by omega)
        rw [e] at this
        rw [or_step (b := true) (by omega) (by omega), show nI k + Int32.ofInt 1 = nI (k + 1) from nI_1 _]
        exact this
  refine mpe_0 hR _ (isp_c hl0 hR (by omega) a1) (fun y1 M1 e1 q1 h3 => ?_) (fun _ M1 z M' => M' = M1 ∧ ((z = 1 ∧ inN 3 y) ∨ (z = 0 ∧ ¬ inN 3 y))) (fun y1 M1 e1 q1 h3 => wit_c (m := 2) hl0 (by decide) (by decide)) (fun _ M1 y5 M5 z M' => (¬ y5 = 0 ∧ z = 1 ∧ M' = M0w M) ∨ (y5 = 0 ∧ z = 0 ∧ M' = M1w M)) (fun y1 M1 e1 q1 h3 y5 M5 e5 q5 => ?_) (fun y1 M1 e1 q1 h3 y5 M5 e5 q5 y7 M7 e7 q7 h9 h10 => ?_) (fun y1 M1 e1 q1 h3 y5 M5 e5 q5 y7 M7 e7 q7 h9 h10 h12 => ?_) (fun y1 M1 e1 q1 h3 y5 M5 e5 q5 y7 M7 e7 q7 h9 h10 h12 => ?_) (fun y1 M1 e1 q1 h3 y5 M5 e5 q5 y7 M7 e7 q7 h9 h10 h12 => ?_) (fun y1 M1 e1 q1 h3 y5 M5 e5 q5 y7 M7 e7 q7 h9 h10 h12 => ?_) (fun y1 M1 e1 q1 h3 y5 M5 e5 q5 y7 M7 e7 q7 h9 => ?_)
  · rcases q1 with ⟨-, q, -⟩ | ⟨q, -, rfl⟩
    · exact absurd (q.symm.trans h3) z1
    · exact ⟨rfl, rfl, _, rfl, Or.inl ⟨by rw [perO, if_neg q], rfl⟩, rfl⟩
  all_goals
    obtain ⟨hx, -, rfl⟩ : inN H.pe x ∧ y1 = 1 ∧ M1 = M0w M := by
      rcases q1 with q | ⟨-, q, -⟩
      · exact q
      · exact absurd q h3
    obtain ⟨rfl, q5⟩ := q5
  · exact rgh_c hl0 hR
  all_goals
    have g5 : y5 = 0 ∨ (¬ y5 = 0 ∧ inN 3 y) := q5.elim (fun q => Or.inr ⟨by rw [q.1]; exact z1, q.2⟩) (fun q => Or.inl q.1)
  · obtain ⟨-, -, rfl⟩ : ¬ y5 = 0 ∧ y7 = 1 ∧ M7 = M0w M := q7.elim id (fun q => absurd q.2.1 h9)
    have hy : y = Int32.ofInt 2 := by
      rcases q7 with q7 | q7
      · have h := (g5.resolve_left q7.1).2
        have l3 := inN_lt h
        rw [inN_eq h] at h10 ⊢
        rw [show (Int32.ofInt 2 : Int32) = nI 2 by decide] at h10 ⊢
        rw [nI_leI (by decide) (by omega)] at h10
        rw [show y.toNatClampNeg = 2 by omega]
      · exact absurd q7.2.1 h9
    exact loop hx hy H.wo 0 (by omega)
  · exact inN_vp hx hp6 (by decide)
  · obtain ⟨q5', -, rfl⟩ : ¬ y5 = 0 ∧ y7 = 1 ∧ M7 = M0w M := q7.elim id (fun q => absurd q.2.1 h9)
    have hy : y = Int32.ofInt 1 := by
      have h := (g5.resolve_left q5').2
      have l3 := inN_lt h
      rw [inN_eq h] at h10 h12 ⊢
      rw [show (Int32.ofInt 2 : Int32) = nI 2 by decide, nI_leI (by decide) (by omega)] at h10
      have n0 : ¬ y.toNatClampNeg = 0 := fun e => h12 (by rw [e]; rfl)
      rw [show y.toNatClampNeg = 1 by omega]
      rfl
    refine ⟨rfl, rfl, _, rfl, Or.inr ⟨_, ?_, rfl, rfl⟩, rfl⟩
    rw [perO, if_pos hx, if_neg (by rw [hy]; decide), if_pos hy]
    exact congrArg some (a6 _ (inN_lt hx)).symm
  · exact inN_vp hx hp6 (by decide)
  · obtain ⟨q5', -, rfl⟩ : ¬ y5 = 0 ∧ y7 = 1 ∧ M7 = M0w M := q7.elim id (fun q => absurd q.2.1 h9)
    have hy : y = Int32.ofInt 0 := h12
    refine ⟨rfl, rfl, _, rfl, Or.inr ⟨_, ?_, rfl, rfl⟩, rfl⟩
    rw [perO, if_pos hx, if_pos hy]
    exact congrArg some (a5 _ (inN_lt hx)).symm
  · obtain ⟨q5', -, rfl⟩ : y5 = 0 ∧ y7 = 0 ∧ M7 = M1w M := q7.elim (fun q => absurd (q.2.1.symm.trans h9) z1) id
    have hy : ¬ inN 3 y := q5.elim (fun q => absurd (q.1.symm.trans q5') z1) (fun q => q.2)
    refine ⟨rfl, rfl, _, rfl, Or.inl ⟨?_, rfl⟩, rfl⟩
    have n0 : ∀ j : Nat, j < 3 → ¬ y = nI j := fun j hj e => hy (by
      rw [e]
      unfold inN
      rw [nI_toInt (by omega)]
      omega)
    rw [perO, if_pos hx, if_neg (show ¬ y = Int32.ofInt 0 from n0 0 (by decide)), if_neg (show ¬ y = Int32.ofInt 1 from n0 1 (by decide)), if_neg (show ¬ y = Int32.ofInt 2 from n0 2 (by decide))]
theorem mwo_c (hl0 : l.1.stackTraces = false) (hR : ∀ e ∈ RM, M.2.2 e.1 e.2.1 = e.2.2) (hI : HI H) (hm : mHo H M) : AC l (pI pg 198) (fcI M (QO (worO H x y) M)) 0 0 [.ref 58, .int x, .int y] SHF M := by
  have hp6 := hI.pe
  have hw8 := hI.wo
  obtain ⟨a1, a2, a3, a4, a5, a6, a7, a8, a9, a10⟩ := hm
  have z1 : ¬ (1 : Int32) = 0 := by decide
  refine fw_of hl0 ⟨by decide +kernel, by decide +kernel, by decide +kernel⟩ rfl ?_
  have loop : inN H.wo x → y = Int32.ofInt 2 → ∀ (d k : Nat), k + d = H.pe → AW l (pI pg 198) (fcI M (QO (worO H x y) M)) 0 0 59 [(4, .int (nI k)), (3, .int (nI (bF (fun i => decide (0 < H.sk (8 * i + x.toNatClampNeg))) k))), (2, .int y), (1, .int x), (0, .ref 58)] [] SHF (M0w M) := by
    intro hx hy d
    have lx := inN_lt hx
    have wo : (M0w M).1 58 1 = nI H.pe := a1
    induction d with
    | zero =>
      intro k hk
      have no : ¬ ¬ (M0w M).1 58 1 ≤ nI k := fun h => h (by rw [wo, nI_leI (by omega) (by omega)]; omega)
      refine mwo_59 hR (fun _ => ⟨rfl, rfl, _, rfl, Or.inr ⟨_, ?_, rfl, rfl⟩, rfl⟩) (fun h => absurd h no) (fun h => absurd h no) (fun h => absurd h no)
      rw [show k = H.pe by omega, dr_bits hI lx, worO, if_pos hx, if_neg (by rw [hy]; decide), if_neg (by rw [hy]; decide), if_pos hy]
    | succ d ih =>
      intro k hk
      have yes : ¬ (M0w M).1 58 1 ≤ nI k := by rw [wo, nI_leI (by omega) (by omega)]; omega
      have b8 := bF_lt (g := fun i => decide (0 < H.sk (8 * i + x.toNatClampNeg))) k
      have p8 : 2 ^ k ≤ 2 ^ 8 := Nat.pow_le_pow_right (by decide) (by omega)
      have ei : (Int8.ofInt 8).toInt32 * nI k + x = nI (8 * k + x.toNatClampNeg) := by
        conv => lhs; rw [inN_eq hx]
        rw [show (Int8.ofInt 8).toInt32 = nI 8 by decide, nI_mulN, nI_add]
      have ec : (M0w M).1 63 ((Int8.ofInt 8).toInt32 * nI k + x).toNatClampNeg = nI (H.sk (8 * k + x.toNatClampNeg)) := by
        rw [ei, nI_clamp (by omega)]
        exact a9 k _ (by omega) lx
      have sk9 := (hI.sk k x.toNatClampNeg (by omega) (by omega)).1
      refine mwo_59 hR (fun h => absurd h yes) (fun _ => ?_) (fun _ h4 => ?_) (fun _ h4 => ?_)
      · rw [ei]
        exact vp_in_nI (by omega) (by decide)
      · rw [ec, pos_iff (by omega)] at h4
        have e : bF (fun i => decide (0 < H.sk (8 * i + x.toNatClampNeg))) (k + 1) = bF (fun i => decide (0 < H.sk (8 * i + x.toNatClampNeg))) k := if_neg (by rw [decide_eq_true_eq]; exact h4)
        have := ih (k + 1) (by omega)
        rw [e] at this
        rw [or_zero (by omega), show nI k + Int32.ofInt 1 = nI (k + 1) from nI_1 _]
        exact this
      · rw [ec, pos_iff (by omega), Decidable.not_not] at h4
        have e : bF (fun i => decide (0 < H.sk (8 * i + x.toNatClampNeg))) (k + 1) = bF (fun i => decide (0 < H.sk (8 * i + x.toNatClampNeg))) k ||| 2 ^ k := if_pos (by rw [decide_eq_true_eq]; exact h4)
        have := ih (k + 1) (by omega)
        rw [e] at this
        rw [or_step (b := true) (by omega) (by omega), show nI k + Int32.ofInt 1 = nI (k + 1) from nI_1 _]
        exact this
  refine mwo_0 hR _ (isw_c hl0 hR (by omega) a2) (fun y1 M1 e1 q1 h3 => ?_) (fun _ M1 z M' => M' = M1 ∧ ((z = 1 ∧ inN 3 y) ∨ (z = 0 ∧ ¬ inN 3 y))) (fun y1 M1 e1 q1 h3 => wit_c (m := 2) hl0 (by decide) (by decide)) (fun _ M1 y5 M5 z M' => (¬ y5 = 0 ∧ z = 1 ∧ M' = M0w M) ∨ (y5 = 0 ∧ z = 0 ∧ M' = M1w M)) (fun y1 M1 e1 q1 h3 y5 M5 e5 q5 => ?_) (fun y1 M1 e1 q1 h3 y5 M5 e5 q5 y7 M7 e7 q7 h9 h10 => ?_) (fun y1 M1 e1 q1 h3 y5 M5 e5 q5 y7 M7 e7 q7 h9 h10 h12 => ?_) (fun y1 M1 e1 q1 h3 y5 M5 e5 q5 y7 M7 e7 q7 h9 h10 h12 => ?_) (fun y1 M1 e1 q1 h3 y5 M5 e5 q5 y7 M7 e7 q7 h9 h10 h12 => ?_) (fun y1 M1 e1 q1 h3 y5 M5 e5 q5 y7 M7 e7 q7 h9 h10 h12 => ?_) (fun y1 M1 e1 q1 h3 y5 M5 e5 q5 y7 M7 e7 q7 h9 => ?_)
  · rcases q1 with ⟨-, q, -⟩ | ⟨q, -, rfl⟩
    · exact absurd (q.symm.trans h3) z1
    · exact ⟨rfl, rfl, _, rfl, Or.inl ⟨by rw [worO, if_neg q], rfl⟩, rfl⟩
  all_goals
    obtain ⟨hx, -, rfl⟩ : inN H.wo x ∧ y1 = 1 ∧ M1 = M0w M := by
      rcases q1 with q | ⟨-, q, -⟩
      · exact q
      · exact absurd q h3
    obtain ⟨rfl, q5⟩ := q5
  · exact rgh_c hl0 hR
  all_goals
    have g5 : y5 = 0 ∨ (¬ y5 = 0 ∧ inN 3 y) := q5.elim (fun q => Or.inr ⟨by rw [q.1]; exact z1, q.2⟩) (fun q => Or.inl q.1)
  · obtain ⟨-, -, rfl⟩ : ¬ y5 = 0 ∧ y7 = 1 ∧ M7 = M0w M := q7.elim id (fun q => absurd q.2.1 h9)
    have hy : y = Int32.ofInt 2 := by
      rcases q7 with q7 | q7
      · have h := (g5.resolve_left q7.1).2
        have l3 := inN_lt h
        rw [inN_eq h] at h10 ⊢
        rw [show (Int32.ofInt 2 : Int32) = nI 2 by decide] at h10 ⊢
        rw [nI_leI (by decide) (by omega)] at h10
        rw [show y.toNatClampNeg = 2 by omega]
      · exact absurd q7.2.1 h9
    exact loop hx hy H.pe 0 (by omega)
  · exact inN_vp hx hw8 (by decide)
  · obtain ⟨q5', -, rfl⟩ : ¬ y5 = 0 ∧ y7 = 1 ∧ M7 = M0w M := q7.elim id (fun q => absurd q.2.1 h9)
    have hy : y = Int32.ofInt 1 := by
      have h := (g5.resolve_left q5').2
      have l3 := inN_lt h
      rw [inN_eq h] at h10 h12 ⊢
      rw [show (Int32.ofInt 2 : Int32) = nI 2 by decide, nI_leI (by decide) (by omega)] at h10
      have n0 : ¬ y.toNatClampNeg = 0 := fun e => h12 (by rw [e]; rfl)
      rw [show y.toNatClampNeg = 1 by omega]
      rfl
    refine ⟨rfl, rfl, _, rfl, Or.inr ⟨_, ?_, rfl, rfl⟩, rfl⟩
    rw [worO, if_pos hx, if_neg (by rw [hy]; decide), if_pos hy]
    exact congrArg some (a8 _ (inN_lt hx)).symm
  · exact inN_vp hx hw8 (by decide)
  · obtain ⟨q5', -, rfl⟩ : ¬ y5 = 0 ∧ y7 = 1 ∧ M7 = M0w M := q7.elim id (fun q => absurd q.2.1 h9)
    have hy : y = Int32.ofInt 0 := h12
    refine ⟨rfl, rfl, _, rfl, Or.inr ⟨_, ?_, rfl, rfl⟩, rfl⟩
    rw [worO, if_pos hx, if_pos hy]
    exact congrArg some (a7 _ (inN_lt hx)).symm
  · obtain ⟨q5', -, rfl⟩ : y5 = 0 ∧ y7 = 0 ∧ M7 = M1w M := q7.elim (fun q => absurd (q.2.1.symm.trans h9) z1) id
    have hy : ¬ inN 3 y := q5.elim (fun q => absurd (q.1.symm.trans q5') z1) (fun q => q.2)
    refine ⟨rfl, rfl, _, rfl, Or.inl ⟨?_, rfl⟩, rfl⟩
    have n0 : ∀ j : Nat, j < 3 → ¬ y = nI j := fun j hj e => hy (by
      rw [e]
      unfold inN
      rw [nI_toInt (by omega)]
      omega)
    rw [worO, if_pos hx, if_neg (show ¬ y = Int32.ofInt 0 from n0 0 (by decide)), if_neg (show ¬ y = Int32.ofInt 1 from n0 1 (by decide)), if_neg (show ¬ y = Int32.ofInt 2 from n0 2 (by decide))]
theorem msk_c (hl0 : l.1.stackTraces = false) (hR : ∀ e ∈ RM, M.2.2 e.1 e.2.1 = e.2.2) (hI : HI H) (hm : mHo H M) : AC l (pI pg 200) (fcI M (QO (skiO H x y) M)) 0 0 [.ref 58, .int x, .int y] SHF M := by
  have hp6 := hI.pe
  have hw8 := hI.wo
  obtain ⟨a1, a2, a3, a4, a5, a6, a7, a8, a9, a10⟩ := hm
  have z1 : ¬ (1 : Int32) = 0 := by decide
  refine fw_of hl0 ⟨by decide +kernel, by decide +kernel, by decide +kernel⟩ rfl ?_
  refine msk_0 hR _ (isp_c hl0 hR (by omega) a1) (fun y1 M1 e1 q1 h3 => ?_) (fun _ M1 z M' => (inN H.wo y ∧ z = 1 ∧ M' = M0w M) ∨ (¬ inN H.wo y ∧ z = 0 ∧ M' = M1w M)) (fun y1 M1 e1 q1 h3 => ?_) (fun y1 M1 e1 q1 h3 y5 M5 e5 q5 h7 => ?_) (fun y1 M1 e1 q1 h3 y5 M5 e5 q5 h7 => ?_) (fun y1 M1 e1 q1 h3 y5 M5 e5 q5 h7 => ?_)
  · rcases q1 with ⟨-, q, -⟩ | ⟨q, -, rfl⟩
    · exact absurd (q.symm.trans h3) z1
    · exact ⟨rfl, rfl, _, rfl, Or.inl ⟨by rw [skiO, if_neg q], rfl⟩, rfl⟩
  all_goals
    obtain ⟨hx, -, rfl⟩ : inN H.pe x ∧ y1 = 1 ∧ M1 = M0w M := by
      rcases q1 with q | ⟨-, q, -⟩
      · exact q
      · exact absurd q h3
  · exact isw_c hl0 hR (by omega) a2
  · rcases q5 with ⟨-, q, -⟩ | ⟨q, -, rfl⟩
    · exact absurd (q.symm.trans h7) z1
    · exact ⟨rfl, rfl, _, rfl, Or.inl ⟨by rw [skiO, if_pos hx, if_neg q], rfl⟩, rfl⟩
  all_goals
    obtain ⟨hy, -, rfl⟩ : inN H.wo y ∧ y5 = 1 ∧ M5 = M0w M := by
      rcases q5 with q | ⟨-, q, -⟩
      · exact q
      · exact absurd q h7
    have l1 := inN_lt hx
    have l2 := inN_lt hy
    rw [mul8' hx hy hp6 hw8]
  · exact vp_in_nI (by omega) (by decide)
  · rw [nI_clamp (by omega)]
    refine ⟨rfl, rfl, _, rfl, Or.inr ⟨_, ?_, rfl, rfl⟩, rfl⟩
    rw [skiO, if_pos hx, if_pos hy]
    exact congrArg some (a9 _ _ l1 l2).symm
theorem mte_c (hl0 : l.1.stackTraces = false) (hR : ∀ e ∈ RM, M.2.2 e.1 e.2.1 = e.2.2) (hI : HI H) (hm : mHo H M) : AC l (pI pg 201) (fcI M (QO (teaO H x y) M)) 0 0 [.ref 58, .int x, .int y] SHF M := by
  have ht8 := hI.te
  obtain ⟨a1, a2, a3, a4, a5, a6, a7, a8, a9, a10⟩ := hm
  have z1 : ¬ (1 : Int32) = 0 := by decide
  have o0 : ¬ ¬ (Int32.ofInt 0 : Int32) = 0 := fun h => h (by decide)
  have o1 : ¬ (Int32.ofInt 1 : Int32) = 0 := by decide
  have a3 : (aset M 58 0 (.int (Int32.ofInt 0))).1 58 3 = nI H.te := a3
  refine fw_of hl0 ⟨by decide +kernel, by decide +kernel, by decide +kernel⟩ rfl ?_
  have bad : ∀ {z : Int32} {M2 : aM}, ¬ inN H.te x ∨ ¬ inN 4 y → M2 = M1w M → fcI M (QO (teaO H x y) M) (.inl (some (.int z))) SHF M2 := fun {z M2} h e => by
    subst e
    refine ⟨rfl, rfl, _, rfl, Or.inl ⟨?_, rfl⟩, rfl⟩
    by_cases hx : inN H.te x
    · have hy := h.resolve_left (fun g => g hx)
      have n0 : ∀ j : Nat, j < 4 → ¬ y = nI j := fun j hj e => hy (by
        rw [e]
        unfold inN
        rw [nI_toInt (by omega)]
        omega)
      rw [teaO, if_pos hx, if_neg (show ¬ y = Int32.ofInt 0 from n0 0 (by decide)), if_neg (show ¬ y = Int32.ofInt 1 from n0 1 (by decide)), if_neg (show ¬ y = Int32.ofInt 2 from n0 2 (by decide)), if_neg (show ¬ y = Int32.ofInt 3 from n0 3 (by decide))]
    · rw [teaO, if_neg hx]
  have nx : ¬ x < 0 → ¬ (aset M 58 0 (.int (Int32.ofInt 0))).1 58 3 ≤ x → inN H.te x := fun h1 h2 => Decidable.byContradiction fun h => ((inN_no (by omega)).mp h).elim h1 (fun g => h2 (by rw [a3]; exact g))
  have xx : inN H.te x → inN 4 y → Int32.ofInt 4 * x + y = nI (4 * x.toNatClampNeg + y.toNatClampNeg) := fun hx hy => by
    conv => lhs; rw [inN_eq hx, inN_eq hy]
    rw [show (Int32.ofInt 4 : Int32) = nI 4 by decide, nI_mulN, nI_add]
  have Qr : ∀ {b : Int32}, AC l (pI pg 175) (fcI (M0w M) (fun z M' => (¬ b = 0 ∧ z = 1 ∧ M' = M0w M) ∨ (b = 0 ∧ z = 0 ∧ M' = M1w M))) 0 0 [.ref 58, .int b, .int (Int32.ofInt 1)] SHF (M0w M) := rgh_c hl0 hR
  refine mte_0 hR _ (fun _ => Qr) (fun h1 y2 M2 e2 q2 h4 => ?_) (fun h1 y2 M2 e2 q2 h4 => ?_) (fun h1 y2 M2 e2 q2 h4 => ?_) _ (fun _ _ => Qr) (fun h1 h8 y9 M9 e9 q9 h11 => ?_) (fun h1 h8 y9 M9 e9 q9 h11 => ?_) (fun h1 h8 y9 M9 e9 q9 h11 => ?_) _ (fun h1 h8 => wit_c (m := 3) hl0 (by decide) (by decide)) (fun _ _ z M' => (¬ (Int32.ofInt 0 : Int32) = 0 ∧ z = 1 ∧ M' = M0w M) ∨ ((Int32.ofInt 0 : Int32) = 0 ∧ z = 0 ∧ M' = M1w M)) (fun h1 h8 y15 M15 e15 q15 h17 => ?_) (fun h1 h8 y15 M15 e15 q15 h17 y18 M18 e18 q18 h20 => ?_) (fun h1 h8 y15 M15 e15 q15 h17 y18 M18 e18 q18 h20 => ?_) (fun h1 h8 y15 M15 e15 q15 h17 y18 M18 e18 q18 h20 => ?_) (fun _ _ z M' => (¬ (Int32.ofInt 1 : Int32) = 0 ∧ z = 1 ∧ M' = M0w M) ∨ ((Int32.ofInt 1 : Int32) = 0 ∧ z = 0 ∧ M' = M1w M)) (fun h1 h8 y15 M15 e15 q15 h17 => ?_) (fun h1 h8 y15 M15 e15 q15 h17 y24 M24 e24 q24 h26 => ?_) (fun h1 h8 y15 M15 e15 q15 h17 y24 M24 e24 q24 h26 => ?_) (fun h1 h8 y15 M15 e15 q15 h17 y24 M24 e24 q24 h26 => ?_)
  · exact bad (Or.inl ((inN_no (by omega)).mpr (Or.inl h1))) (q2.elim (fun q => absurd q.1 o0) (fun q => q.2.2))
  · exact absurd (q2.elim (fun q => absurd q.1 o0) (fun q => q.2.1)) h4
  · exact absurd (q2.elim (fun q => absurd q.1 o0) (fun q => q.2.1)) h4
  · exact bad (Or.inl ((inN_no (by omega)).mpr (Or.inr (by rw [← a3]; exact h8)))) (q9.elim (fun q => absurd q.1 o0) (fun q => q.2.2))
  · exact absurd (q9.elim (fun q => absurd q.1 o0) (fun q => q.2.1)) h11
  · exact absurd (q9.elim (fun q => absurd q.1 o0) (fun q => q.2.1)) h11
  · obtain ⟨rfl, -⟩ := q15
    exact Qr
  · exact bad (Or.inr (q15.2.elim (fun q => absurd (q.1.symm.trans h17) z1) (fun q => q.2))) (q18.elim (fun q => absurd q.1 o0) (fun q => q.2.2))
  · exact absurd (q18.elim (fun q => absurd q.1 o0) (fun q => q.2.1)) h20
  · exact absurd (q18.elim (fun q => absurd q.1 o0) (fun q => q.2.1)) h20
  · obtain ⟨rfl, -⟩ := q15
    exact Qr
  · exact absurd (q24.elim (fun q => q.2.1.symm.trans h26) (fun q => absurd q.1 o1)) z1
  all_goals
    have hx := nx h1 h8
    have hy : inN 4 y := q15.2.elim (fun q => q.2) (fun q => absurd q.1 h17)
    have l1 := inN_lt hx
    have l2 := inN_lt hy
    rw [xx hx hy]
  · exact vp_in_nI (by omega) (by decide)
  · obtain ⟨-, -, rfl⟩ : ¬ (Int32.ofInt 1 : Int32) = 0 ∧ y24 = 1 ∧ M24 = M0w M := q24.elim id (fun q => absurd q.1 o1)
    rw [nI_clamp (by omega)]
    refine ⟨rfl, rfl, _, rfl, Or.inr ⟨_, ?_, rfl, rfl⟩, rfl⟩
    have a := a10 _ l1
    have hc : y.toNatClampNeg = 0 ∨ y.toNatClampNeg = 1 ∨ y.toNatClampNeg = 2 ∨ y.toNatClampNeg = 3 := by omega
    rw [teaO, if_pos hx]
    rcases hc with e | e | e | e
    · rw [if_pos (by rw [inN_eq hy, e]; rfl), e]
      exact congrArg some a.1.symm
    · rw [if_neg (by rw [inN_eq hy, e]; decide), if_pos (by rw [inN_eq hy, e]; rfl), e]
      exact congrArg some a.2.1.symm
    · rw [if_neg (by rw [inN_eq hy, e]; decide), if_neg (by rw [inN_eq hy, e]; decide), if_pos (by rw [inN_eq hy, e]; rfl), e]
      exact congrArg some a.2.2.1.symm
    · rw [if_neg (by rw [inN_eq hy, e]; decide), if_neg (by rw [inN_eq hy, e]; decide), if_neg (by rw [inN_eq hy, e]; decide), if_pos (by rw [inN_eq hy, e]; rfl), e]
      exact congrArg some a.2.2.2.symm
theorem fau_c (hl0 : l.1.stackTraces = false) {kc ks : Nat} : AC l (pI pg 26) (fcI M (fun z M' => z = M.1 0 13 ∧ M' = M)) kc ks [.ref 0] SHF M := by
  refine fw_of hl0 ⟨by decide +kernel, by decide +kernel, by decide +kernel⟩ rfl ?_
  exact fau_0 ⟨rfl, rfl, _, rfl, rfl, rfl⟩
theorem mfa_c (hl0 : l.1.stackTraces = false) (hR : ∀ e ∈ RM, M.2.2 e.1 e.2.1 = e.2.2) : AC l (pI pg 193) (fcI M (fun z M' => z = M.1 58 14 ∧ M' = M0w M)) 0 0 [.ref 58] SHF M := by
  refine fw_of hl0 ⟨by decide +kernel, by decide +kernel, by decide +kernel⟩ rfl ?_
  exact mfa_0 hR ⟨rfl, rfl, _, rfl, rfl, rfl⟩
end TELC
