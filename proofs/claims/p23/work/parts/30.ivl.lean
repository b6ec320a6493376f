/-! intervals of ints -/
abbrev iI : Type := Int × Int
def inI (x : Int32) (q : iI) : Prop := q.1 ≤ x.toInt ∧ x.toInt ≤ q.2
def fullI : iI := (-2147483648, 2147483647)
theorem lo_i (x : Int32) : -2147483648 ≤ x.toInt := Int32.le_toInt x
theorem hi_i (x : Int32) : x.toInt ≤ 2147483647 := by
  have := Int32.toInt_lt x
  omega
theorem in_full (x : Int32) : inI x fullI := ⟨lo_i x, hi_i x⟩
theorem bm32 {v : Int} (h1 : -2147483648 ≤ v) (h2 : v ≤ 2147483647) : v.bmod (2 ^ 32) = v := Int.bmod_eq_of_le (by simp; omega) (by simp; omega)
/-- a computed interval, or all -/
def clip (l h : Int) : iI := bif decide (-2147483648 ≤ l) && decide (h ≤ 2147483647) then (l, h) else fullI
theorem clip_ok {x : Int32} {v l h : Int} (e : x.toInt = v.bmod (2 ^ 32)) (h1 : l ≤ v) (h2 : v ≤ h) : inI x (clip l h) := by
  unfold clip
  cases hb : (decide (-2147483648 ≤ l) && decide (h ≤ 2147483647)) with
  | false => exact in_full x
  | true =>
    simp only [Bool.and_eq_true, decide_eq_true_eq] at hb
    rw [bm32 (by omega) (by omega)] at e
    exact ⟨by show l ≤ _; omega, by show _ ≤ h; omega⟩
/-- did it stay within: then the value itself is known -/
def clipB (l h : Int) : Bool := decide (-2147483648 ≤ l) && decide (h ≤ 2147483647)
theorem clipB_ok {x : Int32} {v l h : Int} (e : x.toInt = v.bmod (2 ^ 32)) (h1 : l ≤ v) (h2 : v ≤ h) (hb : clipB l h = true) : x.toInt = v := by
  simp only [clipB, Bool.and_eq_true, decide_eq_true_eq] at hb
  rw [bm32 (by omega) (by omega)] at e
  exact e
def oAdd (a b : iI) : iI := clip (a.1 + b.1) (a.2 + b.2)
def oSub (a b : iI) : iI := clip (a.1 - b.2) (a.2 - b.1)
def oMul (a b : iI) : iI := bif decide (0 ≤ a.1) && decide (0 ≤ b.1) then clip (a.1 * b.1) (a.2 * b.2) else fullI
def oAnd (a b : iI) : iI := bif decide (0 ≤ a.1) then (bif decide (0 ≤ b.1) then (0, bif decide (a.2 ≤ b.2) then a.2 else b.2) else (0, a.2)) else (bif decide (0 ≤ b.1) then (0, b.2) else fullI)
def upP (h : Int) : Int := ((2 ^ (h.toNat.log2 + 1) - 1 : Nat) : Int)
def oOr (a b : iI) : iI := bif decide (0 ≤ a.1) && decide (0 ≤ b.1) then (0, bif decide (a.2 ≤ b.2) then upP b.2 else upP a.2) else fullI
def oShl (a b : iI) : iI := bif decide (0 ≤ a.1) && (decide (0 ≤ b.1) && decide (b.2 ≤ 31)) then clip (a.1 * ((2 ^ b.1.toNat : Nat) : Int)) (a.2 * ((2 ^ b.2.toNat : Nat) : Int)) else fullI
def oShr (a _b : iI) : iI := bif decide (0 ≤ a.1) then (0, a.2) else fullI
def oDiv (a b : iI) : iI := bif decide (0 ≤ a.1) && decide (1 ≤ b.1) then (0, a.2) else fullI
def oRem (a b : iI) : iI := bif decide (0 ≤ a.1) && decide (1 ≤ b.1) then (0, bif decide (a.2 ≤ b.2 - 1) then a.2 else b.2 - 1) else fullI
theorem add_in {x y : Int32} {a b : iI} (hx : inI x a) (hy : inI y b) : inI (x + y) (oAdd a b) := clip_ok (Int32.toInt_add x y) (by have := hx.1; have := hy.1; omega) (by have := hx.2; have := hy.2; omega)
theorem sub_in {x y : Int32} {a b : iI} (hx : inI x a) (hy : inI y b) : inI (x - y) (oSub a b) := clip_ok (Int32.toInt_sub x y) (by have := hx.1; have := hy.2; omega) (by have := hx.2; have := hy.1; omega)
theorem mul_in {x y : Int32} {a b : iI} (hx : inI x a) (hy : inI y b) : inI (x * y) (oMul a b) := by
  unfold oMul
  cases hb : (decide (0 ≤ a.1) && decide (0 ≤ b.1)) with
  | false => exact in_full _
  | true =>
    simp only [Bool.and_eq_true, decide_eq_true_eq] at hb
    have hx1 := hx.1
    have hx2 := hx.2
    have hy1 := hy.1
    have hy2 := hy.2
    exact clip_ok (Int32.toInt_mul x y) (Int.mul_le_mul hx1 hy1 hb.2 (by omega)) (Int.mul_le_mul hx2 hy2 (by omega) (by omega))
theorem nn_nat {x : Int32} (h : 0 ≤ x.toInt) : x.toInt = (x.toBitVec.toNat : Int) ∧ x.toBitVec.toNat < 2147483648 := by
  have e : x.toInt = x.toBitVec.toInt := rfl
  have hl : x.toBitVec.toNat < 2 ^ 32 := x.toBitVec.isLt
  rw [BitVec.toInt_eq_toNat_cond] at e
  split at e
  · next h1 => exact ⟨e, by omega⟩
  · next h1 =>
      exfalso
      omega
theorem of_nat {x : Int32} (h : x.toBitVec.toNat < 2147483648) : x.toInt = (x.toBitVec.toNat : Int) := by
  have e : x.toInt = x.toBitVec.toInt := rfl
  rw [e, BitVec.toInt_eq_toNat_cond, if_pos (by omega)]
theorem and_le {x y : Int32} (h : 0 ≤ x.toInt) : 0 ≤ (x &&& y).toInt ∧ (x &&& y).toInt ≤ x.toInt := by
  obtain ⟨e1, e2⟩ := nn_nat h
  have e3 : (x &&& y).toBitVec.toNat = x.toBitVec.toNat &&& y.toBitVec.toNat := by rw [Int32.toBitVec_and, BitVec.toNat_and]
  have e4 : x.toBitVec.toNat &&& y.toBitVec.toNat ≤ x.toBitVec.toNat := Nat.and_le_left
  have e5 := of_nat (x := x &&& y) (by rw [e3]; omega)
  rw [e5, e1, e3]
  omega
theorem and_comm' (x y : Int32) : x &&& y = y &&& x := by
  apply Int32.toBitVec_inj.mp
  rw [Int32.toBitVec_and, Int32.toBitVec_and, BitVec.and_comm]
theorem and_in {x y : Int32} {a b : iI} (hx : inI x a) (hy : inI y b) : inI (x &&& y) (oAnd a b) := by
  have hx1 := hx.1
  have hx2 := hx.2
  have hy1 := hy.1
  have hy2 := hy.2
  unfold oAnd
  cases h1 : decide (0 ≤ a.1) with
  | true =>
    have h1 := of_decide_eq_true h1
    have g1 := and_le (x := x) (y := y) (by omega)
    cases h2 : decide (0 ≤ b.1) with
    | true =>
      have h2 := of_decide_eq_true h2
      have g2 := and_le (x := y) (y := x) (by omega)
      rw [and_comm' y x] at g2
      cases h3 : decide (a.2 ≤ b.2) with
      | true => exact ⟨g1.1, by show _ ≤ a.2; omega⟩
      | false => exact ⟨g1.1, by show _ ≤ b.2; omega⟩
    | false => exact ⟨g1.1, by show _ ≤ a.2; omega⟩
  | false =>
    cases h2 : decide (0 ≤ b.1) with
    | true =>
      have h2 := of_decide_eq_true h2
      have g2 := and_le (x := y) (y := x) (by omega)
      rw [and_comm' y x] at g2
      exact ⟨g2.1, by show _ ≤ b.2; omega⟩
    | false => exact in_full _
theorem up_lt {n : Nat} {h : Int} (hn : (n : Int) ≤ h) : n < 2 ^ (h.toNat.log2 + 1) := by
  have h1 : n ≤ h.toNat := by omega
  exact Nat.lt_of_le_of_lt h1 Nat.lt_log2_self
theorem or_up {x : Int32} {n : Nat} (h : x.toBitVec.toNat < 2 ^ n) : inI x (0, ((2 ^ n - 1 : Nat) : Int)) ∨ ¬ n ≤ 31 := by
  by_cases hn : n ≤ 31
  · have h1 : (2 : Nat) ^ n ≤ 2 ^ 31 := Nat.pow_le_pow_right (by decide) hn
    have e := of_nat (x := x) (by omega)
    refine Or.inl ⟨by show (0 : Int) ≤ _; omega, ?_⟩
    show x.toInt ≤ _
    rw [e]
    omega
  · exact Or.inr hn
theorem up_31 {h : Int} (h1 : 0 ≤ h) (h2 : h ≤ 2147483647) : h.toNat.log2 + 1 ≤ 31 := by
  by_cases h0 : h.toNat = 0
  · rw [h0]
    decide
  · have := (Nat.log2_lt (k := 31) h0).mpr (by omega)
    omega
theorem bits_in {x y z : Int32} {a b : iI} (hx : inI x a) (hy : inI y b) (hz : ∀ n, x.toBitVec.toNat < 2 ^ n → y.toBitVec.toNat < 2 ^ n → z.toBitVec.toNat < 2 ^ n) : inI z (oOr a b) := by
  have hx1 := hx.1
  have hx2 := hx.2
  have hy1 := hy.1
  have hy2 := hy.2
  have hxx := hi_i x
  have hyy := hi_i y
  unfold oOr
  cases hb : (decide (0 ≤ a.1) && decide (0 ≤ b.1)) with
  | false => exact in_full _
  | true =>
    simp only [Bool.and_eq_true, decide_eq_true_eq] at hb
    obtain ⟨e1, e2⟩ := nn_nat (x := x) (by omega)
    obtain ⟨e3, e4⟩ := nn_nat (x := y) (by omega)
    have key : ∀ h : Int, x.toInt ≤ h → y.toInt ≤ h → inI z (0, upP h) := by
      intro h g1 g2
      by_cases gh : h ≤ 2147483647
      · have g3 := hz (h.toNat.log2 + 1) (up_lt (by omega)) (up_lt (by omega))
        rcases or_up g3 with g | g
        · exact g
        · exact absurd (up_31 (by omega) gh) g
      · have g3 := hz 31 (by omega) (by omega)
        have e5 := of_nat (x := z) (by omega)
        have g4 : (2147483648 : Nat) ≤ 2 ^ (h.toNat.log2 + 1) := Nat.le_of_lt (Nat.lt_of_le_of_lt (by omega : 2147483648 ≤ h.toNat) Nat.lt_log2_self)
        refine ⟨by show (0 : Int) ≤ _; omega, ?_⟩
        show z.toInt ≤ ((2 ^ (h.toNat.log2 + 1) - 1 : Nat) : Int)
        omega
    cases h3 : decide (a.2 ≤ b.2) with
    | true =>
      have h3 := of_decide_eq_true h3
      exact key b.2 (by omega) (by omega)
    | false =>
      have h3 := of_decide_eq_false h3
      exact key a.2 (by omega) (by omega)
theorem or_in {x y : Int32} {a b : iI} (hx : inI x a) (hy : inI y b) : inI (x ||| y) (oOr a b) := bits_in hx hy (fun n h1 h2 => by rw [Int32.toBitVec_or, BitVec.toNat_or]; exact Nat.or_lt_two_pow h1 h2)
theorem xor_in {x y : Int32} {a b : iI} (hx : inI x a) (hy : inI y b) : inI (x ^^^ y) (oOr a b) := bits_in hx hy (fun n h1 h2 => by rw [Int32.toBitVec_xor, BitVec.toNat_xor]; exact Nat.xor_lt_two_pow h1 h2)
theorem am_k : ∀ k : Fin 32, ((((Int32.ofNat k.val) &&& 31).toBitVec).smod (32#32)).toNat = k.val := by decide +kernel
theorem am_y {y : Int32} (h1 : 0 ≤ y.toInt) (h2 : y.toInt ≤ 31) : (((y &&& 31).toBitVec).smod (32#32)).toNat = y.toInt.toNat := by
  have e : y = Int32.ofNat y.toInt.toNat := by
    apply Int32.toInt_inj.mp
    rw [Int32.toInt_ofNat_of_lt (by omega)]
    omega
  have h := am_k ⟨y.toInt.toNat, by omega⟩
  rw [← e] at h
  exact h
theorem shl_in {x y : Int32} {a b : iI} (hx : inI x a) (hy : inI y b) : inI (x <<< (y &&& 31)) (oShl a b) := by
  have hx1 := hx.1
  have hx2 := hx.2
  have hy1 := hy.1
  have hy2 := hy.2
  unfold oShl
  cases hb : (decide (0 ≤ a.1) && (decide (0 ≤ b.1) && decide (b.2 ≤ 31))) with
  | false => exact in_full _
  | true =>
    simp only [Bool.and_eq_true, decide_eq_true_eq] at hb
    obtain ⟨e1, e2⟩ := nn_nat (x := x) (by omega)
    have e : (x <<< (y &&& 31)).toInt = (x.toInt * ((2 ^ y.toInt.toNat : Nat) : Int)).bmod (2 ^ 32) := by
      show (x.toBitVec <<< ((y &&& 31).toBitVec.smod (32#32))).toInt = _
      rw [BitVec.shiftLeft_eq', am_y (by omega) (by omega), BitVec.toInt_shiftLeft, e1, Nat.shiftLeft_eq]
      simp
    have p1 : (2 : Nat) ^ b.1.toNat ≤ 2 ^ y.toInt.toNat := Nat.pow_le_pow_right (by decide) (by omega)
    have p2 : (2 : Nat) ^ y.toInt.toNat ≤ 2 ^ b.2.toNat := Nat.pow_le_pow_right (by decide) (by omega)
    exact clip_ok e (Int.mul_le_mul hx1 (Int.ofNat_le.mpr p1) (Int.natCast_nonneg _) (by omega)) (Int.mul_le_mul hx2 (Int.ofNat_le.mpr p2) (Int.natCast_nonneg _) (by omega))
theorem shr_in {x y : Int32} {a b : iI} (hx : inI x a) (_hy : inI y b) : inI (x >>> (y &&& 31)) (oShr a b) := by
  have hx1 := hx.1
  have hx2 := hx.2
  unfold oShr
  cases hb : decide (0 ≤ a.1) with
  | false => exact in_full _
  | true =>
    have hb := of_decide_eq_true hb
    have e : (x >>> (y &&& 31)).toInt = x.toInt >>> (((y &&& 31).toBitVec.smod (32#32)).toNat) := by
      show (BitVec.sshiftRight' x.toBitVec ((y &&& 31).toBitVec.smod (32#32))).toInt = _
      rw [BitVec.sshiftRight_eq', BitVec.toInt_sshiftRight]
      rfl
    generalize ((y &&& 31).toBitVec.smod (32#32)).toNat = n at e
    rw [Int.shiftRight_eq_div_pow] at e
    have h0 : 0 ≤ x.toInt := by omega
    have p : (0 : Int) < ((2 ^ n : Nat) : Int) := by
      have : 0 < 2 ^ n := Nat.two_pow_pos n
      omega
    refine ⟨?_, ?_⟩
    · show (0 : Int) ≤ _
      rw [e]
      exact Int.ediv_nonneg h0 (by omega)
    · show _ ≤ a.2
      rw [e]
      exact Int.le_trans (Int.ediv_le_self _ h0) hx2
theorem div_nn {x y : Int32} (h1 : 0 ≤ x.toInt) (h2 : 1 ≤ y.toInt) : (x / y).toInt = x.toInt / y.toInt := by
  have h3 := hi_i x
  have h4 : 0 ≤ x.toInt / y.toInt := Int.ediv_nonneg h1 (by omega)
  have h5 : x.toInt / y.toInt ≤ x.toInt := Int.ediv_le_self _ h1
  rw [Int32.toInt_div, Int.tdiv_eq_ediv_of_nonneg h1, bm32 (by omega) (by omega)]
theorem div_in {x y : Int32} {a b : iI} (hx : inI x a) (hy : inI y b) : inI (x / y) (oDiv a b) := by
  have hx1 := hx.1
  have hx2 := hx.2
  have hy1 := hy.1
  unfold oDiv
  cases hb : (decide (0 ≤ a.1) && decide (1 ≤ b.1)) with
  | false => exact in_full _
  | true =>
    simp only [Bool.and_eq_true, decide_eq_true_eq] at hb
    have e := div_nn (x := x) (y := y) (by omega) (by omega)
    have h4 : 0 ≤ x.toInt / y.toInt := Int.ediv_nonneg (by omega) (by omega)
    have h5 : x.toInt / y.toInt ≤ x.toInt := Int.ediv_le_self _ (by omega)
    exact ⟨by show (0 : Int) ≤ _; omega, by show _ ≤ a.2; omega⟩
theorem rem_in {x y : Int32} {a b : iI} (hx : inI x a) (hy : inI y b) : inI (x - x / y * y) (oRem a b) := by
  have hx1 := hx.1
  have hx2 := hx.2
  have hy1 := hy.1
  have hy2 := hy.2
  unfold oRem
  cases hb : (decide (0 ≤ a.1) && decide (1 ≤ b.1)) with
  | false => exact in_full _
  | true =>
    simp only [Bool.and_eq_true, decide_eq_true_eq] at hb
    have h0 : 0 ≤ x.toInt := by omega
    have h1 : 1 ≤ y.toInt := by omega
    have hh := hi_i x
    have e := div_nn h0 h1
    have h2 : 0 ≤ x.toInt % y.toInt := Int.emod_nonneg _ (by omega)
    have h3 : x.toInt % y.toInt < y.toInt := Int.emod_lt_of_pos _ (by omega)
    have h4 : y.toInt * (x.toInt / y.toInt) + x.toInt % y.toInt = x.toInt := Int.mul_ediv_add_emod _ _
    have h5 : (x / y * y).toInt = x.toInt / y.toInt * y.toInt := by
      have g : x.toInt / y.toInt * y.toInt = y.toInt * (x.toInt / y.toInt) := Int.mul_comm _ _
      have g0 : 0 ≤ x.toInt / y.toInt * y.toInt := Int.mul_nonneg (Int.ediv_nonneg h0 (by omega)) (by omega)
      rw [Int32.toInt_mul, e, bm32 (by omega) (by omega)]
    have h6 : (x - x / y * y).toInt = x.toInt % y.toInt := by
      have g : x.toInt / y.toInt * y.toInt = y.toInt * (x.toInt / y.toInt) := Int.mul_comm _ _
      have g0 : 0 ≤ x.toInt / y.toInt * y.toInt := Int.mul_nonneg (Int.ediv_nonneg h0 (by omega)) (by omega)
      rw [Int32.toInt_sub, h5, bm32 (by omega) (by omega)]
      omega
    have h7 : x.toInt % y.toInt ≤ x.toInt := by
      have g0 : 0 ≤ y.toInt * (x.toInt / y.toInt) := Int.mul_nonneg (by omega) (Int.ediv_nonneg h0 (by omega))
      omega
    cases h8 : decide (a.2 ≤ b.2 - 1) with
    | true => exact ⟨by show (0 : Int) ≤ _; omega, by show _ ≤ a.2; omega⟩
    | false => exact ⟨by show (0 : Int) ≤ _; omega, by show _ ≤ b.2 - 1; omega⟩
theorem i2b_in (x : Int32) : inI x.toInt8.toInt32 (-128, 127) := by
  rw [inI, Int8.toInt_toInt32]
  have h1 := Int8.le_toInt x.toInt8
  have h2 := Int8.toInt_lt x.toInt8
  exact ⟨by omega, by omega⟩
theorem cmp_in (x y : Int64) : inI (lg_cmp x y) (-1, 1) := by
  unfold lg_cmp
  split
  · exact ⟨by decide, by decide⟩
  · split <;> exact ⟨by decide, by decide⟩
