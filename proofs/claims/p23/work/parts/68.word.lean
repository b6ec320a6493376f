/-! WORDS of the reference -/
theorem cmp_0 (x y : Int64) : lg_cmp x y = 0 ↔ x = y := by
  unfold lg_cmp
  split
  · rename_i h
    refine ⟨fun e => absurd e (by decide), fun e => ?_⟩
    subst e
    have h2 := Int64.lt_iff_toInt_lt.mp h
    omega
  · split
    · rename_i h
      exact ⟨fun _ => h, fun _ => rfl⟩
    · rename_i h
      exact ⟨fun e => absurd e (by decide), fun e => absurd e h⟩
theorem wd_step {a b : Nat} (ha : a < 2 ^ 25) (hb : b < 32) : (Int64.ofNat a <<< ((Int32.ofInt 5).toInt64 &&& 63)) ||| Int64.ofNat b = Int64.ofNat (a * 32 + b) := by
  apply Int64.toBitVec_inj.mp
  apply BitVec.eq_of_toNat_eq
  have e : (Int64.ofNat a <<< ((Int32.ofInt 5).toInt64 &&& 63)).toBitVec = BitVec.ofNat 64 a <<< 5 := by
    show BitVec.ofNat 64 a <<< (((Int32.ofInt 5).toInt64 &&& 63).toBitVec.smod 64) = BitVec.ofNat 64 a <<< 5
    rw [show ((Int32.ofInt 5).toInt64 &&& 63).toBitVec.smod 64 = BitVec.ofNat 64 5 by decide]
    rfl
  show ((Int64.ofNat a <<< ((Int32.ofInt 5).toInt64 &&& 63)).toBitVec ||| BitVec.ofNat 64 b).toNat = (BitVec.ofNat 64 (a * 32 + b)).toNat
  rw [e, BitVec.toNat_or, BitVec.toNat_shiftLeft, BitVec.toNat_ofNat, BitVec.toNat_ofNat, BitVec.toNat_ofNat, Nat.mod_eq_of_lt (show a < 2 ^ 64 by omega), Nat.mod_eq_of_lt (show b < 2 ^ 64 by omega), Nat.mod_eq_of_lt (show a * 32 + b < 2 ^ 64 by omega), Nat.shiftLeft_eq, Nat.mod_eq_of_lt (show a * 2 ^ 5 < 2 ^ 64 by omega)]
  have h := Nat.shiftLeft_add_eq_or_of_lt (b := b) (i := 5) hb a
  rw [Nat.shiftLeft_eq] at h
  exact h.symm
/-- the letters as a number, five bits each -/
def wN (u : Nat → Nat) (s : Nat) : Nat → Nat
  | 0 => 0
  | j + 1 => wN u s j * 32 + (u (s + j) - 96)
theorem lt_97 : ∀ u, u < 256 → isLt u = true → 97 ≤ u ∧ u ≤ 122 := by decide +kernel
theorem wN_lt {u : Nat → Nat} {s : Nat} : ∀ j, (∀ i, i < j → 97 ≤ u (s + i) ∧ u (s + i) ≤ 122) → wN u s j < 32 ^ j
  | 0, _ => Nat.one_pos
  | j + 1, h => by
    have h1 := wN_lt j (fun i hi => h i (by omega))
    have h2 := h j (by omega)
    rw [Nat.pow_succ]
    show wN u s j * 32 + (u (s + j) - 96) < _
    omega
theorem wdF_N {u : Nat → Nat} {s : Nat} : ∀ j, j ≤ 6 → (∀ i, i < j → 97 ≤ u (s + i) ∧ u (s + i) ≤ 122) → wdF u s j = Int64.ofNat (wN u s j)
  | 0, _, _ => rfl
  | j + 1, hj, h => by
    have h1 := wdF_N j (by omega) (fun i hi => h i (by omega))
    have h2 := h j (by omega)
    have h3 := wN_lt j (fun i hi => h i (by omega))
    have h4 : 32 ^ j ≤ 32 ^ 5 := Nat.pow_le_pow_right (by decide) (by omega)
    have h5 : (32 : Nat) ^ 5 = 2 ^ 25 := by decide
    rw [wdF, if_pos (by omega), h1, show (Int8.ofInt 96).toInt32 = nI 96 by decide, nI_subN (by omega) (by omega), show (nI (u (s + j) - 96)).toInt64 = Int64.ofNat (u (s + j) - 96) from ?_, wd_step (by omega) (by omega)]
    · rfl
    · apply Int64.toInt_inj.mp
      rw [Int32.toInt_toInt64, nI_toInt (by omega), Int64.toInt_ofNat_of_lt (by omega)]
theorem tk_let {u : Nat → Nat} {n s : Nat} (h : tkK u n s = 1) : ∀ i, s ≤ i → i < tkE u n s → isLt (u i) = true := by
  unfold tkK at h
  unfold tkE
  split at h
  · rename_i h1
    rw [if_pos h1]
    split at h
    · rename_i h2
      rw [if_pos h2]
      exact fun i h4 h5 => (scn_in (f := fun i => isLt (u i)) s i h4 h5).2
    · split at h
      · cases h
      · split at h
        · cases h
        · cases h
  · cases h
theorem i64_eq {a b : Nat} (ha : a < 2 ^ 31) (hb : b < 2 ^ 31) : Int64.ofNat a = Int64.ofNat b ↔ a = b := by
  refine ⟨fun h => ?_, fun h => by rw [h]⟩
  have h1 := congrArg Int64.toInt h
  rw [Int64.toInt_ofNat_of_lt (by omega), Int64.toInt_ofNat_of_lt (by omega)] at h1
  omega
theorem wq_person {u : Nat → Nat} {s : Nat} : ∀ e, e ≤ 6 → wN u s e = 542723566 → (∀ i, i < e → 97 ≤ u (s + i) ∧ u (s + i) ≤ 122) → e = wPerson.length ∧ ∀ i, i < wPerson.length → u (s + i) = wPerson.getD i 0 := fun e he => by
  match e, he with
  | 0, _ =>
    intro h hl
    have h : 0 = 542723566 := h
    exfalso
    omega
  | 1, _ =>
    intro h hl
    have x0 := hl 0 (by omega)
    have h2 : (0) * 32 + (u (s + 0) - 96) = 542723566 := h
    exfalso
    omega
  | 2, _ =>
    intro h hl
    have x0 := hl 0 (by omega)
    have x1 := hl 1 (by omega)
    have h2 : ((0) * 32 + (u (s + 0) - 96)) * 32 + (u (s + 1) - 96) = 542723566 := h
    exfalso
    omega
  | 3, _ =>
    intro h hl
    have x0 := hl 0 (by omega)
    have x1 := hl 1 (by omega)
    have x2 := hl 2 (by omega)
    have h2 : (((0) * 32 + (u (s + 0) - 96)) * 32 + (u (s + 1) - 96)) * 32 + (u (s + 2) - 96) = 542723566 := h
    exfalso
    omega
  | 4, _ =>
    intro h hl
    have x0 := hl 0 (by omega)
    have x1 := hl 1 (by omega)
    have x2 := hl 2 (by omega)
    have x3 := hl 3 (by omega)
    have h2 : ((((0) * 32 + (u (s + 0) - 96)) * 32 + (u (s + 1) - 96)) * 32 + (u (s + 2) - 96)) * 32 + (u (s + 3) - 96) = 542723566 := h
    exfalso
    omega
  | 5, _ =>
    intro h hl
    have x0 := hl 0 (by omega)
    have x1 := hl 1 (by omega)
    have x2 := hl 2 (by omega)
    have x3 := hl 3 (by omega)
    have x4 := hl 4 (by omega)
    have h2 : (((((0) * 32 + (u (s + 0) - 96)) * 32 + (u (s + 1) - 96)) * 32 + (u (s + 2) - 96)) * 32 + (u (s + 3) - 96)) * 32 + (u (s + 4) - 96) = 542723566 := h
    exfalso
    omega
  | 6, _ =>
    intro h hl
    have x0 := hl 0 (by omega)
    have x1 := hl 1 (by omega)
    have x2 := hl 2 (by omega)
    have x3 := hl 3 (by omega)
    have x4 := hl 4 (by omega)
    have x5 := hl 5 (by omega)
    have h2 : ((((((0) * 32 + (u (s + 0) - 96)) * 32 + (u (s + 1) - 96)) * 32 + (u (s + 2) - 96)) * 32 + (u (s + 3) - 96)) * 32 + (u (s + 4) - 96)) * 32 + (u (s + 5) - 96) = 542723566 := h
    refine ⟨rfl, fun i hi => ?_⟩
    have hi2 : i < 6 := hi
    have y0 : u (s + 0) = 112 := by omega
    have y1 : u (s + 1) = 101 := by omega
    have y2 : u (s + 2) = 114 := by omega
    have y3 : u (s + 3) = 115 := by omega
    have y4 : u (s + 4) = 111 := by omega
    have y5 : u (s + 5) = 110 := by omega
    match i, hi2 with
    | 0, _ => exact y0
    | 1, _ => exact y1
    | 2, _ => exact y2
    | 3, _ => exact y3
    | 4, _ => exact y4
    | 5, _ => exact y5
  | e + 7, he => omega
theorem is0_c {l : aL} (hl0 : l.1.stackTraces = false) {n p : Nat} {u : Nat → Nat} {M : aM} (hJ : ∀ e ∈ RM, M.2.2 e.1 e.2.1 = e.2.2) (hB : RB n u M) (hp : p ≤ n) (hT : stAt u n p M) : AC l (pI pg 182) (fcI M (QW (wdAt u n wPerson p) M)) 0 0 [.ref 58, .int (Int32.ofInt 0)] SHF M := by
  refine fw_of hl0 ⟨by decide +kernel, by decide +kernel, by decide +kernel⟩ rfl ?_
  have n8 := hB.1
  have b1 : tS u n p ≤ tEe u n p := tkE_ge
  have b2 : tEe u n p ≤ n := tE_le' hp
  have h4 : tK u n p ≤ 4 := tkK_le
  have e18 : M.1 58 18 = nI (tK u n p) := hT.2.1
  have e20 : M.1 58 20 = nI (tEe u n p - tS u n p) := hT.2.2.2.1
  have k1 : M.1 58 18 = Int32.ofInt 1 ↔ tK u n p = 1 := by
    rw [e18]
    exact ⟨fun e => nI_injN (b := 1) (by omega) (by decide) e, fun e => by rw [e]; rfl⟩
  have l6 : M.1 58 20 ≤ (Int8.ofInt 6).toInt32 ↔ tEe u n p - tS u n p ≤ 6 := by
    rw [e20, show (Int8.ofInt 6).toInt32 = nI 6 by decide, nI_leI (by omega) (by decide)]
  have wd : wdAt u n wPerson p = true ↔ tK u n p = 1 ∧ tEe u n p - tS u n p = wPerson.length ∧ ∀ i, i < wPerson.length → u (tS u n p + i) = wPerson.getD i 0 := by
    unfold wdAt
    rw [Bool.and_eq_true, Bool.and_eq_true, decide_eq_true_eq, decide_eq_true_eq, decide_eq_true_eq]
  have no : ¬ wdAt u n wPerson p = true → fcI M (QW (wdAt u n wPerson p) M) (.inl (some (.int (Int32.ofInt 0)))) SHF M := fun h => ⟨rfl, rfl, _, rfl, rfl, by rw [if_neg h]⟩
  have lets : tK u n p = 1 → ∀ i, i < tEe u n p - tS u n p → 97 ≤ u (tS u n p + i) ∧ u (tS u n p + i) ≤ 122 := fun h i hi => lt_97 _ (hB.2.1 _) (tk_let h (tS u n p + i) (Nat.le_add_right _ _) (by show tS u n p + i < tEe u n p; omega))
  have eqv : tK u n p = 1 → tEe u n p - tS u n p ≤ 6 → (lg_cmp (M.2.1 58 22) (lN 542723566) = 0 ↔ wN u (tS u n p) (tEe u n p - tS u n p) = 542723566) := fun h h6 => by
    have g := wN_lt (u := u) (s := tS u n p) _ (lets h)
    have g2 : 32 ^ (tEe u n p - tS u n p) ≤ 32 ^ 6 := Nat.pow_le_pow_right (by decide) h6
    have g3 : (32 : Nat) ^ 6 = 2 ^ 30 := by decide
    have g4 : M.2.1 58 22 = wdF u (tS u n p) (tEe u n p - tS u n p) := hT.2.2.2.2.2 h
    rw [cmp_0, g4, wdF_N _ h6 (lets h)]
    exact i64_eq (by omega) (by decide)
  refine is0_0 hJ hl0 (fun h1 => ?_) (fun h1 h3 h5 => ?_) (fun h1 h3 h5 => ?_) (fun h1 h3 => ?_)
  · exact no (fun e => h1 (k1.mpr (wd.mp e).1))
  · rw [k1] at h1
    rw [l6] at h3
    rw [eqv h1 h3] at h5
    refine no (fun e => h5 ?_)
    have e2 := (wd.mp e).2
    rw [e2.1]
    have z : ∀ i, i < 6 → u (tS u n p + i) = wPerson.getD i 0 := e2.2
    have z0 : u (tS u n p + 0) = 112 := z 0 (by decide)
    have z1 : u (tS u n p + 1) = 101 := z 1 (by decide)
    have z2 : u (tS u n p + 2) = 114 := z 2 (by decide)
    have z3 : u (tS u n p + 3) = 115 := z 3 (by decide)
    have z4 : u (tS u n p + 4) = 111 := z 4 (by decide)
    have z5 : u (tS u n p + 5) = 110 := z 5 (by decide)
    show ((((((0) * 32 + (u (tS u n p + 0) - 96)) * 32 + (u (tS u n p + 1) - 96)) * 32 + (u (tS u n p + 2) - 96)) * 32 + (u (tS u n p + 3) - 96)) * 32 + (u (tS u n p + 4) - 96)) * 32 + (u (tS u n p + 5) - 96) = 542723566
    omega
  · rw [k1] at h1
    rw [l6] at h3
    rw [eqv h1 h3] at h5
    have q := wq_person _ h3 h5 (lets h1)
    exact ⟨rfl, rfl, _, rfl, rfl, by rw [if_pos (wd.mpr ⟨h1, q⟩)]⟩
  · refine no (fun e => h3 (l6.mpr ?_))
    rw [(wd.mp e).2.1]
    decide
theorem wq_work {u : Nat → Nat} {s : Nat} : ∀ e, e ≤ 6 → wN u s e = 769611 → (∀ i, i < e → 97 ≤ u (s + i) ∧ u (s + i) ≤ 122) → e = wWork.length ∧ ∀ i, i < wWork.length → u (s + i) = wWork.getD i 0 := fun e he => by
  match e, he with
  | 0, _ =>
    intro h hl
    have h : 0 = 769611 := h
    exfalso
    omega
  | 1, _ =>
    intro h hl
    have x0 := hl 0 (by omega)
    have h2 : (0) * 32 + (u (s + 0) - 96) = 769611 := h
    exfalso
    omega
  | 2, _ =>
    intro h hl
    have x0 := hl 0 (by omega)
    have x1 := hl 1 (by omega)
    have h2 : ((0) * 32 + (u (s + 0) - 96)) * 32 + (u (s + 1) - 96) = 769611 := h
    exfalso
    omega
  | 3, _ =>
    intro h hl
    have x0 := hl 0 (by omega)
    have x1 := hl 1 (by omega)
    have x2 := hl 2 (by omega)
    have h2 : (((0) * 32 + (u (s + 0) - 96)) * 32 + (u (s + 1) - 96)) * 32 + (u (s + 2) - 96) = 769611 := h
    exfalso
    omega
  | 4, _ =>
    intro h hl
    have x0 := hl 0 (by omega)
    have x1 := hl 1 (by omega)
    have x2 := hl 2 (by omega)
    have x3 := hl 3 (by omega)
    have h2 : ((((0) * 32 + (u (s + 0) - 96)) * 32 + (u (s + 1) - 96)) * 32 + (u (s + 2) - 96)) * 32 + (u (s + 3) - 96) = 769611 := h
    refine ⟨rfl, fun i hi => ?_⟩
    have hi2 : i < 4 := hi
    have y0 : u (s + 0) = 119 := by omega
    have y1 : u (s + 1) = 111 := by omega
    have y2 : u (s + 2) = 114 := by omega
    have y3 : u (s + 3) = 107 := by omega
    match i, hi2 with
    | 0, _ => exact y0
    | 1, _ => exact y1
    | 2, _ => exact y2
    | 3, _ => exact y3
  | 5, _ =>
    intro h hl
    have x0 := hl 0 (by omega)
    have x1 := hl 1 (by omega)
    have x2 := hl 2 (by omega)
    have x3 := hl 3 (by omega)
    have x4 := hl 4 (by omega)
    have h2 : (((((0) * 32 + (u (s + 0) - 96)) * 32 + (u (s + 1) - 96)) * 32 + (u (s + 2) - 96)) * 32 + (u (s + 3) - 96)) * 32 + (u (s + 4) - 96) = 769611 := h
    exfalso
    omega
  | 6, _ =>
    intro h hl
    have x0 := hl 0 (by omega)
    have x1 := hl 1 (by omega)
    have x2 := hl 2 (by omega)
    have x3 := hl 3 (by omega)
    have x4 := hl 4 (by omega)
    have x5 := hl 5 (by omega)
    have h2 : ((((((0) * 32 + (u (s + 0) - 96)) * 32 + (u (s + 1) - 96)) * 32 + (u (s + 2) - 96)) * 32 + (u (s + 3) - 96)) * 32 + (u (s + 4) - 96)) * 32 + (u (s + 5) - 96) = 769611 := h
    exfalso
    omega
  | e + 7, he => omega
theorem is1_c {l : aL} (hl0 : l.1.stackTraces = false) {n p : Nat} {u : Nat → Nat} {M : aM} (hJ : ∀ e ∈ RM, M.2.2 e.1 e.2.1 = e.2.2) (hB : RB n u M) (hp : p ≤ n) (hT : stAt u n p M) : AC l (pI pg 182) (fcI M (QW (wdAt u n wWork p) M)) 0 0 [.ref 58, .int (Int32.ofInt 1)] SHF M := by
  refine fw_of hl0 ⟨by decide +kernel, by decide +kernel, by decide +kernel⟩ rfl ?_
  have n8 := hB.1
  have b1 : tS u n p ≤ tEe u n p := tkE_ge
  have b2 : tEe u n p ≤ n := tE_le' hp
  have h4 : tK u n p ≤ 4 := tkK_le
  have e18 : M.1 58 18 = nI (tK u n p) := hT.2.1
  have e20 : M.1 58 20 = nI (tEe u n p - tS u n p) := hT.2.2.2.1
  have k1 : M.1 58 18 = Int32.ofInt 1 ↔ tK u n p = 1 := by
    rw [e18]
    exact ⟨fun e => nI_injN (b := 1) (by omega) (by decide) e, fun e => by rw [e]; rfl⟩
  have l6 : M.1 58 20 ≤ (Int8.ofInt 6).toInt32 ↔ tEe u n p - tS u n p ≤ 6 := by
    rw [e20, show (Int8.ofInt 6).toInt32 = nI 6 by decide, nI_leI (by omega) (by decide)]
  have wd : wdAt u n wWork p = true ↔ tK u n p = 1 ∧ tEe u n p - tS u n p = wWork.length ∧ ∀ i, i < wWork.length → u (tS u n p + i) = wWork.getD i 0 := by
    unfold wdAt
    rw [Bool.and_eq_true, Bool.and_eq_true, decide_eq_true_eq, decide_eq_true_eq, decide_eq_true_eq]
  have no : ¬ wdAt u n wWork p = true → fcI M (QW (wdAt u n wWork p) M) (.inl (some (.int (Int32.ofInt 0)))) SHF M := fun h => ⟨rfl, rfl, _, rfl, rfl, by rw [if_neg h]⟩
  have lets : tK u n p = 1 → ∀ i, i < tEe u n p - tS u n p → 97 ≤ u (tS u n p + i) ∧ u (tS u n p + i) ≤ 122 := fun h i hi => lt_97 _ (hB.2.1 _) (tk_let h (tS u n p + i) (Nat.le_add_right _ _) (by show tS u n p + i < tEe u n p; omega))
  have eqv : tK u n p = 1 → tEe u n p - tS u n p ≤ 6 → (lg_cmp (M.2.1 58 22) (lN 769611) = 0 ↔ wN u (tS u n p) (tEe u n p - tS u n p) = 769611) := fun h h6 => by
    have g := wN_lt (u := u) (s := tS u n p) _ (lets h)
    have g2 : 32 ^ (tEe u n p - tS u n p) ≤ 32 ^ 6 := Nat.pow_le_pow_right (by decide) h6
    have g3 : (32 : Nat) ^ 6 = 2 ^ 30 := by decide
    have g4 : M.2.1 58 22 = wdF u (tS u n p) (tEe u n p - tS u n p) := hT.2.2.2.2.2 h
    rw [cmp_0, g4, wdF_N _ h6 (lets h)]
    exact i64_eq (by omega) (by decide)
  refine is1_0 hJ hl0 (fun h1 => ?_) (fun h1 h3 h5 => ?_) (fun h1 h3 h5 => ?_) (fun h1 h3 => ?_)
  · exact no (fun e => h1 (k1.mpr (wd.mp e).1))
  · rw [k1] at h1
    rw [l6] at h3
    rw [eqv h1 h3] at h5
    refine no (fun e => h5 ?_)
    have e2 := (wd.mp e).2
    rw [e2.1]
    have z : ∀ i, i < 4 → u (tS u n p + i) = wWork.getD i 0 := e2.2
    have z0 : u (tS u n p + 0) = 119 := z 0 (by decide)
    have z1 : u (tS u n p + 1) = 111 := z 1 (by decide)
    have z2 : u (tS u n p + 2) = 114 := z 2 (by decide)
    have z3 : u (tS u n p + 3) = 107 := z 3 (by decide)
    show ((((0) * 32 + (u (tS u n p + 0) - 96)) * 32 + (u (tS u n p + 1) - 96)) * 32 + (u (tS u n p + 2) - 96)) * 32 + (u (tS u n p + 3) - 96) = 769611
    omega
  · rw [k1] at h1
    rw [l6] at h3
    rw [eqv h1 h3] at h5
    have q := wq_work _ h3 h5 (lets h1)
    exact ⟨rfl, rfl, _, rfl, rfl, by rw [if_pos (wd.mpr ⟨h1, q⟩)]⟩
  · refine no (fun e => h3 (l6.mpr ?_))
    rw [(wd.mp e).2.1]
    decide
theorem wq_can {u : Nat → Nat} {s : Nat} : ∀ e, e ≤ 6 → wN u s e = 3118 → (∀ i, i < e → 97 ≤ u (s + i) ∧ u (s + i) ≤ 122) → e = wCan.length ∧ ∀ i, i < wCan.length → u (s + i) = wCan.getD i 0 := fun e he => by
  match e, he with
  | 0, _ =>
    intro h hl
    have h : 0 = 3118 := h
    exfalso
    omega
  | 1, _ =>
    intro h hl
    have x0 := hl 0 (by omega)
    have h2 : (0) * 32 + (u (s + 0) - 96) = 3118 := h
    exfalso
    omega
  | 2, _ =>
    intro h hl
    have x0 := hl 0 (by omega)
    have x1 := hl 1 (by omega)
    have h2 : ((0) * 32 + (u (s + 0) - 96)) * 32 + (u (s + 1) - 96) = 3118 := h
    exfalso
    omega
  | 3, _ =>
    intro h hl
    have x0 := hl 0 (by omega)
    have x1 := hl 1 (by omega)
    have x2 := hl 2 (by omega)
    have h2 : (((0) * 32 + (u (s + 0) - 96)) * 32 + (u (s + 1) - 96)) * 32 + (u (s + 2) - 96) = 3118 := h
    refine ⟨rfl, fun i hi => ?_⟩
    have hi2 : i < 3 := hi
    have y0 : u (s + 0) = 99 := by omega
    have y1 : u (s + 1) = 97 := by omega
    have y2 : u (s + 2) = 110 := by omega
    match i, hi2 with
    | 0, _ => exact y0
    | 1, _ => exact y1
    | 2, _ => exact y2
  | 4, _ =>
    intro h hl
    have x0 := hl 0 (by omega)
    have x1 := hl 1 (by omega)
    have x2 := hl 2 (by omega)
    have x3 := hl 3 (by omega)
    have h2 : ((((0) * 32 + (u (s + 0) - 96)) * 32 + (u (s + 1) - 96)) * 32 + (u (s + 2) - 96)) * 32 + (u (s + 3) - 96) = 3118 := h
    exfalso
    omega
  | 5, _ =>
    intro h hl
    have x0 := hl 0 (by omega)
    have x1 := hl 1 (by omega)
    have x2 := hl 2 (by omega)
    have x3 := hl 3 (by omega)
    have x4 := hl 4 (by omega)
    have h2 : (((((0) * 32 + (u (s + 0) - 96)) * 32 + (u (s + 1) - 96)) * 32 + (u (s + 2) - 96)) * 32 + (u (s + 3) - 96)) * 32 + (u (s + 4) - 96) = 3118 := h
    exfalso
    omega
  | 6, _ =>
    intro h hl
    have x0 := hl 0 (by omega)
    have x1 := hl 1 (by omega)
    have x2 := hl 2 (by omega)
    have x3 := hl 3 (by omega)
    have x4 := hl 4 (by omega)
    have x5 := hl 5 (by omega)
    have h2 : ((((((0) * 32 + (u (s + 0) - 96)) * 32 + (u (s + 1) - 96)) * 32 + (u (s + 2) - 96)) * 32 + (u (s + 3) - 96)) * 32 + (u (s + 4) - 96)) * 32 + (u (s + 5) - 96) = 3118 := h
    exfalso
    omega
  | e + 7, he => omega
theorem is2_c {l : aL} (hl0 : l.1.stackTraces = false) {n p : Nat} {u : Nat → Nat} {M : aM} (hJ : ∀ e ∈ RM, M.2.2 e.1 e.2.1 = e.2.2) (hB : RB n u M) (hp : p ≤ n) (hT : stAt u n p M) : AC l (pI pg 182) (fcI M (QW (wdAt u n wCan p) M)) 0 0 [.ref 58, .int (Int32.ofInt 2)] SHF M := by
  refine fw_of hl0 ⟨by decide +kernel, by decide +kernel, by decide +kernel⟩ rfl ?_
  have n8 := hB.1
  have b1 : tS u n p ≤ tEe u n p := tkE_ge
  have b2 : tEe u n p ≤ n := tE_le' hp
  have h4 : tK u n p ≤ 4 := tkK_le
  have e18 : M.1 58 18 = nI (tK u n p) := hT.2.1
  have e20 : M.1 58 20 = nI (tEe u n p - tS u n p) := hT.2.2.2.1
  have k1 : M.1 58 18 = Int32.ofInt 1 ↔ tK u n p = 1 := by
    rw [e18]
    exact ⟨fun e => nI_injN (b := 1) (by omega) (by decide) e, fun e => by rw [e]; rfl⟩
  have l6 : M.1 58 20 ≤ (Int8.ofInt 6).toInt32 ↔ tEe u n p - tS u n p ≤ 6 := by
    rw [e20, show (Int8.ofInt 6).toInt32 = nI 6 by decide, nI_leI (by omega) (by decide)]
  have wd : wdAt u n wCan p = true ↔ tK u n p = 1 ∧ tEe u n p - tS u n p = wCan.length ∧ ∀ i, i < wCan.length → u (tS u n p + i) = wCan.getD i 0 := by
    unfold wdAt
    rw [Bool.and_eq_true, Bool.and_eq_true, decide_eq_true_eq, decide_eq_true_eq, decide_eq_true_eq]
  have no : ¬ wdAt u n wCan p = true → fcI M (QW (wdAt u n wCan p) M) (.inl (some (.int (Int32.ofInt 0)))) SHF M := fun h => ⟨rfl, rfl, _, rfl, rfl, by rw [if_neg h]⟩
  have lets : tK u n p = 1 → ∀ i, i < tEe u n p - tS u n p → 97 ≤ u (tS u n p + i) ∧ u (tS u n p + i) ≤ 122 := fun h i hi => lt_97 _ (hB.2.1 _) (tk_let h (tS u n p + i) (Nat.le_add_right _ _) (by show tS u n p + i < tEe u n p; omega))
  have eqv : tK u n p = 1 → tEe u n p - tS u n p ≤ 6 → (lg_cmp (M.2.1 58 22) (lN 3118) = 0 ↔ wN u (tS u n p) (tEe u n p - tS u n p) = 3118) := fun h h6 => by
    have g := wN_lt (u := u) (s := tS u n p) _ (lets h)
    have g2 : 32 ^ (tEe u n p - tS u n p) ≤ 32 ^ 6 := Nat.pow_le_pow_right (by decide) h6
    have g3 : (32 : Nat) ^ 6 = 2 ^ 30 := by decide
    have g4 : M.2.1 58 22 = wdF u (tS u n p) (tEe u n p - tS u n p) := hT.2.2.2.2.2 h
    rw [cmp_0, g4, wdF_N _ h6 (lets h)]
    exact i64_eq (by omega) (by decide)
  refine is2_0 hJ hl0 (fun h1 => ?_) (fun h1 h3 h5 => ?_) (fun h1 h3 h5 => ?_) (fun h1 h3 => ?_)
  · exact no (fun e => h1 (k1.mpr (wd.mp e).1))
  · rw [k1] at h1
    rw [l6] at h3
    rw [eqv h1 h3] at h5
    refine no (fun e => h5 ?_)
    have e2 := (wd.mp e).2
    rw [e2.1]
    have z : ∀ i, i < 3 → u (tS u n p + i) = wCan.getD i 0 := e2.2
    have z0 : u (tS u n p + 0) = 99 := z 0 (by decide)
    have z1 : u (tS u n p + 1) = 97 := z 1 (by decide)
    have z2 : u (tS u n p + 2) = 110 := z 2 (by decide)
    show (((0) * 32 + (u (tS u n p + 0) - 96)) * 32 + (u (tS u n p + 1) - 96)) * 32 + (u (tS u n p + 2) - 96) = 3118
    omega
  · rw [k1] at h1
    rw [l6] at h3
    rw [eqv h1 h3] at h5
    have q := wq_can _ h3 h5 (lets h1)
    exact ⟨rfl, rfl, _, rfl, rfl, by rw [if_pos (wd.mpr ⟨h1, q⟩)]⟩
  · refine no (fun e => h3 (l6.mpr ?_))
    rw [(wd.mp e).2.1]
    decide
theorem wq_learn {u : Nat → Nat} {s : Nat} : ∀ e, e ≤ 6 → wN u s e = 12748366 → (∀ i, i < e → 97 ≤ u (s + i) ∧ u (s + i) ≤ 122) → e = wLearn.length ∧ ∀ i, i < wLearn.length → u (s + i) = wLearn.getD i 0 := fun e he => by
  match e, he with
  | 0, _ =>
    intro h hl
    have h : 0 = 12748366 := h
    exfalso
    omega
  | 1, _ =>
    intro h hl
    have x0 := hl 0 (by omega)
    have h2 : (0) * 32 + (u (s + 0) - 96) = 12748366 := h
    exfalso
    omega
  | 2, _ =>
    intro h hl
    have x0 := hl 0 (by omega)
    have x1 := hl 1 (by omega)
    have h2 : ((0) * 32 + (u (s + 0) - 96)) * 32 + (u (s + 1) - 96) = 12748366 := h
    exfalso
    omega
  | 3, _ =>
    intro h hl
    have x0 := hl 0 (by omega)
    have x1 := hl 1 (by omega)
    have x2 := hl 2 (by omega)
    have h2 : (((0) * 32 + (u (s + 0) - 96)) * 32 + (u (s + 1) - 96)) * 32 + (u (s + 2) - 96) = 12748366 := h
    exfalso
    omega
  | 4, _ =>
    intro h hl
    have x0 := hl 0 (by omega)
    have x1 := hl 1 (by omega)
    have x2 := hl 2 (by omega)
    have x3 := hl 3 (by omega)
    have h2 : ((((0) * 32 + (u (s + 0) - 96)) * 32 + (u (s + 1) - 96)) * 32 + (u (s + 2) - 96)) * 32 + (u (s + 3) - 96) = 12748366 := h
    exfalso
    omega
  | 5, _ =>
    intro h hl
    have x0 := hl 0 (by omega)
    have x1 := hl 1 (by omega)
    have x2 := hl 2 (by omega)
    have x3 := hl 3 (by omega)
    have x4 := hl 4 (by omega)
    have h2 : (((((0) * 32 + (u (s + 0) - 96)) * 32 + (u (s + 1) - 96)) * 32 + (u (s + 2) - 96)) * 32 + (u (s + 3) - 96)) * 32 + (u (s + 4) - 96) = 12748366 := h
    refine ⟨rfl, fun i hi => ?_⟩
    have hi2 : i < 5 := hi
    have y0 : u (s + 0) = 108 := by omega
    have y1 : u (s + 1) = 101 := by omega
    have y2 : u (s + 2) = 97 := by omega
    have y3 : u (s + 3) = 114 := by omega
    have y4 : u (s + 4) = 110 := by omega
    match i, hi2 with
    | 0, _ => exact y0
    | 1, _ => exact y1
    | 2, _ => exact y2
    | 3, _ => exact y3
    | 4, _ => exact y4
  | 6, _ =>
    intro h hl
    have x0 := hl 0 (by omega)
    have x1 := hl 1 (by omega)
    have x2 := hl 2 (by omega)
    have x3 := hl 3 (by omega)
    have x4 := hl 4 (by omega)
    have x5 := hl 5 (by omega)
    have h2 : ((((((0) * 32 + (u (s + 0) - 96)) * 32 + (u (s + 1) - 96)) * 32 + (u (s + 2) - 96)) * 32 + (u (s + 3) - 96)) * 32 + (u (s + 4) - 96)) * 32 + (u (s + 5) - 96) = 12748366 := h
    exfalso
    omega
  | e + 7, he => omega
theorem is3_c {l : aL} (hl0 : l.1.stackTraces = false) {n p : Nat} {u : Nat → Nat} {M : aM} (hJ : ∀ e ∈ RM, M.2.2 e.1 e.2.1 = e.2.2) (hB : RB n u M) (hp : p ≤ n) (hT : stAt u n p M) : AC l (pI pg 182) (fcI M (QW (wdAt u n wLearn p) M)) 0 0 [.ref 58, .int (Int32.ofInt 3)] SHF M := by
  refine fw_of hl0 ⟨by decide +kernel, by decide +kernel, by decide +kernel⟩ rfl ?_
  have n8 := hB.1
  have b1 : tS u n p ≤ tEe u n p := tkE_ge
  have b2 : tEe u n p ≤ n := tE_le' hp
  have h4 : tK u n p ≤ 4 := tkK_le
  have e18 : M.1 58 18 = nI (tK u n p) := hT.2.1
  have e20 : M.1 58 20 = nI (tEe u n p - tS u n p) := hT.2.2.2.1
  have k1 : M.1 58 18 = Int32.ofInt 1 ↔ tK u n p = 1 := by
    rw [e18]
    exact ⟨fun e => nI_injN (b := 1) (by omega) (by decide) e, fun e => by rw [e]; rfl⟩
  have l6 : M.1 58 20 ≤ (Int8.ofInt 6).toInt32 ↔ tEe u n p - tS u n p ≤ 6 := by
    rw [e20, show (Int8.ofInt 6).toInt32 = nI 6 by decide, nI_leI (by omega) (by decide)]
  have wd : wdAt u n wLearn p = true ↔ tK u n p = 1 ∧ tEe u n p - tS u n p = wLearn.length ∧ ∀ i, i < wLearn.length → u (tS u n p + i) = wLearn.getD i 0 := by
    unfold wdAt
    rw [Bool.and_eq_true, Bool.and_eq_true, decide_eq_true_eq, decide_eq_true_eq, decide_eq_true_eq]
  have no : ¬ wdAt u n wLearn p = true → fcI M (QW (wdAt u n wLearn p) M) (.inl (some (.int (Int32.ofInt 0)))) SHF M := fun h => ⟨rfl, rfl, _, rfl, rfl, by rw [if_neg h]⟩
  have lets : tK u n p = 1 → ∀ i, i < tEe u n p - tS u n p → 97 ≤ u (tS u n p + i) ∧ u (tS u n p + i) ≤ 122 := fun h i hi => lt_97 _ (hB.2.1 _) (tk_let h (tS u n p + i) (Nat.le_add_right _ _) (by show tS u n p + i < tEe u n p; omega))
  have eqv : tK u n p = 1 → tEe u n p - tS u n p ≤ 6 → (lg_cmp (M.2.1 58 22) (lN 12748366) = 0 ↔ wN u (tS u n p) (tEe u n p - tS u n p) = 12748366) := fun h h6 => by
    have g := wN_lt (u := u) (s := tS u n p) _ (lets h)
    have g2 : 32 ^ (tEe u n p - tS u n p) ≤ 32 ^ 6 := Nat.pow_le_pow_right (by decide) h6
    have g3 : (32 : Nat) ^ 6 = 2 ^ 30 := by decide
    have g4 : M.2.1 58 22 = wdF u (tS u n p) (tEe u n p - tS u n p) := hT.2.2.2.2.2 h
    rw [cmp_0, g4, wdF_N _ h6 (lets h)]
    exact i64_eq (by omega) (by decide)
  refine is3_0 hJ hl0 (fun h1 => ?_) (fun h1 h3 h5 => ?_) (fun h1 h3 h5 => ?_) (fun h1 h3 => ?_)
  · exact no (fun e => h1 (k1.mpr (wd.mp e).1))
  · rw [k1] at h1
    rw [l6] at h3
    rw [eqv h1 h3] at h5
    refine no (fun e => h5 ?_)
    have e2 := (wd.mp e).2
    rw [e2.1]
    have z : ∀ i, i < 5 → u (tS u n p + i) = wLearn.getD i 0 := e2.2
    have z0 : u (tS u n p + 0) = 108 := z 0 (by decide)
    have z1 : u (tS u n p + 1) = 101 := z 1 (by decide)
    have z2 : u (tS u n p + 2) = 97 := z 2 (by decide)
    have z3 : u (tS u n p + 3) = 114 := z 3 (by decide)
    have z4 : u (tS u n p + 4) = 110 := z 4 (by decide)
    show (((((0) * 32 + (u (tS u n p + 0) - 96)) * 32 + (u (tS u n p + 1) - 96)) * 32 + (u (tS u n p + 2) - 96)) * 32 + (u (tS u n p + 3) - 96)) * 32 + (u (tS u n p + 4) - 96) = 12748366
    omega
  · rw [k1] at h1
    rw [l6] at h3
    rw [eqv h1 h3] at h5
    have q := wq_learn _ h3 h5 (lets h1)
    exact ⟨rfl, rfl, _, rfl, rfl, by rw [if_pos (wd.mpr ⟨h1, q⟩)]⟩
  · refine no (fun e => h3 (l6.mpr ?_))
    rw [(wd.mp e).2.1]
    decide
theorem wq_forget {u : Nat → Nat} {s : Nat} : ∀ e, e ≤ 6 → wN u s e = 217652404 → (∀ i, i < e → 97 ≤ u (s + i) ∧ u (s + i) ≤ 122) → e = wForget.length ∧ ∀ i, i < wForget.length → u (s + i) = wForget.getD i 0 := fun e he => by
  match e, he with
  | 0, _ =>
    intro h hl
    have h : 0 = 217652404 := h
    exfalso
    omega
  | 1, _ =>
    intro h hl
    have x0 := hl 0 (by omega)
    have h2 : (0) * 32 + (u (s + 0) - 96) = 217652404 := h
    exfalso
    omega
  | 2, _ =>
    intro h hl
    have x0 := hl 0 (by omega)
    have x1 := hl 1 (by omega)
    have h2 : ((0) * 32 + (u (s + 0) - 96)) * 32 + (u (s + 1) - 96) = 217652404 := h
    exfalso
    omega
  | 3, _ =>
    intro h hl
    have x0 := hl 0 (by omega)
    have x1 := hl 1 (by omega)
    have x2 := hl 2 (by omega)
    have h2 : (((0) * 32 + (u (s + 0) - 96)) * 32 + (u (s + 1) - 96)) * 32 + (u (s + 2) - 96) = 217652404 := h
    exfalso
    omega
  | 4, _ =>
    intro h hl
    have x0 := hl 0 (by omega)
    have x1 := hl 1 (by omega)
    have x2 := hl 2 (by omega)
    have x3 := hl 3 (by omega)
    have h2 : ((((0) * 32 + (u (s + 0) - 96)) * 32 + (u (s + 1) - 96)) * 32 + (u (s + 2) - 96)) * 32 + (u (s + 3) - 96) = 217652404 := h
    exfalso
    omega
  | 5, _ =>
    intro h hl
    have x0 := hl 0 (by omega)
    have x1 := hl 1 (by omega)
    have x2 := hl 2 (by omega)
    have x3 := hl 3 (by omega)
    have x4 := hl 4 (by omega)
    have h2 : (((((0) * 32 + (u (s + 0) - 96)) * 32 + (u (s + 1) - 96)) * 32 + (u (s + 2) - 96)) * 32 + (u (s + 3) - 96)) * 32 + (u (s + 4) - 96) = 217652404 := h
    exfalso
    omega
  | 6, _ =>
    intro h hl
    have x0 := hl 0 (by omega)
    have x1 := hl 1 (by omega)
    have x2 := hl 2 (by omega)
    have x3 := hl 3 (by omega)
    have x4 := hl 4 (by omega)
    have x5 := hl 5 (by omega)
    have h2 : ((((((0) * 32 + (u (s + 0) - 96)) * 32 + (u (s + 1) - 96)) * 32 + (u (s + 2) - 96)) * 32 + (u (s + 3) - 96)) * 32 + (u (s + 4) - 96)) * 32 + (u (s + 5) - 96) = 217652404 := h
    refine ⟨rfl, fun i hi => ?_⟩
    have hi2 : i < 6 := hi
    have y0 : u (s + 0) = 102 := by omega
    have y1 : u (s + 1) = 111 := by omega
    have y2 : u (s + 2) = 114 := by omega
    have y3 : u (s + 3) = 103 := by omega
    have y4 : u (s + 4) = 101 := by omega
    have y5 : u (s + 5) = 116 := by omega
    match i, hi2 with
    | 0, _ => exact y0
    | 1, _ => exact y1
    | 2, _ => exact y2
    | 3, _ => exact y3
    | 4, _ => exact y4
    | 5, _ => exact y5
  | e + 7, he => omega
theorem is4_c {l : aL} (hl0 : l.1.stackTraces = false) {n p : Nat} {u : Nat → Nat} {M : aM} (hJ : ∀ e ∈ RM, M.2.2 e.1 e.2.1 = e.2.2) (hB : RB n u M) (hp : p ≤ n) (hT : stAt u n p M) : AC l (pI pg 182) (fcI M (QW (wdAt u n wForget p) M)) 0 0 [.ref 58, .int (Int32.ofInt 4)] SHF M := by
  refine fw_of hl0 ⟨by decide +kernel, by decide +kernel, by decide +kernel⟩ rfl ?_
  have n8 := hB.1
  have b1 : tS u n p ≤ tEe u n p := tkE_ge
  have b2 : tEe u n p ≤ n := tE_le' hp
  have h4 : tK u n p ≤ 4 := tkK_le
  have e18 : M.1 58 18 = nI (tK u n p) := hT.2.1
  have e20 : M.1 58 20 = nI (tEe u n p - tS u n p) := hT.2.2.2.1
  have k1 : M.1 58 18 = Int32.ofInt 1 ↔ tK u n p = 1 := by
    rw [e18]
    exact ⟨fun e => nI_injN (b := 1) (by omega) (by decide) e, fun e => by rw [e]; rfl⟩
  have l6 : M.1 58 20 ≤ (Int8.ofInt 6).toInt32 ↔ tEe u n p - tS u n p ≤ 6 := by
    rw [e20, show (Int8.ofInt 6).toInt32 = nI 6 by decide, nI_leI (by omega) (by decide)]
  have wd : wdAt u n wForget p = true ↔ tK u n p = 1 ∧ tEe u n p - tS u n p = wForget.length ∧ ∀ i, i < wForget.length → u (tS u n p + i) = wForget.getD i 0 := by
    unfold wdAt
    rw [Bool.and_eq_true, Bool.and_eq_true, decide_eq_true_eq, decide_eq_true_eq, decide_eq_true_eq]
  have no : ¬ wdAt u n wForget p = true → fcI M (QW (wdAt u n wForget p) M) (.inl (some (.int (Int32.ofInt 0)))) SHF M := fun h => ⟨rfl, rfl, _, rfl, rfl, by rw [if_neg h]⟩
  have lets : tK u n p = 1 → ∀ i, i < tEe u n p - tS u n p → 97 ≤ u (tS u n p + i) ∧ u (tS u n p + i) ≤ 122 := fun h i hi => lt_97 _ (hB.2.1 _) (tk_let h (tS u n p + i) (Nat.le_add_right _ _) (by show tS u n p + i < tEe u n p; omega))
  have eqv : tK u n p = 1 → tEe u n p - tS u n p ≤ 6 → (lg_cmp (M.2.1 58 22) (lN 217652404) = 0 ↔ wN u (tS u n p) (tEe u n p - tS u n p) = 217652404) := fun h h6 => by
    have g := wN_lt (u := u) (s := tS u n p) _ (lets h)
    have g2 : 32 ^ (tEe u n p - tS u n p) ≤ 32 ^ 6 := Nat.pow_le_pow_right (by decide) h6
    have g3 : (32 : Nat) ^ 6 = 2 ^ 30 := by decide
    have g4 : M.2.1 58 22 = wdF u (tS u n p) (tEe u n p - tS u n p) := hT.2.2.2.2.2 h
    rw [cmp_0, g4, wdF_N _ h6 (lets h)]
    exact i64_eq (by omega) (by decide)
  refine is4_0 hJ hl0 (fun h1 => ?_) (fun h1 h3 h5 => ?_) (fun h1 h3 h5 => ?_) (fun h1 h3 => ?_)
  · exact no (fun e => h1 (k1.mpr (wd.mp e).1))
  · rw [k1] at h1
    rw [l6] at h3
    rw [eqv h1 h3] at h5
    refine no (fun e => h5 ?_)
    have e2 := (wd.mp e).2
    rw [e2.1]
    have z : ∀ i, i < 6 → u (tS u n p + i) = wForget.getD i 0 := e2.2
    have z0 : u (tS u n p + 0) = 102 := z 0 (by decide)
    have z1 : u (tS u n p + 1) = 111 := z 1 (by decide)
    have z2 : u (tS u n p + 2) = 114 := z 2 (by decide)
    have z3 : u (tS u n p + 3) = 103 := z 3 (by decide)
    have z4 : u (tS u n p + 4) = 101 := z 4 (by decide)
    have z5 : u (tS u n p + 5) = 116 := z 5 (by decide)
    show ((((((0) * 32 + (u (tS u n p + 0) - 96)) * 32 + (u (tS u n p + 1) - 96)) * 32 + (u (tS u n p + 2) - 96)) * 32 + (u (tS u n p + 3) - 96)) * 32 + (u (tS u n p + 4) - 96)) * 32 + (u (tS u n p + 5) - 96) = 217652404
    omega
  · rw [k1] at h1
    rw [l6] at h3
    rw [eqv h1 h3] at h5
    have q := wq_forget _ h3 h5 (lets h1)
    exact ⟨rfl, rfl, _, rfl, rfl, by rw [if_pos (wd.mpr ⟨h1, q⟩)]⟩
  · refine no (fun e => h3 (l6.mpr ?_))
    rw [(wd.mp e).2.1]
    decide
theorem wq_drawn {u : Nat → Nat} {s : Nat} : ∀ e, e ≤ 6 → wN u s e = 4785902 → (∀ i, i < e → 97 ≤ u (s + i) ∧ u (s + i) ≤ 122) → e = wDrawn.length ∧ ∀ i, i < wDrawn.length → u (s + i) = wDrawn.getD i 0 := fun e he => by
  match e, he with
  | 0, _ =>
    intro h hl
    have h : 0 = 4785902 := h
    exfalso
    omega
  | 1, _ =>
    intro h hl
    have x0 := hl 0 (by omega)
    have h2 : (0) * 32 + (u (s + 0) - 96) = 4785902 := h
    exfalso
    omega
  | 2, _ =>
    intro h hl
    have x0 := hl 0 (by omega)
    have x1 := hl 1 (by omega)
    have h2 : ((0) * 32 + (u (s + 0) - 96)) * 32 + (u (s + 1) - 96) = 4785902 := h
    exfalso
    omega
  | 3, _ =>
    intro h hl
    have x0 := hl 0 (by omega)
    have x1 := hl 1 (by omega)
    have x2 := hl 2 (by omega)
    have h2 : (((0) * 32 + (u (s + 0) - 96)) * 32 + (u (s + 1) - 96)) * 32 + (u (s + 2) - 96) = 4785902 := h
    exfalso
    omega
  | 4, _ =>
    intro h hl
    have x0 := hl 0 (by omega)
    have x1 := hl 1 (by omega)
    have x2 := hl 2 (by omega)
    have x3 := hl 3 (by omega)
    have h2 : ((((0) * 32 + (u (s + 0) - 96)) * 32 + (u (s + 1) - 96)) * 32 + (u (s + 2) - 96)) * 32 + (u (s + 3) - 96) = 4785902 := h
    exfalso
    omega
  | 5, _ =>
    intro h hl
    have x0 := hl 0 (by omega)
    have x1 := hl 1 (by omega)
    have x2 := hl 2 (by omega)
    have x3 := hl 3 (by omega)
    have x4 := hl 4 (by omega)
    have h2 : (((((0) * 32 + (u (s + 0) - 96)) * 32 + (u (s + 1) - 96)) * 32 + (u (s + 2) - 96)) * 32 + (u (s + 3) - 96)) * 32 + (u (s + 4) - 96) = 4785902 := h
    refine ⟨rfl, fun i hi => ?_⟩
    have hi2 : i < 5 := hi
    have y0 : u (s + 0) = 100 := by omega
    have y1 : u (s + 1) = 114 := by omega
    have y2 : u (s + 2) = 97 := by omega
    have y3 : u (s + 3) = 119 := by omega
    have y4 : u (s + 4) = 110 := by omega
    match i, hi2 with
    | 0, _ => exact y0
    | 1, _ => exact y1
    | 2, _ => exact y2
    | 3, _ => exact y3
    | 4, _ => exact y4
  | 6, _ =>
    intro h hl
    have x0 := hl 0 (by omega)
    have x1 := hl 1 (by omega)
    have x2 := hl 2 (by omega)
    have x3 := hl 3 (by omega)
    have x4 := hl 4 (by omega)
    have x5 := hl 5 (by omega)
    have h2 : ((((((0) * 32 + (u (s + 0) - 96)) * 32 + (u (s + 1) - 96)) * 32 + (u (s + 2) - 96)) * 32 + (u (s + 3) - 96)) * 32 + (u (s + 4) - 96)) * 32 + (u (s + 5) - 96) = 4785902 := h
    exfalso
    omega
  | e + 7, he => omega
theorem is5_c {l : aL} (hl0 : l.1.stackTraces = false) {n p : Nat} {u : Nat → Nat} {M : aM} (hJ : ∀ e ∈ RM, M.2.2 e.1 e.2.1 = e.2.2) (hB : RB n u M) (hp : p ≤ n) (hT : stAt u n p M) : AC l (pI pg 182) (fcI M (QW (wdAt u n wDrawn p) M)) 0 0 [.ref 58, .int (Int32.ofInt 5)] SHF M := by
  refine fw_of hl0 ⟨by decide +kernel, by decide +kernel, by decide +kernel⟩ rfl ?_
  have n8 := hB.1
  have b1 : tS u n p ≤ tEe u n p := tkE_ge
  have b2 : tEe u n p ≤ n := tE_le' hp
  have h4 : tK u n p ≤ 4 := tkK_le
  have e18 : M.1 58 18 = nI (tK u n p) := hT.2.1
  have e20 : M.1 58 20 = nI (tEe u n p - tS u n p) := hT.2.2.2.1
  have k1 : M.1 58 18 = Int32.ofInt 1 ↔ tK u n p = 1 := by
    rw [e18]
    exact ⟨fun e => nI_injN (b := 1) (by omega) (by decide) e, fun e => by rw [e]; rfl⟩
  have l6 : M.1 58 20 ≤ (Int8.ofInt 6).toInt32 ↔ tEe u n p - tS u n p ≤ 6 := by
    rw [e20, show (Int8.ofInt 6).toInt32 = nI 6 by decide, nI_leI (by omega) (by decide)]
  have wd : wdAt u n wDrawn p = true ↔ tK u n p = 1 ∧ tEe u n p - tS u n p = wDrawn.length ∧ ∀ i, i < wDrawn.length → u (tS u n p + i) = wDrawn.getD i 0 := by
    unfold wdAt
    rw [Bool.and_eq_true, Bool.and_eq_true, decide_eq_true_eq, decide_eq_true_eq, decide_eq_true_eq]
  have no : ¬ wdAt u n wDrawn p = true → fcI M (QW (wdAt u n wDrawn p) M) (.inl (some (.int (Int32.ofInt 0)))) SHF M := fun h => ⟨rfl, rfl, _, rfl, rfl, by rw [if_neg h]⟩
  have lets : tK u n p = 1 → ∀ i, i < tEe u n p - tS u n p → 97 ≤ u (tS u n p + i) ∧ u (tS u n p + i) ≤ 122 := fun h i hi => lt_97 _ (hB.2.1 _) (tk_let h (tS u n p + i) (Nat.le_add_right _ _) (by show tS u n p + i < tEe u n p; omega))
  have eqv : tK u n p = 1 → tEe u n p - tS u n p ≤ 6 → (lg_cmp (M.2.1 58 22) (lN 4785902) = 0 ↔ wN u (tS u n p) (tEe u n p - tS u n p) = 4785902) := fun h h6 => by
    have g := wN_lt (u := u) (s := tS u n p) _ (lets h)
    have g2 : 32 ^ (tEe u n p - tS u n p) ≤ 32 ^ 6 := Nat.pow_le_pow_right (by decide) h6
    have g3 : (32 : Nat) ^ 6 = 2 ^ 30 := by decide
    have g4 : M.2.1 58 22 = wdF u (tS u n p) (tEe u n p - tS u n p) := hT.2.2.2.2.2 h
    rw [cmp_0, g4, wdF_N _ h6 (lets h)]
    exact i64_eq (by omega) (by decide)
  refine is5_0 hJ hl0 (fun h1 => ?_) (fun h1 h3 h5 => ?_) (fun h1 h3 h5 => ?_) (fun h1 h3 => ?_)
  · exact no (fun e => h1 (k1.mpr (wd.mp e).1))
  · rw [k1] at h1
    rw [l6] at h3
    rw [eqv h1 h3] at h5
    refine no (fun e => h5 ?_)
    have e2 := (wd.mp e).2
    rw [e2.1]
    have z : ∀ i, i < 5 → u (tS u n p + i) = wDrawn.getD i 0 := e2.2
    have z0 : u (tS u n p + 0) = 100 := z 0 (by decide)
    have z1 : u (tS u n p + 1) = 114 := z 1 (by decide)
    have z2 : u (tS u n p + 2) = 97 := z 2 (by decide)
    have z3 : u (tS u n p + 3) = 119 := z 3 (by decide)
    have z4 : u (tS u n p + 4) = 110 := z 4 (by decide)
    show (((((0) * 32 + (u (tS u n p + 0) - 96)) * 32 + (u (tS u n p + 1) - 96)) * 32 + (u (tS u n p + 2) - 96)) * 32 + (u (tS u n p + 3) - 96)) * 32 + (u (tS u n p + 4) - 96) = 4785902
    omega
  · rw [k1] at h1
    rw [l6] at h3
    rw [eqv h1 h3] at h5
    have q := wq_drawn _ h3 h5 (lets h1)
    exact ⟨rfl, rfl, _, rfl, rfl, by rw [if_pos (wd.mpr ⟨h1, q⟩)]⟩
  · refine no (fun e => h3 (l6.mpr ?_))
    rw [(wd.mp e).2.1]
    decide
