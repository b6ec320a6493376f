/-! what is known of unknown ints: intervals -/
def ivI (c : _root_.Jvm.ClassFile.Cond) (lo hi y : Int32) : Option Bool := match c with
  | .lt => if hi < y then some true else if y ≤ lo then some false else none
  | .ge => if y ≤ lo then some true else if hi < y then some false else none
  | .gt => if y < lo then some true else if hi ≤ y then some false else none
  | .le => if hi ≤ y then some true else if y < lo then some false else none
  | .eq => if hi < y then some false else if y < lo then some false else none
  | .ne => if hi < y then some true else if y < lo then some true else none
theorem ivI_ok {c : _root_.Jvm.ClassFile.Cond} {lo hi x y : Int32} {b : Bool} (h : ivI c lo hi y = some b) (h1 : lo ≤ x) (h2 : x ≤ hi) : brI c x y = b := by
  have g1 := Int32.le_iff_toInt_le.mp h1
  have g2 := Int32.le_iff_toInt_le.mp h2
  have ne : x.toInt ≠ y.toInt → x ≠ y := fun h e => h (by rw [e])
  cases c <;> simp only [ivI] at h
  all_goals
    split at h
    · cases h
      simp only [brI, decide_eq_true_eq, decide_eq_false_iff_not, Bool.not_eq_true', Bool.not_eq_false', Int32.lt_iff_toInt_lt, Int32.le_iff_toInt_le] at *
      first
        | omega
        | exact ne (by omega)
    · split at h
      · cases h
        simp only [brI, decide_eq_true_eq, decide_eq_false_iff_not, Bool.not_eq_true', Bool.not_eq_false', Int32.lt_iff_toInt_lt, Int32.le_iff_toInt_le] at *
        first
          | omega
          | exact ne (by omega)
      · cases h
abbrev aB : Type := List (Nat × Int32 × Int32)
def bxS (xs : Nat → Int32) (B : aB) : Prop := ∀ q ∈ B, q.2.1 ≤ xs q.1 ∧ xs q.1 ≤ q.2.2
def bxK (B : aB) (t : List (Nat × Int32)) : Bool := t.all (fun q => B.any (fun r => Nat.beq r.1 q.1 && (decide (r.2.1 = q.2) && decide (r.2.2 = q.2))))
def bxF (B : aB) (t : List (UInt32 × _root_.Jvm.ClassFile.Cond × Int32 × Bool)) : Bool := t.all (fun q => B.any (fun r => decide (q.1 = UInt32.ofNat r.1) && (Nat.blt r.1 8 && decide (ivI q.2.1 r.2.1 r.2.2 q.2.2.1 = some q.2.2.2))))
theorem evE_of (xs : Nat → Int32) {k : Nat} (h : k < 8) : evE xs (UInt32.ofNat k) = xs k := by
  have e : (UInt32.ofNat k).toNat = k := u_of (by omega)
  unfold evE
  simp only [e, show k / 256 = 0 by omega, show k % 8 = k by omega]
theorem bx_sc {L : Nat} {xs : Nat → Int32} {B : aB} {t : List (Nat × Int32)} {f : List (UInt32 × _root_.Jvm.ClassFile.Cond × Int32 × Bool)} {mk : List (UInt32 × Int32 × Int32)} (hB : bxS xs B) (h1 : bxK B t = true) (h2 : bxF B f = true) (h3 : ∀ q ∈ mk, evE xs q.1 &&& q.2.1 = q.2.2) (G : aG) (hG : G.2.2.2.2 = xs ∧ G.2.2.2.1 = L) : scOk (some L, fun j => lkA t j, f, mk) xs G := by
  refine ⟨hG.1, fun L' e => ?_, fun j x hx => ?_, fun q hq => ?_, h3⟩
  · cases e
    exact hG.2
  · have g1 := List.all_eq_true.mp h1 _ (lkA_mem hx)
    obtain ⟨r, hr, g2⟩ := List.any_eq_true.mp g1
    simp only [Bool.and_eq_true, decide_eq_true_eq] at g2
    obtain ⟨g2, g3, g4⟩ := g2
    have g5 := hB r hr
    rw [Nat.eq_of_beq_eq_true g2, g3, g4] at g5
    exact Int32.le_antisymm g5.2 g5.1
  · have g1 := List.all_eq_true.mp h2 _ hq
    obtain ⟨r, hr, g2⟩ := List.any_eq_true.mp g1
    simp only [Bool.and_eq_true, decide_eq_true_eq] at g2
    obtain ⟨g2, g3, g4⟩ := g2
    rw [g2, evE_of xs (Nat.blt_eq.mp g3)]
    exact ivI_ok g4 (hB r hr).1 (hB r hr).2
theorem cutI {C : Prop} (x v w : Int32) (e : v.toInt + 1 = w.toInt) (h1 : x ≤ v → C) (h2 : w ≤ x → C) : C := by
  by_cases h : x ≤ v
  · exact h1 h
  · refine h2 (Int32.le_iff_toInt_le.mpr ?_)
    have h3 : ¬ x.toInt ≤ v.toInt := fun g => h (Int32.le_iff_toInt_le.mpr g)
    omega
theorem i_lo (x : Int32) : (-2147483648 : Int32) ≤ x := by
  rw [Int32.le_iff_toInt_le]
  have := Int32.le_toInt x
  exact this
theorem i_hi (x : Int32) : x ≤ (2147483647 : Int32) := by
  rw [Int32.le_iff_toInt_le]
  have := Int32.toInt_lt x
  have e : (2147483647 : Int32).toInt = 2147483647 := by decide
  rw [e]
  omega
theorem and31 (x : Int32) : (x &&& 31) ∈ (List.range 32).map Int32.ofNat := by
  have h1 : (x &&& 31).toUInt32.toNat ≤ 31 := by
    show (x &&& 31).toBitVec.toNat ≤ 31
    rw [Int32.toBitVec_and, BitVec.toNat_and]
    exact Nat.and_le_right
  refine List.mem_map.mpr ⟨(x &&& 31).toUInt32.toNat, List.mem_range.mpr (by omega), ?_⟩
  generalize x &&& 31 = y at h1 ⊢
  apply Int32.toBitVec_inj.mp
  show BitVec.ofNat 32 y.toBitVec.toNat = y.toBitVec
  simp
