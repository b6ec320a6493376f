/-! BYTES: what a feed lays in the class and in the reference is one byte -/
theorem byt_n : ∀ b, b < 256 → vp_nar .byte ((Int8.ofNat b).toInt32) = sB b := by decide +kernel
theorem byt_8 (x : Int32) : x.toInt8 = Int8.ofNat (x.toBitVec.toNat % 256) := by
  apply Int8.toInt_inj.mp
  have h1 : x.toInt = (x.toBitVec.toNat : Int).bmod (2 ^ 32) := BitVec.toInt_eq_toNat_bmod x.toBitVec
  rw [Int32.toInt_toInt8, h1, Int8.toInt_ofNat']
  have h2 := x.toBitVec.isLt
  generalize x.toBitVec.toNat = m at *
  rw [show Int8.size = 256 from rfl]
  simp only [Int.bmod]
  omega
theorem byt_a (x : Int32) : x &&& (Int16.ofInt 255).toInt32 = nI (x.toBitVec.toNat % 256) := by
  apply Int32.toBitVec_inj.mp
  apply BitVec.eq_of_toNat_eq
  show (x.toBitVec &&& (Int16.ofInt 255).toInt32.toBitVec).toNat = (BitVec.ofNat 32 (x.toBitVec.toNat % 256)).toNat
  rw [BitVec.toNat_and, BitVec.toNat_ofNat, show (Int16.ofInt 255).toInt32.toBitVec.toNat = 2 ^ 8 - 1 by decide, Nat.and_two_pow_sub_one_eq_mod]
  omega
theorem byt_b (v : Int32) (i : Nat) : ∃ b, b < 256 ∧ tbB v i = sB b ∧ tbI v i = nI b := by
  refine ⟨(v >>> (shI i &&& 31)).toBitVec.toNat % 256, Nat.mod_lt _ (by decide), ?_, ?_⟩
  · unfold tbB
    rw [byt_8]
    exact byt_n _ (Nat.mod_lt _ (by decide))
  · exact byt_a _
